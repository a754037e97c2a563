theorem dX0_init_0 : decode cX0_init 0 = .ok (.aload_n 0, 1) := by decide +kernel
theorem dX0_init_1 : decode cX0_init 1 = .ok (.invokespecial 3, 3) := by decide +kernel
theorem dX0_init_4 : decode cX0_init 4 = .ok (.aload_n 0, 1) := by decide +kernel
theorem dX0_init_5 : decode cX0_init 5 = .ok (.iconst 0, 1) := by decide +kernel
theorem dX0_init_6 : decode cX0_init 6 = .ok (.putfield 9, 3) := by decide +kernel
theorem dX0_init_9 : decode cX0_init 9 = .ok (.aload_n 0, 1) := by decide +kernel
theorem dX0_init_10 : decode cX0_init 10 = .ok (.iload_n 1, 1) := by decide +kernel
theorem dX0_init_11 : decode cX0_init 11 = .ok (.iconst 0, 1) := by decide +kernel
theorem dX0_init_12 : decode cX0_init 12 = .ok (.invokestatic 15, 3) := by decide +kernel
theorem dX0_init_15 : decode cX0_init 15 = .ok (.newarray .int, 2) := by decide +kernel
theorem dX0_init_17 : decode cX0_init 17 = .ok (.putfield 21, 3) := by decide +kernel
theorem dX0_init_20 : decode cX0_init 20 = .ok (.return_, 1) := by decide +kernel
theorem dX0_clear_0 : decode cX0_clear 0 = .ok (.aload_n 0, 1) := by decide +kernel
theorem dX0_clear_1 : decode cX0_clear 1 = .ok (.iconst 0, 1) := by decide +kernel
theorem dX0_clear_2 : decode cX0_clear 2 = .ok (.putfield 9, 3) := by decide +kernel
theorem dX0_clear_5 : decode cX0_clear 5 = .ok (.return_, 1) := by decide +kernel
theorem dX0_room_0 : decode cX0_room 0 = .ok (.aload_n 0, 1) := by decide +kernel
theorem dX0_room_1 : decode cX0_room 1 = .ok (.getfield 21, 3) := by decide +kernel
theorem dX0_room_4 : decode cX0_room 4 = .ok (.arraylength, 1) := by decide +kernel
theorem dX0_room_5 : decode cX0_room 5 = .ok (.aload_n 0, 1) := by decide +kernel
theorem dX0_room_6 : decode cX0_room 6 = .ok (.getfield 9, 3) := by decide +kernel
theorem dX0_room_9 : decode cX0_room 9 = .ok (.isub, 1) := by decide +kernel
theorem dX0_room_10 : decode cX0_room 10 = .ok (.ireturn, 1) := by decide +kernel
theorem dX0_addByte_0 : decode cX0_addByte 0 = .ok (.aload_n 0, 1) := by decide +kernel
theorem dX0_addByte_1 : decode cX0_addByte 1 = .ok (.getfield 9, 3) := by decide +kernel
theorem dX0_addByte_4 : decode cX0_addByte 4 = .ok (.aload_n 0, 1) := by decide +kernel
theorem dX0_addByte_5 : decode cX0_addByte 5 = .ok (.getfield 21, 3) := by decide +kernel
theorem dX0_addByte_8 : decode cX0_addByte 8 = .ok (.arraylength, 1) := by decide +kernel
theorem dX0_addByte_9 : decode cX0_addByte 9 = .ok (.if_icmp .lt 5, 3) := by decide +kernel
theorem dX0_addByte_12 : decode cX0_addByte 12 = .ok (.iconst 0, 1) := by decide +kernel
theorem dX0_addByte_13 : decode cX0_addByte 13 = .ok (.ireturn, 1) := by decide +kernel
theorem dX0_addByte_14 : decode cX0_addByte 14 = .ok (.aload_n 0, 1) := by decide +kernel
theorem dX0_addByte_15 : decode cX0_addByte 15 = .ok (.getfield 21, 3) := by decide +kernel
theorem dX0_addByte_18 : decode cX0_addByte 18 = .ok (.aload_n 0, 1) := by decide +kernel
theorem dX0_addByte_19 : decode cX0_addByte 19 = .ok (.getfield 9, 3) := by decide +kernel
theorem dX0_addByte_22 : decode cX0_addByte 22 = .ok (.iload_n 1, 1) := by decide +kernel
theorem dX0_addByte_23 : decode cX0_addByte 23 = .ok (.sipush 255, 3) := by decide +kernel
theorem dX0_addByte_26 : decode cX0_addByte 26 = .ok (.iand, 1) := by decide +kernel
theorem dX0_addByte_27 : decode cX0_addByte 27 = .ok (.iastore, 1) := by decide +kernel
theorem dX0_addByte_28 : decode cX0_addByte 28 = .ok (.aload_n 0, 1) := by decide +kernel
theorem dX0_addByte_29 : decode cX0_addByte 29 = .ok (.dup, 1) := by decide +kernel
theorem dX0_addByte_30 : decode cX0_addByte 30 = .ok (.getfield 9, 3) := by decide +kernel
theorem dX0_addByte_33 : decode cX0_addByte 33 = .ok (.iconst 1, 1) := by decide +kernel
theorem dX0_addByte_34 : decode cX0_addByte 34 = .ok (.iadd, 1) := by decide +kernel
theorem dX0_addByte_35 : decode cX0_addByte 35 = .ok (.putfield 9, 3) := by decide +kernel
theorem dX0_addByte_38 : decode cX0_addByte 38 = .ok (.iconst 1, 1) := by decide +kernel
theorem dX0_addByte_39 : decode cX0_addByte 39 = .ok (.ireturn, 1) := by decide +kernel
theorem dX0_addWord_0 : decode cX0_addWord 0 = .ok (.bipush 24, 2) := by decide +kernel
theorem dX0_addWord_2 : decode cX0_addWord 2 = .ok (.istore_n 2, 1) := by decide +kernel
theorem dX0_addWord_3 : decode cX0_addWord 3 = .ok (.iload_n 2, 1) := by decide +kernel
theorem dX0_addWord_4 : decode cX0_addWord 4 = .ok (.ifCond .lt 17, 3) := by decide +kernel
theorem dX0_addWord_7 : decode cX0_addWord 7 = .ok (.aload_n 0, 1) := by decide +kernel
theorem dX0_addWord_8 : decode cX0_addWord 8 = .ok (.iload_n 1, 1) := by decide +kernel
theorem dX0_addWord_9 : decode cX0_addWord 9 = .ok (.iload_n 2, 1) := by decide +kernel
theorem dX0_addWord_10 : decode cX0_addWord 10 = .ok (.ishr, 1) := by decide +kernel
theorem dX0_addWord_11 : decode cX0_addWord 11 = .ok (.invokevirtual 25, 3) := by decide +kernel
theorem dX0_addWord_14 : decode cX0_addWord 14 = .ok (.pop, 1) := by decide +kernel
theorem dX0_addWord_15 : decode cX0_addWord 15 = .ok (.iinc 2 (-8), 3) := by decide +kernel
theorem dX0_addWord_18 : decode cX0_addWord 18 = .ok (.goto (-15), 3) := by decide +kernel
theorem dX0_addWord_21 : decode cX0_addWord 21 = .ok (.return_, 1) := by decide +kernel
theorem dX0_addPart_0 : decode cX0_addPart 0 = .ok (.iload_n 2, 1) := by decide +kernel
theorem dX0_addPart_1 : decode cX0_addPart 1 = .ok (.ifCond .lt 23, 3) := by decide +kernel
theorem dX0_addPart_4 : decode cX0_addPart 4 = .ok (.iload_n 3, 1) := by decide +kernel
theorem dX0_addPart_5 : decode cX0_addPart 5 = .ok (.ifCond .lt 19, 3) := by decide +kernel
theorem dX0_addPart_8 : decode cX0_addPart 8 = .ok (.iload_n 3, 1) := by decide +kernel
theorem dX0_addPart_9 : decode cX0_addPart 9 = .ok (.aload_n 1, 1) := by decide +kernel
theorem dX0_addPart_10 : decode cX0_addPart 10 = .ok (.arraylength, 1) := by decide +kernel
theorem dX0_addPart_11 : decode cX0_addPart 11 = .ok (.iload_n 2, 1) := by decide +kernel
theorem dX0_addPart_12 : decode cX0_addPart 12 = .ok (.isub, 1) := by decide +kernel
theorem dX0_addPart_13 : decode cX0_addPart 13 = .ok (.if_icmp .gt 11, 3) := by decide +kernel
theorem dX0_addPart_16 : decode cX0_addPart 16 = .ok (.iload_n 3, 1) := by decide +kernel
theorem dX0_addPart_17 : decode cX0_addPart 17 = .ok (.aload_n 0, 1) := by decide +kernel
theorem dX0_addPart_18 : decode cX0_addPart 18 = .ok (.invokevirtual 29, 3) := by decide +kernel
theorem dX0_addPart_21 : decode cX0_addPart 21 = .ok (.if_icmp .le 5, 3) := by decide +kernel
theorem dX0_addPart_24 : decode cX0_addPart 24 = .ok (.iconst 0, 1) := by decide +kernel
theorem dX0_addPart_25 : decode cX0_addPart 25 = .ok (.ireturn, 1) := by decide +kernel
theorem dX0_addPart_26 : decode cX0_addPart 26 = .ok (.aload_n 1, 1) := by decide +kernel
theorem dX0_addPart_27 : decode cX0_addPart 27 = .ok (.iload_n 2, 1) := by decide +kernel
theorem dX0_addPart_28 : decode cX0_addPart 28 = .ok (.aload_n 0, 1) := by decide +kernel
theorem dX0_addPart_29 : decode cX0_addPart 29 = .ok (.getfield 21, 3) := by decide +kernel
theorem dX0_addPart_32 : decode cX0_addPart 32 = .ok (.aload_n 0, 1) := by decide +kernel
theorem dX0_addPart_33 : decode cX0_addPart 33 = .ok (.getfield 9, 3) := by decide +kernel
theorem dX0_addPart_36 : decode cX0_addPart 36 = .ok (.iload_n 3, 1) := by decide +kernel
theorem dX0_addPart_37 : decode cX0_addPart 37 = .ok (.invokestatic 33, 3) := by decide +kernel
theorem dX0_addPart_40 : decode cX0_addPart 40 = .ok (.aload_n 0, 1) := by decide +kernel
theorem dX0_addPart_41 : decode cX0_addPart 41 = .ok (.dup, 1) := by decide +kernel
theorem dX0_addPart_42 : decode cX0_addPart 42 = .ok (.getfield 9, 3) := by decide +kernel
theorem dX0_addPart_45 : decode cX0_addPart 45 = .ok (.iload_n 3, 1) := by decide +kernel
theorem dX0_addPart_46 : decode cX0_addPart 46 = .ok (.iadd, 1) := by decide +kernel
theorem dX0_addPart_47 : decode cX0_addPart 47 = .ok (.putfield 9, 3) := by decide +kernel
theorem dX0_addPart_50 : decode cX0_addPart 50 = .ok (.iconst 1, 1) := by decide +kernel
theorem dX0_addPart_51 : decode cX0_addPart 51 = .ok (.ireturn, 1) := by decide +kernel
theorem dX0_firstBytes_0 : decode cX0_firstBytes 0 = .ok (.aload_n 0, 1) := by decide +kernel
theorem dX0_firstBytes_1 : decode cX0_firstBytes 1 = .ok (.getfield 21, 3) := by decide +kernel
theorem dX0_firstBytes_4 : decode cX0_firstBytes 4 = .ok (.iconst 0, 1) := by decide +kernel
theorem dX0_firstBytes_5 : decode cX0_firstBytes 5 = .ok (.iload_n 1, 1) := by decide +kernel
theorem dX0_firstBytes_6 : decode cX0_firstBytes 6 = .ok (.aload_n 0, 1) := by decide +kernel
theorem dX0_firstBytes_7 : decode cX0_firstBytes 7 = .ok (.getfield 9, 3) := by decide +kernel
theorem dX0_firstBytes_10 : decode cX0_firstBytes 10 = .ok (.invokestatic 39, 3) := by decide +kernel
theorem dX0_firstBytes_13 : decode cX0_firstBytes 13 = .ok (.invokestatic 15, 3) := by decide +kernel
theorem dX0_firstBytes_16 : decode cX0_firstBytes 16 = .ok (.invokestatic 42, 3) := by decide +kernel
theorem dX0_firstBytes_19 : decode cX0_firstBytes 19 = .ok (.areturn, 1) := by decide +kernel
theorem dX1_init_0 : decode cX1_init 0 = .ok (.aload_n 0, 1) := by decide +kernel
theorem dX1_init_1 : decode cX1_init 1 = .ok (.invokespecial 3, 3) := by decide +kernel
theorem dX1_init_4 : decode cX1_init 4 = .ok (.aload_n 0, 1) := by decide +kernel
theorem dX1_init_5 : decode cX1_init 5 = .ok (.bipush 8, 2) := by decide +kernel
theorem dX1_init_7 : decode cX1_init 7 = .ok (.newarray .int, 2) := by decide +kernel
theorem dX1_init_9 : decode cX1_init 9 = .ok (.putfield 9, 3) := by decide +kernel
theorem dX1_init_12 : decode cX1_init 12 = .ok (.aload_n 0, 1) := by decide +kernel
theorem dX1_init_13 : decode cX1_init 13 = .ok (.bipush 8, 2) := by decide +kernel
theorem dX1_init_15 : decode cX1_init 15 = .ok (.newarray .int, 2) := by decide +kernel
theorem dX1_init_17 : decode cX1_init 17 = .ok (.putfield 15, 3) := by decide +kernel
theorem dX1_init_20 : decode cX1_init 20 = .ok (.aload_n 0, 1) := by decide +kernel
theorem dX1_init_21 : decode cX1_init 21 = .ok (.getfield 9, 3) := by decide +kernel
theorem dX1_init_24 : decode cX1_init 24 = .ok (.sipush 999, 3) := by decide +kernel
theorem dX1_init_27 : decode cX1_init 27 = .ok (.invokestatic 18, 3) := by decide +kernel
theorem dX1_init_30 : decode cX1_init 30 = .ok (.aload_n 0, 1) := by decide +kernel
theorem dX1_init_31 : decode cX1_init 31 = .ok (.getfield 15, 3) := by decide +kernel
theorem dX1_init_34 : decode cX1_init 34 = .ok (.sipush 999, 3) := by decide +kernel
theorem dX1_init_37 : decode cX1_init 37 = .ok (.invokestatic 18, 3) := by decide +kernel
theorem dX1_init_40 : decode cX1_init 40 = .ok (.return_, 1) := by decide +kernel
theorem dX1_knows_0 : decode cX1_knows 0 = .ok (.iload_n 1, 1) := by decide +kernel
theorem dX1_knows_1 : decode cX1_knows 1 = .ok (.ifCond .lt 13, 3) := by decide +kernel
theorem dX1_knows_4 : decode cX1_knows 4 = .ok (.iload_n 1, 1) := by decide +kernel
theorem dX1_knows_5 : decode cX1_knows 5 = .ok (.bipush 8, 2) := by decide +kernel
theorem dX1_knows_7 : decode cX1_knows 7 = .ok (.if_icmp .ge 7, 3) := by decide +kernel
theorem dX1_knows_10 : decode cX1_knows 10 = .ok (.iconst 1, 1) := by decide +kernel
theorem dX1_knows_11 : decode cX1_knows 11 = .ok (.goto 4, 3) := by decide +kernel
theorem dX1_knows_14 : decode cX1_knows 14 = .ok (.iconst 0, 1) := by decide +kernel
theorem dX1_knows_15 : decode cX1_knows 15 = .ok (.ireturn, 1) := by decide +kernel
theorem dX1_setEnds_0 : decode cX1_setEnds 0 = .ok (.aload_n 0, 1) := by decide +kernel
theorem dX1_setEnds_1 : decode cX1_setEnds 1 = .ok (.iload_n 1, 1) := by decide +kernel
theorem dX1_setEnds_2 : decode cX1_setEnds 2 = .ok (.invokevirtual 24, 3) := by decide +kernel
theorem dX1_setEnds_5 : decode cX1_setEnds 5 = .ok (.ifCond .eq 17, 3) := by decide +kernel
theorem dX1_setEnds_8 : decode cX1_setEnds 8 = .ok (.aload_n 0, 1) := by decide +kernel
theorem dX1_setEnds_9 : decode cX1_setEnds 9 = .ok (.getfield 9, 3) := by decide +kernel
theorem dX1_setEnds_12 : decode cX1_setEnds 12 = .ok (.iload_n 1, 1) := by decide +kernel
theorem dX1_setEnds_13 : decode cX1_setEnds 13 = .ok (.iload_n 2, 1) := by decide +kernel
theorem dX1_setEnds_14 : decode cX1_setEnds 14 = .ok (.iastore, 1) := by decide +kernel
theorem dX1_setEnds_15 : decode cX1_setEnds 15 = .ok (.aload_n 0, 1) := by decide +kernel
theorem dX1_setEnds_16 : decode cX1_setEnds 16 = .ok (.getfield 15, 3) := by decide +kernel
theorem dX1_setEnds_19 : decode cX1_setEnds 19 = .ok (.iload_n 1, 1) := by decide +kernel
theorem dX1_setEnds_20 : decode cX1_setEnds 20 = .ok (.iload_n 3, 1) := by decide +kernel
theorem dX1_setEnds_21 : decode cX1_setEnds 21 = .ok (.iastore, 1) := by decide +kernel
theorem dX1_setEnds_22 : decode cX1_setEnds 22 = .ok (.return_, 1) := by decide +kernel
theorem dX1_endOf_0 : decode cX1_endOf 0 = .ok (.aload_n 0, 1) := by decide +kernel
theorem dX1_endOf_1 : decode cX1_endOf 1 = .ok (.iload_n 1, 1) := by decide +kernel
theorem dX1_endOf_2 : decode cX1_endOf 2 = .ok (.invokevirtual 24, 3) := by decide +kernel
theorem dX1_endOf_5 : decode cX1_endOf 5 = .ok (.ifCond .ne 5, 3) := by decide +kernel
theorem dX1_endOf_8 : decode cX1_endOf 8 = .ok (.iconst (-1), 1) := by decide +kernel
theorem dX1_endOf_9 : decode cX1_endOf 9 = .ok (.ireturn, 1) := by decide +kernel
theorem dX1_endOf_10 : decode cX1_endOf 10 = .ok (.iload_n 2, 1) := by decide +kernel
theorem dX1_endOf_11 : decode cX1_endOf 11 = .ok (.ifCond .eq 12, 3) := by decide +kernel
theorem dX1_endOf_14 : decode cX1_endOf 14 = .ok (.aload_n 0, 1) := by decide +kernel
theorem dX1_endOf_15 : decode cX1_endOf 15 = .ok (.getfield 9, 3) := by decide +kernel
theorem dX1_endOf_18 : decode cX1_endOf 18 = .ok (.iload_n 1, 1) := by decide +kernel
theorem dX1_endOf_19 : decode cX1_endOf 19 = .ok (.iaload, 1) := by decide +kernel
theorem dX1_endOf_20 : decode cX1_endOf 20 = .ok (.goto 9, 3) := by decide +kernel
theorem dX1_endOf_23 : decode cX1_endOf 23 = .ok (.aload_n 0, 1) := by decide +kernel
theorem dX1_endOf_24 : decode cX1_endOf 24 = .ok (.getfield 15, 3) := by decide +kernel
theorem dX1_endOf_27 : decode cX1_endOf 27 = .ok (.iload_n 1, 1) := by decide +kernel
theorem dX1_endOf_28 : decode cX1_endOf 28 = .ok (.iaload, 1) := by decide +kernel
theorem dX1_endOf_29 : decode cX1_endOf 29 = .ok (.ireturn, 1) := by decide +kernel
theorem dX1_liveSurely_0 : decode cX1_liveSurely 0 = .ok (.iload_n 2, 1) := by decide +kernel
theorem dX1_liveSurely_1 : decode cX1_liveSurely 1 = .ok (.aload_n 0, 1) := by decide +kernel
theorem dX1_liveSurely_2 : decode cX1_liveSurely 2 = .ok (.iload_n 1, 1) := by decide +kernel
theorem dX1_liveSurely_3 : decode cX1_liveSurely 3 = .ok (.iconst 1, 1) := by decide +kernel
theorem dX1_liveSurely_4 : decode cX1_liveSurely 4 = .ok (.invokevirtual 28, 3) := by decide +kernel
theorem dX1_liveSurely_7 : decode cX1_liveSurely 7 = .ok (.if_icmp .gt 7, 3) := by decide +kernel
theorem dX1_liveSurely_10 : decode cX1_liveSurely 10 = .ok (.iconst 1, 1) := by decide +kernel
theorem dX1_liveSurely_11 : decode cX1_liveSurely 11 = .ok (.goto 4, 3) := by decide +kernel
theorem dX1_liveSurely_14 : decode cX1_liveSurely 14 = .ok (.iconst 0, 1) := by decide +kernel
theorem dX1_liveSurely_15 : decode cX1_liveSurely 15 = .ok (.ireturn, 1) := by decide +kernel
theorem dX2_init_0 : decode cX2_init 0 = .ok (.aload_n 0, 1) := by decide +kernel
theorem dX2_init_1 : decode cX2_init 1 = .ok (.invokespecial 1, 3) := by decide +kernel
theorem dX2_init_4 : decode cX2_init 4 = .ok (.aload_n 0, 1) := by decide +kernel
theorem dX2_init_5 : decode cX2_init 5 = .ok (.aload_n 1, 1) := by decide +kernel
theorem dX2_init_6 : decode cX2_init 6 = .ok (.putfield 7, 3) := by decide +kernel
theorem dX2_init_9 : decode cX2_init 9 = .ok (.aload_n 0, 1) := by decide +kernel
theorem dX2_init_10 : decode cX2_init 10 = .ok (.iload_n 2, 1) := by decide +kernel
theorem dX2_init_11 : decode cX2_init 11 = .ok (.putfield 13, 3) := by decide +kernel
theorem dX2_init_14 : decode cX2_init 14 = .ok (.aload_n 0, 1) := by decide +kernel
theorem dX2_init_15 : decode cX2_init 15 = .ok (.iload_n 3, 1) := by decide +kernel
theorem dX2_init_16 : decode cX2_init 16 = .ok (.putfield 17, 3) := by decide +kernel
theorem dX2_init_19 : decode cX2_init 19 = .ok (.aload_n 0, 1) := by decide +kernel
theorem dX2_init_20 : decode cX2_init 20 = .ok (.iload 4, 2) := by decide +kernel
theorem dX2_init_22 : decode cX2_init 22 = .ok (.putfield 21, 3) := by decide +kernel
theorem dX2_init_25 : decode cX2_init 25 = .ok (.return_, 1) := by decide +kernel
theorem dX2_marks_0 : decode cX2_marks 0 = .ok (.aload_n 1, 1) := by decide +kernel
theorem dX2_marks_1 : decode cX2_marks 1 = .ok (.arraylength, 1) := by decide +kernel
theorem dX2_marks_2 : decode cX2_marks 2 = .ok (.aload_n 0, 1) := by decide +kernel
theorem dX2_marks_3 : decode cX2_marks 3 = .ok (.getfield 7, 3) := by decide +kernel
theorem dX2_marks_6 : decode cX2_marks 6 = .ok (.arraylength, 1) := by decide +kernel
theorem dX2_marks_7 : decode cX2_marks 7 = .ok (.if_icmp .ge 5, 3) := by decide +kernel
theorem dX2_marks_10 : decode cX2_marks 10 = .ok (.iconst 0, 1) := by decide +kernel
theorem dX2_marks_11 : decode cX2_marks 11 = .ok (.ireturn, 1) := by decide +kernel
theorem dX2_marks_12 : decode cX2_marks 12 = .ok (.iconst 0, 1) := by decide +kernel
theorem dX2_marks_13 : decode cX2_marks 13 = .ok (.istore_n 2, 1) := by decide +kernel
theorem dX2_marks_14 : decode cX2_marks 14 = .ok (.iload_n 2, 1) := by decide +kernel
theorem dX2_marks_15 : decode cX2_marks 15 = .ok (.aload_n 0, 1) := by decide +kernel
theorem dX2_marks_16 : decode cX2_marks 16 = .ok (.getfield 7, 3) := by decide +kernel
theorem dX2_marks_19 : decode cX2_marks 19 = .ok (.arraylength, 1) := by decide +kernel
theorem dX2_marks_20 : decode cX2_marks 20 = .ok (.if_icmp .ge 23, 3) := by decide +kernel
theorem dX2_marks_23 : decode cX2_marks 23 = .ok (.aload_n 1, 1) := by decide +kernel
theorem dX2_marks_24 : decode cX2_marks 24 = .ok (.iload_n 2, 1) := by decide +kernel
theorem dX2_marks_25 : decode cX2_marks 25 = .ok (.iaload, 1) := by decide +kernel
theorem dX2_marks_26 : decode cX2_marks 26 = .ok (.aload_n 0, 1) := by decide +kernel
theorem dX2_marks_27 : decode cX2_marks 27 = .ok (.getfield 7, 3) := by decide +kernel
theorem dX2_marks_30 : decode cX2_marks 30 = .ok (.iload_n 2, 1) := by decide +kernel
theorem dX2_marks_31 : decode cX2_marks 31 = .ok (.iaload, 1) := by decide +kernel
theorem dX2_marks_32 : decode cX2_marks 32 = .ok (.if_icmp .eq 5, 3) := by decide +kernel
theorem dX2_marks_35 : decode cX2_marks 35 = .ok (.iconst 0, 1) := by decide +kernel
theorem dX2_marks_36 : decode cX2_marks 36 = .ok (.ireturn, 1) := by decide +kernel
theorem dX2_marks_37 : decode cX2_marks 37 = .ok (.iinc 2 1, 3) := by decide +kernel
theorem dX2_marks_40 : decode cX2_marks 40 = .ok (.goto (-26), 3) := by decide +kernel
theorem dX2_marks_43 : decode cX2_marks 43 = .ok (.iconst 1, 1) := by decide +kernel
theorem dX2_marks_44 : decode cX2_marks 44 = .ok (.ireturn, 1) := by decide +kernel
theorem dX3_init_0 : decode cX3_init 0 = .ok (.aload_n 0, 1) := by decide +kernel
theorem dX3_init_1 : decode cX3_init 1 = .ok (.invokespecial 3, 3) := by decide +kernel
theorem dX3_init_4 : decode cX3_init 4 = .ok (.aload_n 0, 1) := by decide +kernel
theorem dX3_init_5 : decode cX3_init 5 = .ok (.bipush 24, 2) := by decide +kernel
theorem dX3_init_7 : decode cX3_init 7 = .ok (.newarray .int, 2) := by decide +kernel
theorem dX3_init_9 : decode cX3_init 9 = .ok (.putfield 9, 3) := by decide +kernel
theorem dX3_init_12 : decode cX3_init 12 = .ok (.aload_n 0, 1) := by decide +kernel
theorem dX3_init_13 : decode cX3_init 13 = .ok (.bipush 24, 2) := by decide +kernel
theorem dX3_init_15 : decode cX3_init 15 = .ok (.newarray .int, 2) := by decide +kernel
theorem dX3_init_17 : decode cX3_init 17 = .ok (.putfield 15, 3) := by decide +kernel
theorem dX3_init_20 : decode cX3_init 20 = .ok (.aload_n 0, 1) := by decide +kernel
theorem dX3_init_21 : decode cX3_init 21 = .ok (.iconst 0, 1) := by decide +kernel
theorem dX3_init_22 : decode cX3_init 22 = .ok (.putfield 18, 3) := by decide +kernel
theorem dX3_init_25 : decode cX3_init 25 = .ok (.return_, 1) := by decide +kernel
theorem dX3_add_0 : decode cX3_add 0 = .ok (.aload_n 0, 1) := by decide +kernel
theorem dX3_add_1 : decode cX3_add 1 = .ok (.getfield 18, 3) := by decide +kernel
theorem dX3_add_4 : decode cX3_add 4 = .ok (.bipush 24, 2) := by decide +kernel
theorem dX3_add_6 : decode cX3_add 6 = .ok (.if_icmp .ge 12, 3) := by decide +kernel
theorem dX3_add_9 : decode cX3_add 9 = .ok (.aload_n 0, 1) := by decide +kernel
theorem dX3_add_10 : decode cX3_add 10 = .ok (.iload_n 1, 1) := by decide +kernel
theorem dX3_add_11 : decode cX3_add 11 = .ok (.iload_n 2, 1) := by decide +kernel
theorem dX3_add_12 : decode cX3_add 12 = .ok (.invokevirtual 22, 3) := by decide +kernel
theorem dX3_add_15 : decode cX3_add 15 = .ok (.ifCond .eq 5, 3) := by decide +kernel
theorem dX3_add_18 : decode cX3_add 18 = .ok (.iconst 0, 1) := by decide +kernel
theorem dX3_add_19 : decode cX3_add 19 = .ok (.ireturn, 1) := by decide +kernel
theorem dX3_add_20 : decode cX3_add 20 = .ok (.aload_n 0, 1) := by decide +kernel
theorem dX3_add_21 : decode cX3_add 21 = .ok (.getfield 9, 3) := by decide +kernel
theorem dX3_add_24 : decode cX3_add 24 = .ok (.aload_n 0, 1) := by decide +kernel
theorem dX3_add_25 : decode cX3_add 25 = .ok (.getfield 18, 3) := by decide +kernel
theorem dX3_add_28 : decode cX3_add 28 = .ok (.iload_n 1, 1) := by decide +kernel
theorem dX3_add_29 : decode cX3_add 29 = .ok (.iastore, 1) := by decide +kernel
theorem dX3_add_30 : decode cX3_add 30 = .ok (.aload_n 0, 1) := by decide +kernel
theorem dX3_add_31 : decode cX3_add 31 = .ok (.getfield 15, 3) := by decide +kernel
theorem dX3_add_34 : decode cX3_add 34 = .ok (.aload_n 0, 1) := by decide +kernel
theorem dX3_add_35 : decode cX3_add 35 = .ok (.getfield 18, 3) := by decide +kernel
theorem dX3_add_38 : decode cX3_add 38 = .ok (.iload_n 2, 1) := by decide +kernel
theorem dX3_add_39 : decode cX3_add 39 = .ok (.iastore, 1) := by decide +kernel
theorem dX3_add_40 : decode cX3_add 40 = .ok (.aload_n 0, 1) := by decide +kernel
theorem dX3_add_41 : decode cX3_add 41 = .ok (.dup, 1) := by decide +kernel
theorem dX3_add_42 : decode cX3_add 42 = .ok (.getfield 18, 3) := by decide +kernel
theorem dX3_add_45 : decode cX3_add 45 = .ok (.iconst 1, 1) := by decide +kernel
theorem dX3_add_46 : decode cX3_add 46 = .ok (.iadd, 1) := by decide +kernel
theorem dX3_add_47 : decode cX3_add 47 = .ok (.putfield 18, 3) := by decide +kernel
theorem dX3_add_50 : decode cX3_add 50 = .ok (.iconst 1, 1) := by decide +kernel
theorem dX3_add_51 : decode cX3_add 51 = .ok (.ireturn, 1) := by decide +kernel
theorem dX3_isTold_0 : decode cX3_isTold 0 = .ok (.iconst 0, 1) := by decide +kernel
theorem dX3_isTold_1 : decode cX3_isTold 1 = .ok (.istore_n 3, 1) := by decide +kernel
theorem dX3_isTold_2 : decode cX3_isTold 2 = .ok (.iload_n 3, 1) := by decide +kernel
theorem dX3_isTold_3 : decode cX3_isTold 3 = .ok (.aload_n 0, 1) := by decide +kernel
theorem dX3_isTold_4 : decode cX3_isTold 4 = .ok (.getfield 18, 3) := by decide +kernel
theorem dX3_isTold_7 : decode cX3_isTold 7 = .ok (.if_icmp .ge 31, 3) := by decide +kernel
theorem dX3_isTold_10 : decode cX3_isTold 10 = .ok (.aload_n 0, 1) := by decide +kernel
theorem dX3_isTold_11 : decode cX3_isTold 11 = .ok (.getfield 9, 3) := by decide +kernel
theorem dX3_isTold_14 : decode cX3_isTold 14 = .ok (.iload_n 3, 1) := by decide +kernel
theorem dX3_isTold_15 : decode cX3_isTold 15 = .ok (.iaload, 1) := by decide +kernel
theorem dX3_isTold_16 : decode cX3_isTold 16 = .ok (.iload_n 1, 1) := by decide +kernel
theorem dX3_isTold_17 : decode cX3_isTold 17 = .ok (.if_icmp .ne 15, 3) := by decide +kernel
theorem dX3_isTold_20 : decode cX3_isTold 20 = .ok (.aload_n 0, 1) := by decide +kernel
theorem dX3_isTold_21 : decode cX3_isTold 21 = .ok (.getfield 15, 3) := by decide +kernel
theorem dX3_isTold_24 : decode cX3_isTold 24 = .ok (.iload_n 3, 1) := by decide +kernel
theorem dX3_isTold_25 : decode cX3_isTold 25 = .ok (.iaload, 1) := by decide +kernel
theorem dX3_isTold_26 : decode cX3_isTold 26 = .ok (.iload_n 2, 1) := by decide +kernel
theorem dX3_isTold_27 : decode cX3_isTold 27 = .ok (.if_icmp .ne 5, 3) := by decide +kernel
theorem dX3_isTold_30 : decode cX3_isTold 30 = .ok (.iconst 1, 1) := by decide +kernel
theorem dX3_isTold_31 : decode cX3_isTold 31 = .ok (.ireturn, 1) := by decide +kernel
theorem dX3_isTold_32 : decode cX3_isTold 32 = .ok (.iinc 3 1, 3) := by decide +kernel
theorem dX3_isTold_35 : decode cX3_isTold 35 = .ok (.goto (-33), 3) := by decide +kernel
theorem dX3_isTold_38 : decode cX3_isTold 38 = .ok (.iconst 0, 1) := by decide +kernel
theorem dX3_isTold_39 : decode cX3_isTold 39 = .ok (.ireturn, 1) := by decide +kernel
theorem dX3_makesOpenIn_0 : decode cX3_makesOpenIn 0 = .ok (.iconst 0, 1) := by decide +kernel
theorem dX3_makesOpenIn_1 : decode cX3_makesOpenIn 1 = .ok (.istore_n 3, 1) := by decide +kernel
theorem dX3_makesOpenIn_2 : decode cX3_makesOpenIn 2 = .ok (.iconst 0, 1) := by decide +kernel
theorem dX3_makesOpenIn_3 : decode cX3_makesOpenIn 3 = .ok (.istore 4, 2) := by decide +kernel
theorem dX3_makesOpenIn_5 : decode cX3_makesOpenIn 5 = .ok (.iload 4, 2) := by decide +kernel
theorem dX3_makesOpenIn_7 : decode cX3_makesOpenIn 7 = .ok (.aload_n 0, 1) := by decide +kernel
theorem dX3_makesOpenIn_8 : decode cX3_makesOpenIn 8 = .ok (.getfield 18, 3) := by decide +kernel
theorem dX3_makesOpenIn_11 : decode cX3_makesOpenIn 11 = .ok (.if_icmp .ge 36, 3) := by decide +kernel
theorem dX3_makesOpenIn_14 : decode cX3_makesOpenIn 14 = .ok (.aload_n 1, 1) := by decide +kernel
theorem dX3_makesOpenIn_15 : decode cX3_makesOpenIn 15 = .ok (.aload_n 0, 1) := by decide +kernel
theorem dX3_makesOpenIn_16 : decode cX3_makesOpenIn 16 = .ok (.getfield 15, 3) := by decide +kernel
theorem dX3_makesOpenIn_19 : decode cX3_makesOpenIn 19 = .ok (.iload 4, 2) := by decide +kernel
theorem dX3_makesOpenIn_21 : decode cX3_makesOpenIn 21 = .ok (.iaload, 1) := by decide +kernel
theorem dX3_makesOpenIn_22 : decode cX3_makesOpenIn 22 = .ok (.iload_n 2, 1) := by decide +kernel
theorem dX3_makesOpenIn_23 : decode cX3_makesOpenIn 23 = .ok (.invokevirtual 26, 3) := by decide +kernel
theorem dX3_makesOpenIn_26 : decode cX3_makesOpenIn 26 = .ok (.ifCond .eq 15, 3) := by decide +kernel
theorem dX3_makesOpenIn_29 : decode cX3_makesOpenIn 29 = .ok (.iload_n 3, 1) := by decide +kernel
theorem dX3_makesOpenIn_30 : decode cX3_makesOpenIn 30 = .ok (.iconst 1, 1) := by decide +kernel
theorem dX3_makesOpenIn_31 : decode cX3_makesOpenIn 31 = .ok (.aload_n 0, 1) := by decide +kernel
theorem dX3_makesOpenIn_32 : decode cX3_makesOpenIn 32 = .ok (.getfield 9, 3) := by decide +kernel
theorem dX3_makesOpenIn_35 : decode cX3_makesOpenIn 35 = .ok (.iload 4, 2) := by decide +kernel
theorem dX3_makesOpenIn_37 : decode cX3_makesOpenIn 37 = .ok (.iaload, 1) := by decide +kernel
theorem dX3_makesOpenIn_38 : decode cX3_makesOpenIn 38 = .ok (.ishl, 1) := by decide +kernel
theorem dX3_makesOpenIn_39 : decode cX3_makesOpenIn 39 = .ok (.ior, 1) := by decide +kernel
theorem dX3_makesOpenIn_40 : decode cX3_makesOpenIn 40 = .ok (.istore_n 3, 1) := by decide +kernel
theorem dX3_makesOpenIn_41 : decode cX3_makesOpenIn 41 = .ok (.iinc 4 1, 3) := by decide +kernel
theorem dX3_makesOpenIn_44 : decode cX3_makesOpenIn 44 = .ok (.goto (-39), 3) := by decide +kernel
theorem dX3_makesOpenIn_47 : decode cX3_makesOpenIn 47 = .ok (.iload_n 3, 1) := by decide +kernel
theorem dX3_makesOpenIn_48 : decode cX3_makesOpenIn 48 = .ok (.ireturn, 1) := by decide +kernel
theorem dX4_init_0 : decode cX4_init 0 = .ok (.aload_n 0, 1) := by decide +kernel
theorem dX4_init_1 : decode cX4_init 1 = .ok (.invokespecial 3, 3) := by decide +kernel
theorem dX4_init_4 : decode cX4_init 4 = .ok (.aload_n 0, 1) := by decide +kernel
theorem dX4_init_5 : decode cX4_init 5 = .ok (.bipush 29, 2) := by decide +kernel
theorem dX4_init_7 : decode cX4_init 7 = .ok (.newarray .int, 2) := by decide +kernel
theorem dX4_init_9 : decode cX4_init 9 = .ok (.putfield 9, 3) := by decide +kernel
theorem dX4_init_12 : decode cX4_init 12 = .ok (.aload_n 0, 1) := by decide +kernel
theorem dX4_init_13 : decode cX4_init 13 = .ok (.bipush 29, 2) := by decide +kernel
theorem dX4_init_15 : decode cX4_init 15 = .ok (.newarray .int, 2) := by decide +kernel
theorem dX4_init_17 : decode cX4_init 17 = .ok (.putfield 15, 3) := by decide +kernel
theorem dX4_init_20 : decode cX4_init 20 = .ok (.aload_n 0, 1) := by decide +kernel
theorem dX4_init_21 : decode cX4_init 21 = .ok (.bipush 29, 2) := by decide +kernel
theorem dX4_init_23 : decode cX4_init 23 = .ok (.newarray .int, 2) := by decide +kernel
theorem dX4_init_25 : decode cX4_init 25 = .ok (.putfield 18, 3) := by decide +kernel
theorem dX4_init_28 : decode cX4_init 28 = .ok (.aload_n 0, 1) := by decide +kernel
theorem dX4_init_29 : decode cX4_init 29 = .ok (.iconst 0, 1) := by decide +kernel
theorem dX4_init_30 : decode cX4_init 30 = .ok (.newarray .int, 2) := by decide +kernel
theorem dX4_init_32 : decode cX4_init 32 = .ok (.putfield 21, 3) := by decide +kernel
theorem dX4_init_35 : decode cX4_init 35 = .ok (.aload_n 0, 1) := by decide +kernel
theorem dX4_init_36 : decode cX4_init 36 = .ok (.iconst 0, 1) := by decide +kernel
theorem dX4_init_37 : decode cX4_init 37 = .ok (.putfield 24, 3) := by decide +kernel
theorem dX4_init_40 : decode cX4_init 40 = .ok (.aload_n 0, 1) := by decide +kernel
theorem dX4_init_41 : decode cX4_init 41 = .ok (.iconst 0, 1) := by decide +kernel
theorem dX4_init_42 : decode cX4_init 42 = .ok (.putfield 28, 3) := by decide +kernel
theorem dX4_init_45 : decode cX4_init 45 = .ok (.aload_n 0, 1) := by decide +kernel
theorem dX4_init_46 : decode cX4_init 46 = .ok (.iconst 0, 1) := by decide +kernel
theorem dX4_init_47 : decode cX4_init 47 = .ok (.putfield 31, 3) := by decide +kernel
theorem dX4_init_50 : decode cX4_init 50 = .ok (.return_, 1) := by decide +kernel
theorem dX4_clear_0 : decode cX4_clear 0 = .ok (.aload_n 0, 1) := by decide +kernel
theorem dX4_clear_1 : decode cX4_clear 1 = .ok (.iconst 0, 1) := by decide +kernel
theorem dX4_clear_2 : decode cX4_clear 2 = .ok (.putfield 24, 3) := by decide +kernel
theorem dX4_clear_5 : decode cX4_clear 5 = .ok (.aload_n 0, 1) := by decide +kernel
theorem dX4_clear_6 : decode cX4_clear 6 = .ok (.iconst 0, 1) := by decide +kernel
theorem dX4_clear_7 : decode cX4_clear 7 = .ok (.putfield 28, 3) := by decide +kernel
theorem dX4_clear_10 : decode cX4_clear 10 = .ok (.aload_n 0, 1) := by decide +kernel
theorem dX4_clear_11 : decode cX4_clear 11 = .ok (.iconst 0, 1) := by decide +kernel
theorem dX4_clear_12 : decode cX4_clear 12 = .ok (.putfield 31, 3) := by decide +kernel
theorem dX4_clear_15 : decode cX4_clear 15 = .ok (.return_, 1) := by decide +kernel
theorem dX4_readBy_0 : decode cX4_readBy 0 = .ok (.aload_n 0, 1) := by decide +kernel
theorem dX4_readBy_1 : decode cX4_readBy 1 = .ok (.invokevirtual 34, 3) := by decide +kernel
theorem dX4_readBy_4 : decode cX4_readBy 4 = .ok (.aload_n 0, 1) := by decide +kernel
theorem dX4_readBy_5 : decode cX4_readBy 5 = .ok (.aload_n 2, 1) := by decide +kernel
theorem dX4_readBy_6 : decode cX4_readBy 6 = .ok (.putfield 21, 3) := by decide +kernel
theorem dX4_readBy_9 : decode cX4_readBy 9 = .ok (.aload_n 1, 1) := by decide +kernel
theorem dX4_readBy_10 : decode cX4_readBy 10 = .ok (.aload_n 2, 1) := by decide +kernel
theorem dX4_readBy_11 : decode cX4_readBy 11 = .ok (.invokevirtual 37, 3) := by decide +kernel
theorem dX4_readBy_14 : decode cX4_readBy 14 = .ok (.ifCond .ne 10, 3) := by decide +kernel
theorem dX4_readBy_17 : decode cX4_readBy 17 = .ok (.aload_n 0, 1) := by decide +kernel
theorem dX4_readBy_18 : decode cX4_readBy 18 = .ok (.bipush (-2), 2) := by decide +kernel
theorem dX4_readBy_20 : decode cX4_readBy 20 = .ok (.putfield 31, 3) := by decide +kernel
theorem dX4_readBy_23 : decode cX4_readBy 23 = .ok (.return_, 1) := by decide +kernel
theorem dX4_readBy_24 : decode cX4_readBy 24 = .ok (.aload_n 1, 1) := by decide +kernel
theorem dX4_readBy_25 : decode cX4_readBy 25 = .ok (.getfield 43, 3) := by decide +kernel
theorem dX4_readBy_28 : decode cX4_readBy 28 = .ok (.arraylength, 1) := by decide +kernel
theorem dX4_readBy_29 : decode cX4_readBy 29 = .ok (.istore_n 3, 1) := by decide +kernel
theorem dX4_readBy_30 : decode cX4_readBy 30 = .ok (.aload_n 2, 1) := by decide +kernel
theorem dX4_readBy_31 : decode cX4_readBy 31 = .ok (.arraylength, 1) := by decide +kernel
theorem dX4_readBy_32 : decode cX4_readBy 32 = .ok (.istore 4, 2) := by decide +kernel
theorem dX4_readBy_34 : decode cX4_readBy 34 = .ok (.aload_n 1, 1) := by decide +kernel
theorem dX4_readBy_35 : decode cX4_readBy 35 = .ok (.getfield 46, 3) := by decide +kernel
theorem dX4_readBy_38 : decode cX4_readBy 38 = .ok (.ifCond .eq 37, 3) := by decide +kernel
theorem dX4_readBy_41 : decode cX4_readBy 41 = .ok (.iload 4, 2) := by decide +kernel
theorem dX4_readBy_43 : decode cX4_readBy 43 = .ok (.iload_n 3, 1) := by decide +kernel
theorem dX4_readBy_44 : decode cX4_readBy 44 = .ok (.if_icmp .le 31, 3) := by decide +kernel
theorem dX4_readBy_47 : decode cX4_readBy 47 = .ok (.iinc 4 (-1), 3) := by decide +kernel
theorem dX4_readBy_50 : decode cX4_readBy 50 = .ok (.aload_n 0, 1) := by decide +kernel
theorem dX4_readBy_51 : decode cX4_readBy 51 = .ok (.aload_n 2, 1) := by decide +kernel
theorem dX4_readBy_52 : decode cX4_readBy 52 = .ok (.iload 4, 2) := by decide +kernel
theorem dX4_readBy_54 : decode cX4_readBy 54 = .ok (.iaload, 1) := by decide +kernel
theorem dX4_readBy_55 : decode cX4_readBy 55 = .ok (.aload_n 2, 1) := by decide +kernel
theorem dX4_readBy_56 : decode cX4_readBy 56 = .ok (.iload 4, 2) := by decide +kernel
theorem dX4_readBy_58 : decode cX4_readBy 58 = .ok (.invokestatic 50, 3) := by decide +kernel
theorem dX4_readBy_61 : decode cX4_readBy 61 = .ok (.if_icmp .ne 7, 3) := by decide +kernel
theorem dX4_readBy_64 : decode cX4_readBy 64 = .ok (.iconst 0, 1) := by decide +kernel
theorem dX4_readBy_65 : decode cX4_readBy 65 = .ok (.goto 4, 3) := by decide +kernel
theorem dX4_readBy_68 : decode cX4_readBy 68 = .ok (.iconst 1, 1) := by decide +kernel
theorem dX4_readBy_69 : decode cX4_readBy 69 = .ok (.putfield 31, 3) := by decide +kernel
theorem dX4_readBy_72 : decode cX4_readBy 72 = .ok (.goto 15, 3) := by decide +kernel
theorem dX4_readBy_75 : decode cX4_readBy 75 = .ok (.aload_n 1, 1) := by decide +kernel
theorem dX4_readBy_76 : decode cX4_readBy 76 = .ok (.getfield 46, 3) := by decide +kernel
theorem dX4_readBy_79 : decode cX4_readBy 79 = .ok (.ifCond .eq 8, 3) := by decide +kernel
theorem dX4_readBy_82 : decode cX4_readBy 82 = .ok (.aload_n 0, 1) := by decide +kernel
theorem dX4_readBy_83 : decode cX4_readBy 83 = .ok (.iconst 1, 1) := by decide +kernel
theorem dX4_readBy_84 : decode cX4_readBy 84 = .ok (.putfield 31, 3) := by decide +kernel
theorem dX4_readBy_87 : decode cX4_readBy 87 = .ok (.aload_n 0, 1) := by decide +kernel
theorem dX4_readBy_88 : decode cX4_readBy 88 = .ok (.aload_n 1, 1) := by decide +kernel
theorem dX4_readBy_89 : decode cX4_readBy 89 = .ok (.getfield 54, 3) := by decide +kernel
theorem dX4_readBy_92 : decode cX4_readBy 92 = .ok (.iload_n 3, 1) := by decide +kernel
theorem dX4_readBy_93 : decode cX4_readBy 93 = .ok (.iload 4, 2) := by decide +kernel
theorem dX4_readBy_95 : decode cX4_readBy 95 = .ok (.invokevirtual 57, 3) := by decide +kernel
theorem dX4_readBy_98 : decode cX4_readBy 98 = .ok (.return_, 1) := by decide +kernel
theorem dX4_readRecords_0 : decode cX4_readRecords 0 = .ok (.iload_n 2, 1) := by decide +kernel
theorem dX4_readRecords_1 : decode cX4_readRecords 1 = .ok (.istore 4, 2) := by decide +kernel
theorem dX4_readRecords_3 : decode cX4_readRecords 3 = .ok (.iconst 0, 1) := by decide +kernel
theorem dX4_readRecords_4 : decode cX4_readRecords 4 = .ok (.istore 5, 2) := by decide +kernel
theorem dX4_readRecords_6 : decode cX4_readRecords 6 = .ok (.iload 5, 2) := by decide +kernel
theorem dX4_readRecords_8 : decode cX4_readRecords 8 = .ok (.bipush 60, 2) := by decide +kernel
theorem dX4_readRecords_10 : decode cX4_readRecords 10 = .ok (.if_icmp .ge 122, 3) := by decide +kernel
theorem dX4_readRecords_13 : decode cX4_readRecords 13 = .ok (.iload 4, 2) := by decide +kernel
theorem dX4_readRecords_15 : decode cX4_readRecords 15 = .ok (.iload_n 3, 1) := by decide +kernel
theorem dX4_readRecords_16 : decode cX4_readRecords 16 = .ok (.if_icmp .ge 116, 3) := by decide +kernel
theorem dX4_readRecords_19 : decode cX4_readRecords 19 = .ok (.aload_n 0, 1) := by decide +kernel
theorem dX4_readRecords_20 : decode cX4_readRecords 20 = .ok (.getfield 21, 3) := by decide +kernel
theorem dX4_readRecords_23 : decode cX4_readRecords 23 = .ok (.iload 4, 2) := by decide +kernel
theorem dX4_readRecords_25 : decode cX4_readRecords 25 = .ok (.iaload, 1) := by decide +kernel
theorem dX4_readRecords_26 : decode cX4_readRecords 26 = .ok (.istore 6, 2) := by decide +kernel
theorem dX4_readRecords_28 : decode cX4_readRecords 28 = .ok (.iload 4, 2) := by decide +kernel
theorem dX4_readRecords_30 : decode cX4_readRecords 30 = .ok (.iconst 2, 1) := by decide +kernel
theorem dX4_readRecords_31 : decode cX4_readRecords 31 = .ok (.iadd, 1) := by decide +kernel
theorem dX4_readRecords_32 : decode cX4_readRecords 32 = .ok (.istore 7, 2) := by decide +kernel
theorem dX4_readRecords_34 : decode cX4_readRecords 34 = .ok (.iload 4, 2) := by decide +kernel
theorem dX4_readRecords_36 : decode cX4_readRecords 36 = .ok (.iconst 1, 1) := by decide +kernel
theorem dX4_readRecords_37 : decode cX4_readRecords 37 = .ok (.iadd, 1) := by decide +kernel
theorem dX4_readRecords_38 : decode cX4_readRecords 38 = .ok (.iload_n 3, 1) := by decide +kernel
theorem dX4_readRecords_39 : decode cX4_readRecords 39 = .ok (.if_icmp .ge 15, 3) := by decide +kernel
theorem dX4_readRecords_42 : decode cX4_readRecords 42 = .ok (.aload_n 0, 1) := by decide +kernel
theorem dX4_readRecords_43 : decode cX4_readRecords 43 = .ok (.getfield 21, 3) := by decide +kernel
theorem dX4_readRecords_46 : decode cX4_readRecords 46 = .ok (.iload 4, 2) := by decide +kernel
theorem dX4_readRecords_48 : decode cX4_readRecords 48 = .ok (.iconst 1, 1) := by decide +kernel
theorem dX4_readRecords_49 : decode cX4_readRecords 49 = .ok (.iadd, 1) := by decide +kernel
theorem dX4_readRecords_50 : decode cX4_readRecords 50 = .ok (.iaload, 1) := by decide +kernel
theorem dX4_readRecords_51 : decode cX4_readRecords 51 = .ok (.goto 4, 3) := by decide +kernel
theorem dX4_readRecords_54 : decode cX4_readRecords 54 = .ok (.iconst 0, 1) := by decide +kernel
theorem dX4_readRecords_55 : decode cX4_readRecords 55 = .ok (.istore 8, 2) := by decide +kernel
theorem dX4_readRecords_57 : decode cX4_readRecords 57 = .ok (.iload 8, 2) := by decide +kernel
theorem dX4_readRecords_59 : decode cX4_readRecords 59 = .ok (.iload_n 3, 1) := by decide +kernel
theorem dX4_readRecords_60 : decode cX4_readRecords 60 = .ok (.iload 7, 2) := by decide +kernel
theorem dX4_readRecords_62 : decode cX4_readRecords 62 = .ok (.isub, 1) := by decide +kernel
theorem dX4_readRecords_63 : decode cX4_readRecords 63 = .ok (.if_icmp .gt 7, 3) := by decide +kernel
theorem dX4_readRecords_66 : decode cX4_readRecords 66 = .ok (.iconst 1, 1) := by decide +kernel
theorem dX4_readRecords_67 : decode cX4_readRecords 67 = .ok (.goto 4, 3) := by decide +kernel
theorem dX4_readRecords_70 : decode cX4_readRecords 70 = .ok (.iconst 0, 1) := by decide +kernel
theorem dX4_readRecords_71 : decode cX4_readRecords 71 = .ok (.istore 9, 2) := by decide +kernel
theorem dX4_readRecords_73 : decode cX4_readRecords 73 = .ok (.iload 9, 2) := by decide +kernel
theorem dX4_readRecords_75 : decode cX4_readRecords 75 = .ok (.ifCond .eq 25, 3) := by decide +kernel
theorem dX4_readRecords_78 : decode cX4_readRecords 78 = .ok (.iload_n 1, 1) := by decide +kernel
theorem dX4_readRecords_79 : decode cX4_readRecords 79 = .ok (.iload 6, 2) := by decide +kernel
theorem dX4_readRecords_81 : decode cX4_readRecords 81 = .ok (.invokestatic 61, 3) := by decide +kernel
theorem dX4_readRecords_84 : decode cX4_readRecords 84 = .ok (.ifCond .eq 16, 3) := by decide +kernel
theorem dX4_readRecords_87 : decode cX4_readRecords 87 = .ok (.aload_n 0, 1) := by decide +kernel
theorem dX4_readRecords_88 : decode cX4_readRecords 88 = .ok (.iload 6, 2) := by decide +kernel
theorem dX4_readRecords_90 : decode cX4_readRecords 90 = .ok (.iload 8, 2) := by decide +kernel
theorem dX4_readRecords_92 : decode cX4_readRecords 92 = .ok (.iload 7, 2) := by decide +kernel
theorem dX4_readRecords_94 : decode cX4_readRecords 94 = .ok (.invokevirtual 65, 3) := by decide +kernel
theorem dX4_readRecords_97 : decode cX4_readRecords 97 = .ok (.goto 13, 3) := by decide +kernel
theorem dX4_readRecords_100 : decode cX4_readRecords 100 = .ok (.aload_n 0, 1) := by decide +kernel
theorem dX4_readRecords_101 : decode cX4_readRecords 101 = .ok (.dup, 1) := by decide +kernel
theorem dX4_readRecords_102 : decode cX4_readRecords 102 = .ok (.getfield 31, 3) := by decide +kernel
theorem dX4_readRecords_105 : decode cX4_readRecords 105 = .ok (.iconst 1, 1) := by decide +kernel
theorem dX4_readRecords_106 : decode cX4_readRecords 106 = .ok (.iadd, 1) := by decide +kernel
theorem dX4_readRecords_107 : decode cX4_readRecords 107 = .ok (.putfield 31, 3) := by decide +kernel
theorem dX4_readRecords_110 : decode cX4_readRecords 110 = .ok (.iload 9, 2) := by decide +kernel
theorem dX4_readRecords_112 : decode cX4_readRecords 112 = .ok (.ifCond .eq 11, 3) := by decide +kernel
theorem dX4_readRecords_115 : decode cX4_readRecords 115 = .ok (.iload 7, 2) := by decide +kernel
theorem dX4_readRecords_117 : decode cX4_readRecords 117 = .ok (.iload 8, 2) := by decide +kernel
theorem dX4_readRecords_119 : decode cX4_readRecords 119 = .ok (.iadd, 1) := by decide +kernel
theorem dX4_readRecords_120 : decode cX4_readRecords 120 = .ok (.goto 4, 3) := by decide +kernel
theorem dX4_readRecords_123 : decode cX4_readRecords 123 = .ok (.iload_n 3, 1) := by decide +kernel
theorem dX4_readRecords_124 : decode cX4_readRecords 124 = .ok (.istore 4, 2) := by decide +kernel
theorem dX4_readRecords_126 : decode cX4_readRecords 126 = .ok (.iinc 5 1, 3) := by decide +kernel
theorem dX4_readRecords_129 : decode cX4_readRecords 129 = .ok (.goto (-123), 3) := by decide +kernel
theorem dX4_readRecords_132 : decode cX4_readRecords 132 = .ok (.return_, 1) := by decide +kernel
theorem dX4_addRecord_0 : decode cX4_addRecord 0 = .ok (.aload_n 0, 1) := by decide +kernel
theorem dX4_addRecord_1 : decode cX4_addRecord 1 = .ok (.getfield 24, 3) := by decide +kernel
theorem dX4_addRecord_4 : decode cX4_addRecord 4 = .ok (.bipush 29, 2) := by decide +kernel
theorem dX4_addRecord_6 : decode cX4_addRecord 6 = .ok (.if_icmp .lt 4, 3) := by decide +kernel
theorem dX4_addRecord_9 : decode cX4_addRecord 9 = .ok (.return_, 1) := by decide +kernel
theorem dX4_addRecord_10 : decode cX4_addRecord 10 = .ok (.aload_n 0, 1) := by decide +kernel
theorem dX4_addRecord_11 : decode cX4_addRecord 11 = .ok (.getfield 9, 3) := by decide +kernel
theorem dX4_addRecord_14 : decode cX4_addRecord 14 = .ok (.aload_n 0, 1) := by decide +kernel
theorem dX4_addRecord_15 : decode cX4_addRecord 15 = .ok (.getfield 24, 3) := by decide +kernel
theorem dX4_addRecord_18 : decode cX4_addRecord 18 = .ok (.iload_n 1, 1) := by decide +kernel
theorem dX4_addRecord_19 : decode cX4_addRecord 19 = .ok (.iastore, 1) := by decide +kernel
theorem dX4_addRecord_20 : decode cX4_addRecord 20 = .ok (.aload_n 0, 1) := by decide +kernel
theorem dX4_addRecord_21 : decode cX4_addRecord 21 = .ok (.getfield 15, 3) := by decide +kernel
theorem dX4_addRecord_24 : decode cX4_addRecord 24 = .ok (.aload_n 0, 1) := by decide +kernel
theorem dX4_addRecord_25 : decode cX4_addRecord 25 = .ok (.getfield 24, 3) := by decide +kernel
theorem dX4_addRecord_28 : decode cX4_addRecord 28 = .ok (.iload_n 2, 1) := by decide +kernel
theorem dX4_addRecord_29 : decode cX4_addRecord 29 = .ok (.iastore, 1) := by decide +kernel
theorem dX4_addRecord_30 : decode cX4_addRecord 30 = .ok (.aload_n 0, 1) := by decide +kernel
theorem dX4_addRecord_31 : decode cX4_addRecord 31 = .ok (.getfield 18, 3) := by decide +kernel
theorem dX4_addRecord_34 : decode cX4_addRecord 34 = .ok (.aload_n 0, 1) := by decide +kernel
theorem dX4_addRecord_35 : decode cX4_addRecord 35 = .ok (.getfield 24, 3) := by decide +kernel
theorem dX4_addRecord_38 : decode cX4_addRecord 38 = .ok (.iload_n 3, 1) := by decide +kernel
theorem dX4_addRecord_39 : decode cX4_addRecord 39 = .ok (.iastore, 1) := by decide +kernel
theorem dX4_addRecord_40 : decode cX4_addRecord 40 = .ok (.aload_n 0, 1) := by decide +kernel
theorem dX4_addRecord_41 : decode cX4_addRecord 41 = .ok (.dup, 1) := by decide +kernel
theorem dX4_addRecord_42 : decode cX4_addRecord 42 = .ok (.getfield 24, 3) := by decide +kernel
theorem dX4_addRecord_45 : decode cX4_addRecord 45 = .ok (.iconst 1, 1) := by decide +kernel
theorem dX4_addRecord_46 : decode cX4_addRecord 46 = .ok (.iadd, 1) := by decide +kernel
theorem dX4_addRecord_47 : decode cX4_addRecord 47 = .ok (.putfield 24, 3) := by decide +kernel
theorem dX4_addRecord_50 : decode cX4_addRecord 50 = .ok (.aload_n 0, 1) := by decide +kernel
theorem dX4_addRecord_51 : decode cX4_addRecord 51 = .ok (.dup, 1) := by decide +kernel
theorem dX4_addRecord_52 : decode cX4_addRecord 52 = .ok (.getfield 28, 3) := by decide +kernel
theorem dX4_addRecord_55 : decode cX4_addRecord 55 = .ok (.iconst 1, 1) := by decide +kernel
theorem dX4_addRecord_56 : decode cX4_addRecord 56 = .ok (.iload_n 1, 1) := by decide +kernel
theorem dX4_addRecord_57 : decode cX4_addRecord 57 = .ok (.ishl, 1) := by decide +kernel
theorem dX4_addRecord_58 : decode cX4_addRecord 58 = .ok (.ior, 1) := by decide +kernel
theorem dX4_addRecord_59 : decode cX4_addRecord 59 = .ok (.putfield 28, 3) := by decide +kernel
theorem dX4_addRecord_62 : decode cX4_addRecord 62 = .ok (.return_, 1) := by decide +kernel
theorem dX4_agrees_0 : decode cX4_agrees 0 = .ok (.aload_n 1, 1) := by decide +kernel
theorem dX4_agrees_1 : decode cX4_agrees 1 = .ok (.iload_n 2, 1) := by decide +kernel
theorem dX4_agrees_2 : decode cX4_agrees 2 = .ok (.iconst 0, 1) := by decide +kernel
theorem dX4_agrees_3 : decode cX4_agrees 3 = .ok (.invokevirtual 68, 3) := by decide +kernel
theorem dX4_agrees_6 : decode cX4_agrees 6 = .ok (.istore_n 3, 1) := by decide +kernel
theorem dX4_agrees_7 : decode cX4_agrees 7 = .ok (.iconst 0, 1) := by decide +kernel
theorem dX4_agrees_8 : decode cX4_agrees 8 = .ok (.istore 4, 2) := by decide +kernel
theorem dX4_agrees_10 : decode cX4_agrees 10 = .ok (.iload 4, 2) := by decide +kernel
theorem dX4_agrees_12 : decode cX4_agrees 12 = .ok (.aload_n 0, 1) := by decide +kernel
theorem dX4_agrees_13 : decode cX4_agrees 13 = .ok (.getfield 24, 3) := by decide +kernel
theorem dX4_agrees_16 : decode cX4_agrees 16 = .ok (.if_icmp .ge 50, 3) := by decide +kernel
theorem dX4_agrees_19 : decode cX4_agrees 19 = .ok (.aload_n 0, 1) := by decide +kernel
theorem dX4_agrees_20 : decode cX4_agrees 20 = .ok (.getfield 9, 3) := by decide +kernel
theorem dX4_agrees_23 : decode cX4_agrees 23 = .ok (.iload 4, 2) := by decide +kernel
theorem dX4_agrees_25 : decode cX4_agrees 25 = .ok (.iaload, 1) := by decide +kernel
theorem dX4_agrees_26 : decode cX4_agrees 26 = .ok (.iload_n 2, 1) := by decide +kernel
theorem dX4_agrees_27 : decode cX4_agrees 27 = .ok (.if_icmp .ne 33, 3) := by decide +kernel
theorem dX4_agrees_30 : decode cX4_agrees 30 = .ok (.iload_n 3, 1) := by decide +kernel
theorem dX4_agrees_31 : decode cX4_agrees 31 = .ok (.aload_n 1, 1) := by decide +kernel
theorem dX4_agrees_32 : decode cX4_agrees 32 = .ok (.getfield 24, 3) := by decide +kernel
theorem dX4_agrees_35 : decode cX4_agrees 35 = .ok (.if_icmp .ge 14, 3) := by decide +kernel
theorem dX4_agrees_38 : decode cX4_agrees 38 = .ok (.aload_n 0, 1) := by decide +kernel
theorem dX4_agrees_39 : decode cX4_agrees 39 = .ok (.iload 4, 2) := by decide +kernel
theorem dX4_agrees_41 : decode cX4_agrees 41 = .ok (.aload_n 1, 1) := by decide +kernel
theorem dX4_agrees_42 : decode cX4_agrees 42 = .ok (.iload_n 3, 1) := by decide +kernel
theorem dX4_agrees_43 : decode cX4_agrees 43 = .ok (.invokevirtual 72, 3) := by decide +kernel
theorem dX4_agrees_46 : decode cX4_agrees 46 = .ok (.ifCond .ne 5, 3) := by decide +kernel
theorem dX4_agrees_49 : decode cX4_agrees 49 = .ok (.iconst 0, 1) := by decide +kernel
theorem dX4_agrees_50 : decode cX4_agrees 50 = .ok (.ireturn, 1) := by decide +kernel
theorem dX4_agrees_51 : decode cX4_agrees 51 = .ok (.aload_n 1, 1) := by decide +kernel
theorem dX4_agrees_52 : decode cX4_agrees 52 = .ok (.iload_n 2, 1) := by decide +kernel
theorem dX4_agrees_53 : decode cX4_agrees 53 = .ok (.iload_n 3, 1) := by decide +kernel
theorem dX4_agrees_54 : decode cX4_agrees 54 = .ok (.iconst 1, 1) := by decide +kernel
theorem dX4_agrees_55 : decode cX4_agrees 55 = .ok (.iadd, 1) := by decide +kernel
theorem dX4_agrees_56 : decode cX4_agrees 56 = .ok (.invokevirtual 68, 3) := by decide +kernel
theorem dX4_agrees_59 : decode cX4_agrees 59 = .ok (.istore_n 3, 1) := by decide +kernel
theorem dX4_agrees_60 : decode cX4_agrees 60 = .ok (.iinc 4 1, 3) := by decide +kernel
theorem dX4_agrees_63 : decode cX4_agrees 63 = .ok (.goto (-53), 3) := by decide +kernel
theorem dX4_agrees_66 : decode cX4_agrees 66 = .ok (.iload_n 3, 1) := by decide +kernel
theorem dX4_agrees_67 : decode cX4_agrees 67 = .ok (.aload_n 1, 1) := by decide +kernel
theorem dX4_agrees_68 : decode cX4_agrees 68 = .ok (.getfield 24, 3) := by decide +kernel
theorem dX4_agrees_71 : decode cX4_agrees 71 = .ok (.if_icmp .lt 7, 3) := by decide +kernel
theorem dX4_agrees_74 : decode cX4_agrees 74 = .ok (.iconst 1, 1) := by decide +kernel
theorem dX4_agrees_75 : decode cX4_agrees 75 = .ok (.goto 4, 3) := by decide +kernel
theorem dX4_agrees_78 : decode cX4_agrees 78 = .ok (.iconst 0, 1) := by decide +kernel
theorem dX4_agrees_79 : decode cX4_agrees 79 = .ok (.ireturn, 1) := by decide +kernel
theorem dX4_nextWith_0 : decode cX4_nextWith 0 = .ok (.iload_n 2, 1) := by decide +kernel
theorem dX4_nextWith_1 : decode cX4_nextWith 1 = .ok (.istore_n 3, 1) := by decide +kernel
theorem dX4_nextWith_2 : decode cX4_nextWith 2 = .ok (.iload_n 3, 1) := by decide +kernel
theorem dX4_nextWith_3 : decode cX4_nextWith 3 = .ok (.aload_n 0, 1) := by decide +kernel
theorem dX4_nextWith_4 : decode cX4_nextWith 4 = .ok (.getfield 24, 3) := by decide +kernel
theorem dX4_nextWith_7 : decode cX4_nextWith 7 = .ok (.if_icmp .ge 21, 3) := by decide +kernel
theorem dX4_nextWith_10 : decode cX4_nextWith 10 = .ok (.aload_n 0, 1) := by decide +kernel
theorem dX4_nextWith_11 : decode cX4_nextWith 11 = .ok (.getfield 9, 3) := by decide +kernel
theorem dX4_nextWith_14 : decode cX4_nextWith 14 = .ok (.iload_n 3, 1) := by decide +kernel
theorem dX4_nextWith_15 : decode cX4_nextWith 15 = .ok (.iaload, 1) := by decide +kernel
theorem dX4_nextWith_16 : decode cX4_nextWith 16 = .ok (.iload_n 1, 1) := by decide +kernel
theorem dX4_nextWith_17 : decode cX4_nextWith 17 = .ok (.if_icmp .ne 5, 3) := by decide +kernel
theorem dX4_nextWith_20 : decode cX4_nextWith 20 = .ok (.iload_n 3, 1) := by decide +kernel
theorem dX4_nextWith_21 : decode cX4_nextWith 21 = .ok (.ireturn, 1) := by decide +kernel
theorem dX4_nextWith_22 : decode cX4_nextWith 22 = .ok (.iinc 3 1, 3) := by decide +kernel
theorem dX4_nextWith_25 : decode cX4_nextWith 25 = .ok (.goto (-23), 3) := by decide +kernel
theorem dX4_nextWith_28 : decode cX4_nextWith 28 = .ok (.aload_n 0, 1) := by decide +kernel
theorem dX4_nextWith_29 : decode cX4_nextWith 29 = .ok (.getfield 24, 3) := by decide +kernel
theorem dX4_nextWith_32 : decode cX4_nextWith 32 = .ok (.ireturn, 1) := by decide +kernel
theorem dX4_sameRecord_0 : decode cX4_sameRecord 0 = .ok (.aload_n 0, 1) := by decide +kernel
theorem dX4_sameRecord_1 : decode cX4_sameRecord 1 = .ok (.getfield 15, 3) := by decide +kernel
theorem dX4_sameRecord_4 : decode cX4_sameRecord 4 = .ok (.iload_n 1, 1) := by decide +kernel
theorem dX4_sameRecord_5 : decode cX4_sameRecord 5 = .ok (.iaload, 1) := by decide +kernel
theorem dX4_sameRecord_6 : decode cX4_sameRecord 6 = .ok (.aload_n 2, 1) := by decide +kernel
theorem dX4_sameRecord_7 : decode cX4_sameRecord 7 = .ok (.getfield 15, 3) := by decide +kernel
theorem dX4_sameRecord_10 : decode cX4_sameRecord 10 = .ok (.iload_n 3, 1) := by decide +kernel
theorem dX4_sameRecord_11 : decode cX4_sameRecord 11 = .ok (.iaload, 1) := by decide +kernel
theorem dX4_sameRecord_12 : decode cX4_sameRecord 12 = .ok (.if_icmp .eq 5, 3) := by decide +kernel
theorem dX4_sameRecord_15 : decode cX4_sameRecord 15 = .ok (.iconst 0, 1) := by decide +kernel
theorem dX4_sameRecord_16 : decode cX4_sameRecord 16 = .ok (.ireturn, 1) := by decide +kernel
theorem dX4_sameRecord_17 : decode cX4_sameRecord 17 = .ok (.iconst 0, 1) := by decide +kernel
theorem dX4_sameRecord_18 : decode cX4_sameRecord 18 = .ok (.istore 4, 2) := by decide +kernel
theorem dX4_sameRecord_20 : decode cX4_sameRecord 20 = .ok (.iload 4, 2) := by decide +kernel
theorem dX4_sameRecord_22 : decode cX4_sameRecord 22 = .ok (.aload_n 0, 1) := by decide +kernel
theorem dX4_sameRecord_23 : decode cX4_sameRecord 23 = .ok (.getfield 15, 3) := by decide +kernel
theorem dX4_sameRecord_26 : decode cX4_sameRecord 26 = .ok (.iload_n 1, 1) := by decide +kernel
theorem dX4_sameRecord_27 : decode cX4_sameRecord 27 = .ok (.iaload, 1) := by decide +kernel
theorem dX4_sameRecord_28 : decode cX4_sameRecord 28 = .ok (.if_icmp .ge 42, 3) := by decide +kernel
theorem dX4_sameRecord_31 : decode cX4_sameRecord 31 = .ok (.aload_n 0, 1) := by decide +kernel
theorem dX4_sameRecord_32 : decode cX4_sameRecord 32 = .ok (.getfield 21, 3) := by decide +kernel
theorem dX4_sameRecord_35 : decode cX4_sameRecord 35 = .ok (.aload_n 0, 1) := by decide +kernel
theorem dX4_sameRecord_36 : decode cX4_sameRecord 36 = .ok (.getfield 18, 3) := by decide +kernel
theorem dX4_sameRecord_39 : decode cX4_sameRecord 39 = .ok (.iload_n 1, 1) := by decide +kernel
theorem dX4_sameRecord_40 : decode cX4_sameRecord 40 = .ok (.iaload, 1) := by decide +kernel
theorem dX4_sameRecord_41 : decode cX4_sameRecord 41 = .ok (.iload 4, 2) := by decide +kernel
theorem dX4_sameRecord_43 : decode cX4_sameRecord 43 = .ok (.iadd, 1) := by decide +kernel
theorem dX4_sameRecord_44 : decode cX4_sameRecord 44 = .ok (.iaload, 1) := by decide +kernel
theorem dX4_sameRecord_45 : decode cX4_sameRecord 45 = .ok (.aload_n 2, 1) := by decide +kernel
theorem dX4_sameRecord_46 : decode cX4_sameRecord 46 = .ok (.getfield 21, 3) := by decide +kernel
theorem dX4_sameRecord_49 : decode cX4_sameRecord 49 = .ok (.aload_n 2, 1) := by decide +kernel
theorem dX4_sameRecord_50 : decode cX4_sameRecord 50 = .ok (.getfield 18, 3) := by decide +kernel
theorem dX4_sameRecord_53 : decode cX4_sameRecord 53 = .ok (.iload_n 3, 1) := by decide +kernel
theorem dX4_sameRecord_54 : decode cX4_sameRecord 54 = .ok (.iaload, 1) := by decide +kernel
theorem dX4_sameRecord_55 : decode cX4_sameRecord 55 = .ok (.iload 4, 2) := by decide +kernel
theorem dX4_sameRecord_57 : decode cX4_sameRecord 57 = .ok (.iadd, 1) := by decide +kernel
theorem dX4_sameRecord_58 : decode cX4_sameRecord 58 = .ok (.iaload, 1) := by decide +kernel
theorem dX4_sameRecord_59 : decode cX4_sameRecord 59 = .ok (.if_icmp .eq 5, 3) := by decide +kernel
theorem dX4_sameRecord_62 : decode cX4_sameRecord 62 = .ok (.iconst 0, 1) := by decide +kernel
theorem dX4_sameRecord_63 : decode cX4_sameRecord 63 = .ok (.ireturn, 1) := by decide +kernel
theorem dX4_sameRecord_64 : decode cX4_sameRecord 64 = .ok (.iinc 4 1, 3) := by decide +kernel
theorem dX4_sameRecord_67 : decode cX4_sameRecord 67 = .ok (.goto (-47), 3) := by decide +kernel
theorem dX4_sameRecord_70 : decode cX4_sameRecord 70 = .ok (.iconst 1, 1) := by decide +kernel
theorem dX4_sameRecord_71 : decode cX4_sameRecord 71 = .ok (.ireturn, 1) := by decide +kernel
theorem dX5_init_0 : decode cX5_init 0 = .ok (.aload_n 0, 1) := by decide +kernel
theorem dX5_init_1 : decode cX5_init 1 = .ok (.invokespecial 3, 3) := by decide +kernel
theorem dX5_init_4 : decode cX5_init 4 = .ok (.aload_n 0, 1) := by decide +kernel
theorem dX5_init_5 : decode cX5_init 5 = .ok (.bipush 12, 2) := by decide +kernel
theorem dX5_init_7 : decode cX5_init 7 = .ok (.newarray .long, 2) := by decide +kernel
theorem dX5_init_9 : decode cX5_init 9 = .ok (.putfield 9, 3) := by decide +kernel
theorem dX5_init_12 : decode cX5_init 12 = .ok (.aload_n 0, 1) := by decide +kernel
theorem dX5_init_13 : decode cX5_init 13 = .ok (.bipush 12, 2) := by decide +kernel
theorem dX5_init_15 : decode cX5_init 15 = .ok (.newarray .long, 2) := by decide +kernel
theorem dX5_init_17 : decode cX5_init 17 = .ok (.putfield 15, 3) := by decide +kernel
theorem dX5_init_20 : decode cX5_init 20 = .ok (.aload_n 0, 1) := by decide +kernel
theorem dX5_init_21 : decode cX5_init 21 = .ok (.bipush 12, 2) := by decide +kernel
theorem dX5_init_23 : decode cX5_init 23 = .ok (.newarray .long, 2) := by decide +kernel
theorem dX5_init_25 : decode cX5_init 25 = .ok (.putfield 18, 3) := by decide +kernel
theorem dX5_init_28 : decode cX5_init 28 = .ok (.return_, 1) := by decide +kernel
theorem dX5_priceOf_0 : decode cX5_priceOf 0 = .ok (.lload_n 0, 1) := by decide +kernel
theorem dX5_priceOf_1 : decode cX5_priceOf 1 = .ok (.bipush 23, 2) := by decide +kernel
theorem dX5_priceOf_3 : decode cX5_priceOf 3 = .ok (.lshr, 1) := by decide +kernel
theorem dX5_priceOf_4 : decode cX5_priceOf 4 = .ok (.l2i, 1) := by decide +kernel
theorem dX5_priceOf_5 : decode cX5_priceOf 5 = .ok (.ireturn, 1) := by decide +kernel
theorem dX5_lengthOf_0 : decode cX5_lengthOf 0 = .ok (.lload_n 0, 1) := by decide +kernel
theorem dX5_lengthOf_1 : decode cX5_lengthOf 1 = .ok (.bipush 20, 2) := by decide +kernel
theorem dX5_lengthOf_3 : decode cX5_lengthOf 3 = .ok (.lshr, 1) := by decide +kernel
theorem dX5_lengthOf_4 : decode cX5_lengthOf 4 = .ok (.l2i, 1) := by decide +kernel
theorem dX5_lengthOf_5 : decode cX5_lengthOf 5 = .ok (.bipush 7, 2) := by decide +kernel
theorem dX5_lengthOf_7 : decode cX5_lengthOf 7 = .ok (.iand, 1) := by decide +kernel
theorem dX5_lengthOf_8 : decode cX5_lengthOf 8 = .ok (.ireturn, 1) := by decide +kernel
theorem dX5_stepOf_0 : decode cX5_stepOf 0 = .ok (.lload_n 0, 1) := by decide +kernel
theorem dX5_stepOf_1 : decode cX5_stepOf 1 = .ok (.invokestatic 21, 3) := by decide +kernel
theorem dX5_stepOf_4 : decode cX5_stepOf 4 = .ok (.istore_n 3, 1) := by decide +kernel
theorem dX5_stepOf_5 : decode cX5_stepOf 5 = .ok (.iload_n 2, 1) := by decide +kernel
theorem dX5_stepOf_6 : decode cX5_stepOf 6 = .ok (.ifCond .lt 8, 3) := by decide +kernel
theorem dX5_stepOf_9 : decode cX5_stepOf 9 = .ok (.iload_n 2, 1) := by decide +kernel
theorem dX5_stepOf_10 : decode cX5_stepOf 10 = .ok (.iload_n 3, 1) := by decide +kernel
theorem dX5_stepOf_11 : decode cX5_stepOf 11 = .ok (.if_icmp .lt 5, 3) := by decide +kernel
theorem dX5_stepOf_14 : decode cX5_stepOf 14 = .ok (.iconst (-1), 1) := by decide +kernel
theorem dX5_stepOf_15 : decode cX5_stepOf 15 = .ok (.ireturn, 1) := by decide +kernel
theorem dX5_stepOf_16 : decode cX5_stepOf 16 = .ok (.lload_n 0, 1) := by decide +kernel
theorem dX5_stepOf_17 : decode cX5_stepOf 17 = .ok (.l2i, 1) := by decide +kernel
theorem dX5_stepOf_18 : decode cX5_stepOf 18 = .ok (.ldc 25, 2) := by decide +kernel
theorem dX5_stepOf_20 : decode cX5_stepOf 20 = .ok (.iand, 1) := by decide +kernel
theorem dX5_stepOf_21 : decode cX5_stepOf 21 = .ok (.istore 4, 2) := by decide +kernel
theorem dX5_stepOf_23 : decode cX5_stepOf 23 = .ok (.iload 4, 2) := by decide +kernel
theorem dX5_stepOf_25 : decode cX5_stepOf 25 = .ok (.iconst 5, 1) := by decide +kernel
theorem dX5_stepOf_26 : decode cX5_stepOf 26 = .ok (.iload_n 3, 1) := by decide +kernel
theorem dX5_stepOf_27 : decode cX5_stepOf 27 = .ok (.iconst 1, 1) := by decide +kernel
theorem dX5_stepOf_28 : decode cX5_stepOf 28 = .ok (.isub, 1) := by decide +kernel
theorem dX5_stepOf_29 : decode cX5_stepOf 29 = .ok (.iload_n 2, 1) := by decide +kernel
theorem dX5_stepOf_30 : decode cX5_stepOf 30 = .ok (.isub, 1) := by decide +kernel
theorem dX5_stepOf_31 : decode cX5_stepOf 31 = .ok (.imul, 1) := by decide +kernel
theorem dX5_stepOf_32 : decode cX5_stepOf 32 = .ok (.ishr, 1) := by decide +kernel
theorem dX5_stepOf_33 : decode cX5_stepOf 33 = .ok (.bipush 31, 2) := by decide +kernel
theorem dX5_stepOf_35 : decode cX5_stepOf 35 = .ok (.iand, 1) := by decide +kernel
theorem dX5_stepOf_36 : decode cX5_stepOf 36 = .ok (.ireturn, 1) := by decide +kernel
theorem dX5_extended_0 : decode cX5_extended 0 = .ok (.lload_n 0, 1) := by decide +kernel
theorem dX5_extended_1 : decode cX5_extended 1 = .ok (.ldc2_w 26, 3) := by decide +kernel
theorem dX5_extended_4 : decode cX5_extended 4 = .ok (.land, 1) := by decide +kernel
theorem dX5_extended_5 : decode cX5_extended 5 = .ok (.iconst 5, 1) := by decide +kernel
theorem dX5_extended_6 : decode cX5_extended 6 = .ok (.lshl, 1) := by decide +kernel
theorem dX5_extended_7 : decode cX5_extended 7 = .ok (.iload_n 2, 1) := by decide +kernel
theorem dX5_extended_8 : decode cX5_extended 8 = .ok (.i2l, 1) := by decide +kernel
theorem dX5_extended_9 : decode cX5_extended 9 = .ok (.lor, 1) := by decide +kernel
theorem dX5_extended_10 : decode cX5_extended 10 = .ok (.lstore 4, 2) := by decide +kernel
theorem dX5_extended_12 : decode cX5_extended 12 = .ok (.lload_n 0, 1) := by decide +kernel
theorem dX5_extended_13 : decode cX5_extended 13 = .ok (.invokestatic 21, 3) := by decide +kernel
theorem dX5_extended_16 : decode cX5_extended 16 = .ok (.iconst 1, 1) := by decide +kernel
theorem dX5_extended_17 : decode cX5_extended 17 = .ok (.iadd, 1) := by decide +kernel
theorem dX5_extended_18 : decode cX5_extended 18 = .ok (.i2l, 1) := by decide +kernel
theorem dX5_extended_19 : decode cX5_extended 19 = .ok (.lstore 6, 2) := by decide +kernel
theorem dX5_extended_21 : decode cX5_extended 21 = .ok (.lload_n 0, 1) := by decide +kernel
theorem dX5_extended_22 : decode cX5_extended 22 = .ok (.invokestatic 28, 3) := by decide +kernel
theorem dX5_extended_25 : decode cX5_extended 25 = .ok (.iload_n 3, 1) := by decide +kernel
theorem dX5_extended_26 : decode cX5_extended 26 = .ok (.iadd, 1) := by decide +kernel
theorem dX5_extended_27 : decode cX5_extended 27 = .ok (.i2l, 1) := by decide +kernel
theorem dX5_extended_28 : decode cX5_extended 28 = .ok (.lstore 8, 2) := by decide +kernel
theorem dX5_extended_30 : decode cX5_extended 30 = .ok (.lload 8, 2) := by decide +kernel
theorem dX5_extended_32 : decode cX5_extended 32 = .ok (.iconst 3, 1) := by decide +kernel
theorem dX5_extended_33 : decode cX5_extended 33 = .ok (.lshl, 1) := by decide +kernel
theorem dX5_extended_34 : decode cX5_extended 34 = .ok (.lload 6, 2) := by decide +kernel
theorem dX5_extended_36 : decode cX5_extended 36 = .ok (.lor, 1) := by decide +kernel
theorem dX5_extended_37 : decode cX5_extended 37 = .ok (.bipush 20, 2) := by decide +kernel
theorem dX5_extended_39 : decode cX5_extended 39 = .ok (.lshl, 1) := by decide +kernel
theorem dX5_extended_40 : decode cX5_extended 40 = .ok (.lload 4, 2) := by decide +kernel
theorem dX5_extended_42 : decode cX5_extended 42 = .ok (.lor, 1) := by decide +kernel
theorem dX5_extended_43 : decode cX5_extended 43 = .ok (.lreturn, 1) := by decide +kernel
theorem dX5_bestTo_0 : decode cX5_bestTo 0 = .ok (.iload_n 1, 1) := by decide +kernel
theorem dX5_bestTo_1 : decode cX5_bestTo 1 = .ok (.ifCond .lt 18, 3) := by decide +kernel
theorem dX5_bestTo_4 : decode cX5_bestTo 4 = .ok (.iload_n 1, 1) := by decide +kernel
theorem dX5_bestTo_5 : decode cX5_bestTo 5 = .ok (.bipush 12, 2) := by decide +kernel
theorem dX5_bestTo_7 : decode cX5_bestTo 7 = .ok (.if_icmp .ge 12, 3) := by decide +kernel
theorem dX5_bestTo_10 : decode cX5_bestTo 10 = .ok (.aload_n 0, 1) := by decide +kernel
theorem dX5_bestTo_11 : decode cX5_bestTo 11 = .ok (.getfield 9, 3) := by decide +kernel
theorem dX5_bestTo_14 : decode cX5_bestTo 14 = .ok (.iload_n 1, 1) := by decide +kernel
theorem dX5_bestTo_15 : decode cX5_bestTo 15 = .ok (.laload, 1) := by decide +kernel
theorem dX5_bestTo_16 : decode cX5_bestTo 16 = .ok (.goto 6, 3) := by decide +kernel
theorem dX5_bestTo_19 : decode cX5_bestTo 19 = .ok (.ldc2_w 31, 3) := by decide +kernel
theorem dX5_bestTo_22 : decode cX5_bestTo 22 = .ok (.lreturn, 1) := by decide +kernel
theorem dX5_search_0 : decode cX5_search 0 = .ok (.aload_n 0, 1) := by decide +kernel
theorem dX5_search_1 : decode cX5_search 1 = .ok (.getfield 9, 3) := by decide +kernel
theorem dX5_search_4 : decode cX5_search 4 = .ok (.ldc2_w 31, 3) := by decide +kernel
theorem dX5_search_7 : decode cX5_search 7 = .ok (.invokestatic 33, 3) := by decide +kernel
theorem dX5_search_10 : decode cX5_search 10 = .ok (.aload_n 0, 1) := by decide +kernel
theorem dX5_search_11 : decode cX5_search 11 = .ok (.getfield 15, 3) := by decide +kernel
theorem dX5_search_14 : decode cX5_search 14 = .ok (.ldc2_w 31, 3) := by decide +kernel
theorem dX5_search_17 : decode cX5_search 17 = .ok (.invokestatic 33, 3) := by decide +kernel
theorem dX5_search_20 : decode cX5_search 20 = .ok (.aload_n 1, 1) := by decide +kernel
theorem dX5_search_21 : decode cX5_search 21 = .ok (.getfield 39, 3) := by decide +kernel
theorem dX5_search_24 : decode cX5_search 24 = .ok (.istore 5, 2) := by decide +kernel
theorem dX5_search_26 : decode cX5_search 26 = .ok (.iload 5, 2) := by decide +kernel
theorem dX5_search_28 : decode cX5_search 28 = .ok (.ifCond .lt 10, 3) := by decide +kernel
theorem dX5_search_31 : decode cX5_search 31 = .ok (.iload 5, 2) := by decide +kernel
theorem dX5_search_33 : decode cX5_search 33 = .ok (.bipush 12, 2) := by decide +kernel
theorem dX5_search_35 : decode cX5_search 35 = .ok (.if_icmp .lt 4, 3) := by decide +kernel
theorem dX5_search_38 : decode cX5_search 38 = .ok (.return_, 1) := by decide +kernel
theorem dX5_search_39 : decode cX5_search 39 = .ok (.aload_n 0, 1) := by decide +kernel
theorem dX5_search_40 : decode cX5_search 40 = .ok (.getfield 9, 3) := by decide +kernel
theorem dX5_search_43 : decode cX5_search 43 = .ok (.iload 5, 2) := by decide +kernel
theorem dX5_search_45 : decode cX5_search 45 = .ok (.lconst 0, 1) := by decide +kernel
theorem dX5_search_46 : decode cX5_search 46 = .ok (.lastore, 1) := by decide +kernel
theorem dX5_search_47 : decode cX5_search 47 = .ok (.aload_n 0, 1) := by decide +kernel
theorem dX5_search_48 : decode cX5_search 48 = .ok (.getfield 15, 3) := by decide +kernel
theorem dX5_search_51 : decode cX5_search 51 = .ok (.iload 5, 2) := by decide +kernel
theorem dX5_search_53 : decode cX5_search 53 = .ok (.lconst 0, 1) := by decide +kernel
theorem dX5_search_54 : decode cX5_search 54 = .ok (.lastore, 1) := by decide +kernel
theorem dX5_search_55 : decode cX5_search 55 = .ok (.aload_n 1, 1) := by decide +kernel
theorem dX5_search_56 : decode cX5_search 56 = .ok (.getfield 45, 3) := by decide +kernel
theorem dX5_search_59 : decode cX5_search 59 = .ok (.aload_n 1, 1) := by decide +kernel
theorem dX5_search_60 : decode cX5_search 60 = .ok (.getfield 48, 3) := by decide +kernel
theorem dX5_search_63 : decode cX5_search 63 = .ok (.iand, 1) := by decide +kernel
theorem dX5_search_64 : decode cX5_search 64 = .ok (.istore 6, 2) := by decide +kernel
theorem dX5_search_66 : decode cX5_search 66 = .ok (.iconst 1, 1) := by decide +kernel
theorem dX5_search_67 : decode cX5_search 67 = .ok (.istore 7, 2) := by decide +kernel
theorem dX5_search_69 : decode cX5_search 69 = .ok (.iload 7, 2) := by decide +kernel
theorem dX5_search_71 : decode cX5_search 71 = .ok (.iconst 4, 1) := by decide +kernel
theorem dX5_search_72 : decode cX5_search 72 = .ok (.if_icmp .gt 19, 3) := by decide +kernel
theorem dX5_search_75 : decode cX5_search 75 = .ok (.aload_n 0, 1) := by decide +kernel
theorem dX5_search_76 : decode cX5_search 76 = .ok (.iload 6, 2) := by decide +kernel
theorem dX5_search_78 : decode cX5_search 78 = .ok (.aload_n 2, 1) := by decide +kernel
theorem dX5_search_79 : decode cX5_search 79 = .ok (.aload_n 3, 1) := by decide +kernel
theorem dX5_search_80 : decode cX5_search 80 = .ok (.iload 4, 2) := by decide +kernel
theorem dX5_search_82 : decode cX5_search 82 = .ok (.invokevirtual 51, 3) := by decide +kernel
theorem dX5_search_85 : decode cX5_search 85 = .ok (.iinc 7 1, 3) := by decide +kernel
theorem dX5_search_88 : decode cX5_search 88 = .ok (.goto (-19), 3) := by decide +kernel
theorem dX5_search_91 : decode cX5_search 91 = .ok (.return_, 1) := by decide +kernel
theorem dX5_goOneStep_0 : decode cX5_goOneStep 0 = .ok (.aload_n 0, 1) := by decide +kernel
theorem dX5_goOneStep_1 : decode cX5_goOneStep 1 = .ok (.getfield 18, 3) := by decide +kernel
theorem dX5_goOneStep_4 : decode cX5_goOneStep 4 = .ok (.ldc2_w 31, 3) := by decide +kernel
theorem dX5_goOneStep_7 : decode cX5_goOneStep 7 = .ok (.invokestatic 33, 3) := by decide +kernel
theorem dX5_goOneStep_10 : decode cX5_goOneStep 10 = .ok (.iconst 0, 1) := by decide +kernel
theorem dX5_goOneStep_11 : decode cX5_goOneStep 11 = .ok (.istore 5, 2) := by decide +kernel
theorem dX5_goOneStep_13 : decode cX5_goOneStep 13 = .ok (.iload 5, 2) := by decide +kernel
theorem dX5_goOneStep_15 : decode cX5_goOneStep 15 = .ok (.aload_n 2, 1) := by decide +kernel
theorem dX5_goOneStep_16 : decode cX5_goOneStep 16 = .ok (.getfield 55, 3) := by decide +kernel
theorem dX5_goOneStep_19 : decode cX5_goOneStep 19 = .ok (.if_icmp .ge 109, 3) := by decide +kernel
theorem dX5_goOneStep_22 : decode cX5_goOneStep 22 = .ok (.aload_n 2, 1) := by decide +kernel
theorem dX5_goOneStep_23 : decode cX5_goOneStep 23 = .ok (.iload 5, 2) := by decide +kernel
theorem dX5_goOneStep_25 : decode cX5_goOneStep 25 = .ok (.invokevirtual 60, 3) := by decide +kernel
theorem dX5_goOneStep_28 : decode cX5_goOneStep 28 = .ok (.astore 6, 2) := by decide +kernel
theorem dX5_goOneStep_30 : decode cX5_goOneStep 30 = .ok (.aload 6, 2) := by decide +kernel
theorem dX5_goOneStep_32 : decode cX5_goOneStep 32 = .ok (.ifnull 90, 3) := by decide +kernel
theorem dX5_goOneStep_35 : decode cX5_goOneStep 35 = .ok (.aload_n 0, 1) := by decide +kernel
theorem dX5_goOneStep_36 : decode cX5_goOneStep 36 = .ok (.getfield 15, 3) := by decide +kernel
theorem dX5_goOneStep_39 : decode cX5_goOneStep 39 = .ok (.aload 6, 2) := by decide +kernel
theorem dX5_goOneStep_41 : decode cX5_goOneStep 41 = .ok (.getfield 64, 3) := by decide +kernel
theorem dX5_goOneStep_44 : decode cX5_goOneStep 44 = .ok (.laload, 1) := by decide +kernel
theorem dX5_goOneStep_45 : decode cX5_goOneStep 45 = .ok (.ldc2_w 31, 3) := by decide +kernel
theorem dX5_goOneStep_48 : decode cX5_goOneStep 48 = .ok (.lcmp, 1) := by decide +kernel
theorem dX5_goOneStep_49 : decode cX5_goOneStep 49 = .ok (.ifCond .eq 73, 3) := by decide +kernel
theorem dX5_goOneStep_52 : decode cX5_goOneStep 52 = .ok (.aload 6, 2) := by decide +kernel
theorem dX5_goOneStep_54 : decode cX5_goOneStep 54 = .ok (.iload_n 1, 1) := by decide +kernel
theorem dX5_goOneStep_55 : decode cX5_goOneStep 55 = .ok (.invokevirtual 69, 3) := by decide +kernel
theorem dX5_goOneStep_58 : decode cX5_goOneStep 58 = .ok (.ifCond .eq 64, 3) := by decide +kernel
theorem dX5_goOneStep_61 : decode cX5_goOneStep 61 = .ok (.aload_n 3, 1) := by decide +kernel
theorem dX5_goOneStep_62 : decode cX5_goOneStep 62 = .ok (.aload 6, 2) := by decide +kernel
theorem dX5_goOneStep_64 : decode cX5_goOneStep 64 = .ok (.getfield 73, 3) := by decide +kernel
theorem dX5_goOneStep_67 : decode cX5_goOneStep 67 = .ok (.iload 4, 2) := by decide +kernel
theorem dX5_goOneStep_69 : decode cX5_goOneStep 69 = .ok (.invokevirtual 76, 3) := by decide +kernel
theorem dX5_goOneStep_72 : decode cX5_goOneStep 72 = .ok (.ifCond .eq 50, 3) := by decide +kernel
theorem dX5_goOneStep_75 : decode cX5_goOneStep 75 = .ok (.aload_n 0, 1) := by decide +kernel
theorem dX5_goOneStep_76 : decode cX5_goOneStep 76 = .ok (.getfield 15, 3) := by decide +kernel
theorem dX5_goOneStep_79 : decode cX5_goOneStep 79 = .ok (.aload 6, 2) := by decide +kernel
theorem dX5_goOneStep_81 : decode cX5_goOneStep 81 = .ok (.getfield 64, 3) := by decide +kernel
theorem dX5_goOneStep_84 : decode cX5_goOneStep 84 = .ok (.laload, 1) := by decide +kernel
theorem dX5_goOneStep_85 : decode cX5_goOneStep 85 = .ok (.iload 5, 2) := by decide +kernel
theorem dX5_goOneStep_87 : decode cX5_goOneStep 87 = .ok (.aload 6, 2) := by decide +kernel
theorem dX5_goOneStep_89 : decode cX5_goOneStep 89 = .ok (.getfield 82, 3) := by decide +kernel
theorem dX5_goOneStep_92 : decode cX5_goOneStep 92 = .ok (.invokestatic 85, 3) := by decide +kernel
theorem dX5_goOneStep_95 : decode cX5_goOneStep 95 = .ok (.lstore 7, 2) := by decide +kernel
theorem dX5_goOneStep_97 : decode cX5_goOneStep 97 = .ok (.aload_n 0, 1) := by decide +kernel
theorem dX5_goOneStep_98 : decode cX5_goOneStep 98 = .ok (.getfield 18, 3) := by decide +kernel
theorem dX5_goOneStep_101 : decode cX5_goOneStep 101 = .ok (.aload 6, 2) := by decide +kernel
theorem dX5_goOneStep_103 : decode cX5_goOneStep 103 = .ok (.getfield 89, 3) := by decide +kernel
theorem dX5_goOneStep_106 : decode cX5_goOneStep 106 = .ok (.aload_n 0, 1) := by decide +kernel
theorem dX5_goOneStep_107 : decode cX5_goOneStep 107 = .ok (.getfield 18, 3) := by decide +kernel
theorem dX5_goOneStep_110 : decode cX5_goOneStep 110 = .ok (.aload 6, 2) := by decide +kernel
theorem dX5_goOneStep_112 : decode cX5_goOneStep 112 = .ok (.getfield 89, 3) := by decide +kernel
theorem dX5_goOneStep_115 : decode cX5_goOneStep 115 = .ok (.laload, 1) := by decide +kernel
theorem dX5_goOneStep_116 : decode cX5_goOneStep 116 = .ok (.lload 7, 2) := by decide +kernel
theorem dX5_goOneStep_118 : decode cX5_goOneStep 118 = .ok (.invokestatic 92, 3) := by decide +kernel
theorem dX5_goOneStep_121 : decode cX5_goOneStep 121 = .ok (.lastore, 1) := by decide +kernel
theorem dX5_goOneStep_122 : decode cX5_goOneStep 122 = .ok (.iinc 5 1, 3) := by decide +kernel
theorem dX5_goOneStep_125 : decode cX5_goOneStep 125 = .ok (.goto (-112), 3) := by decide +kernel
theorem dX5_goOneStep_128 : decode cX5_goOneStep 128 = .ok (.iconst 0, 1) := by decide +kernel
theorem dX5_goOneStep_129 : decode cX5_goOneStep 129 = .ok (.istore 5, 2) := by decide +kernel
theorem dX5_goOneStep_131 : decode cX5_goOneStep 131 = .ok (.iload 5, 2) := by decide +kernel
theorem dX5_goOneStep_133 : decode cX5_goOneStep 133 = .ok (.bipush 12, 2) := by decide +kernel
theorem dX5_goOneStep_135 : decode cX5_goOneStep 135 = .ok (.if_icmp .ge 47, 3) := by decide +kernel
theorem dX5_goOneStep_138 : decode cX5_goOneStep 138 = .ok (.aload_n 0, 1) := by decide +kernel
theorem dX5_goOneStep_139 : decode cX5_goOneStep 139 = .ok (.getfield 15, 3) := by decide +kernel
theorem dX5_goOneStep_142 : decode cX5_goOneStep 142 = .ok (.iload 5, 2) := by decide +kernel
theorem dX5_goOneStep_144 : decode cX5_goOneStep 144 = .ok (.aload_n 0, 1) := by decide +kernel
theorem dX5_goOneStep_145 : decode cX5_goOneStep 145 = .ok (.getfield 18, 3) := by decide +kernel
theorem dX5_goOneStep_148 : decode cX5_goOneStep 148 = .ok (.iload 5, 2) := by decide +kernel
theorem dX5_goOneStep_150 : decode cX5_goOneStep 150 = .ok (.laload, 1) := by decide +kernel
theorem dX5_goOneStep_151 : decode cX5_goOneStep 151 = .ok (.lastore, 1) := by decide +kernel
theorem dX5_goOneStep_152 : decode cX5_goOneStep 152 = .ok (.aload_n 0, 1) := by decide +kernel
theorem dX5_goOneStep_153 : decode cX5_goOneStep 153 = .ok (.getfield 9, 3) := by decide +kernel
theorem dX5_goOneStep_156 : decode cX5_goOneStep 156 = .ok (.iload 5, 2) := by decide +kernel
theorem dX5_goOneStep_158 : decode cX5_goOneStep 158 = .ok (.aload_n 0, 1) := by decide +kernel
theorem dX5_goOneStep_159 : decode cX5_goOneStep 159 = .ok (.getfield 9, 3) := by decide +kernel
theorem dX5_goOneStep_162 : decode cX5_goOneStep 162 = .ok (.iload 5, 2) := by decide +kernel
theorem dX5_goOneStep_164 : decode cX5_goOneStep 164 = .ok (.laload, 1) := by decide +kernel
theorem dX5_goOneStep_165 : decode cX5_goOneStep 165 = .ok (.aload_n 0, 1) := by decide +kernel
theorem dX5_goOneStep_166 : decode cX5_goOneStep 166 = .ok (.getfield 18, 3) := by decide +kernel
theorem dX5_goOneStep_169 : decode cX5_goOneStep 169 = .ok (.iload 5, 2) := by decide +kernel
theorem dX5_goOneStep_171 : decode cX5_goOneStep 171 = .ok (.laload, 1) := by decide +kernel
theorem dX5_goOneStep_172 : decode cX5_goOneStep 172 = .ok (.invokestatic 92, 3) := by decide +kernel
theorem dX5_goOneStep_175 : decode cX5_goOneStep 175 = .ok (.lastore, 1) := by decide +kernel
theorem dX5_goOneStep_176 : decode cX5_goOneStep 176 = .ok (.iinc 5 1, 3) := by decide +kernel
theorem dX5_goOneStep_179 : decode cX5_goOneStep 179 = .ok (.goto (-48), 3) := by decide +kernel
theorem dX5_goOneStep_182 : decode cX5_goOneStep 182 = .ok (.return_, 1) := by decide +kernel
theorem dX6_init_0 : decode cX6_init 0 = .ok (.aload_n 0, 1) := by decide +kernel
theorem dX6_init_1 : decode cX6_init 1 = .ok (.invokespecial 3, 3) := by decide +kernel
theorem dX6_init_4 : decode cX6_init 4 = .ok (.aload_n 0, 1) := by decide +kernel
theorem dX6_init_5 : decode cX6_init 5 = .ok (.bipush 12, 2) := by decide +kernel
theorem dX6_init_7 : decode cX6_init 7 = .ok (.newarray .int, 2) := by decide +kernel
theorem dX6_init_9 : decode cX6_init 9 = .ok (.putfield 9, 3) := by decide +kernel
theorem dX6_init_12 : decode cX6_init 12 = .ok (.aload_n 0, 1) := by decide +kernel
theorem dX6_init_13 : decode cX6_init 13 = .ok (.bipush 12, 2) := by decide +kernel
theorem dX6_init_15 : decode cX6_init 15 = .ok (.newarray .int, 2) := by decide +kernel
theorem dX6_init_17 : decode cX6_init 17 = .ok (.putfield 15, 3) := by decide +kernel
theorem dX6_init_20 : decode cX6_init 20 = .ok (.return_, 1) := by decide +kernel
theorem dX6_measure_0 : decode cX6_measure 0 = .ok (.aload_n 0, 1) := by decide +kernel
theorem dX6_measure_1 : decode cX6_measure 1 = .ok (.getfield 9, 3) := by decide +kernel
theorem dX6_measure_4 : decode cX6_measure 4 = .ok (.iconst (-1), 1) := by decide +kernel
theorem dX6_measure_5 : decode cX6_measure 5 = .ok (.invokestatic 18, 3) := by decide +kernel
theorem dX6_measure_8 : decode cX6_measure 8 = .ok (.iconst 0, 1) := by decide +kernel
theorem dX6_measure_9 : decode cX6_measure 9 = .ok (.istore 5, 2) := by decide +kernel
theorem dX6_measure_11 : decode cX6_measure 11 = .ok (.iload 5, 2) := by decide +kernel
theorem dX6_measure_13 : decode cX6_measure 13 = .ok (.aload_n 1, 1) := by decide +kernel
theorem dX6_measure_14 : decode cX6_measure 14 = .ok (.getfield 24, 3) := by decide +kernel
theorem dX6_measure_17 : decode cX6_measure 17 = .ok (.if_icmp .ge 52, 3) := by decide +kernel
theorem dX6_measure_20 : decode cX6_measure 20 = .ok (.aload_n 1, 1) := by decide +kernel
theorem dX6_measure_21 : decode cX6_measure 21 = .ok (.getfield 30, 3) := by decide +kernel
theorem dX6_measure_24 : decode cX6_measure 24 = .ok (.iload 5, 2) := by decide +kernel
theorem dX6_measure_26 : decode cX6_measure 26 = .ok (.iaload, 1) := by decide +kernel
theorem dX6_measure_27 : decode cX6_measure 27 = .ok (.istore 6, 2) := by decide +kernel
theorem dX6_measure_29 : decode cX6_measure 29 = .ok (.aload_n 3, 1) := by decide +kernel
theorem dX6_measure_30 : decode cX6_measure 30 = .ok (.aload_n 1, 1) := by decide +kernel
theorem dX6_measure_31 : decode cX6_measure 31 = .ok (.getfield 33, 3) := by decide +kernel
theorem dX6_measure_34 : decode cX6_measure 34 = .ok (.iload 5, 2) := by decide +kernel
theorem dX6_measure_36 : decode cX6_measure 36 = .ok (.iaload, 1) := by decide +kernel
theorem dX6_measure_37 : decode cX6_measure 37 = .ok (.iload 4, 2) := by decide +kernel
theorem dX6_measure_39 : decode cX6_measure 39 = .ok (.invokevirtual 36, 3) := by decide +kernel
theorem dX6_measure_42 : decode cX6_measure 42 = .ok (.istore 7, 2) := by decide +kernel
theorem dX6_measure_44 : decode cX6_measure 44 = .ok (.aload_n 0, 1) := by decide +kernel
theorem dX6_measure_45 : decode cX6_measure 45 = .ok (.getfield 9, 3) := by decide +kernel
theorem dX6_measure_48 : decode cX6_measure 48 = .ok (.iload 6, 2) := by decide +kernel
theorem dX6_measure_50 : decode cX6_measure 50 = .ok (.aload_n 0, 1) := by decide +kernel
theorem dX6_measure_51 : decode cX6_measure 51 = .ok (.getfield 9, 3) := by decide +kernel
theorem dX6_measure_54 : decode cX6_measure 54 = .ok (.iload 6, 2) := by decide +kernel
theorem dX6_measure_56 : decode cX6_measure 56 = .ok (.iaload, 1) := by decide +kernel
theorem dX6_measure_57 : decode cX6_measure 57 = .ok (.iload 7, 2) := by decide +kernel
