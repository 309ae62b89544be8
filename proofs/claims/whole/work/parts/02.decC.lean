theorem dX0_init_0 : decode cX0_init 0 = .ok (.aload_n 0, 1) := by decide +kernel
theorem dX0_init_1 : decode cX0_init 1 = .ok (.invokespecial 3, 3) := by decide +kernel
theorem dX0_init_4 : decode cX0_init 4 = .ok (.aload_n 0, 1) := by decide +kernel
theorem dX0_init_5 : decode cX0_init 5 = .ok (.sipush 1600, 3) := by decide +kernel
theorem dX0_init_8 : decode cX0_init 8 = .ok (.newarray .int, 2) := by decide +kernel
theorem dX0_init_10 : decode cX0_init 10 = .ok (.putfield 9, 3) := by decide +kernel
theorem dX0_init_13 : decode cX0_init 13 = .ok (.return_, 1) := by decide +kernel
theorem dX0_copyFrom_0 : decode cX0_copyFrom 0 = .ok (.aload_n 1, 1) := by decide +kernel
theorem dX0_copyFrom_1 : decode cX0_copyFrom 1 = .ok (.getfield 9, 3) := by decide +kernel
theorem dX0_copyFrom_4 : decode cX0_copyFrom 4 = .ok (.iconst 0, 1) := by decide +kernel
theorem dX0_copyFrom_5 : decode cX0_copyFrom 5 = .ok (.aload_n 0, 1) := by decide +kernel
theorem dX0_copyFrom_6 : decode cX0_copyFrom 6 = .ok (.getfield 9, 3) := by decide +kernel
theorem dX0_copyFrom_9 : decode cX0_copyFrom 9 = .ok (.iconst 0, 1) := by decide +kernel
theorem dX0_copyFrom_10 : decode cX0_copyFrom 10 = .ok (.sipush 1600, 3) := by decide +kernel
theorem dX0_copyFrom_13 : decode cX0_copyFrom 13 = .ok (.invokestatic 15, 3) := by decide +kernel
theorem dX0_copyFrom_16 : decode cX0_copyFrom 16 = .ok (.return_, 1) := by decide +kernel
theorem dX0_owed_0 : decode cX0_owed 0 = .ok (.iload_n 1, 1) := by decide +kernel
theorem dX0_owed_1 : decode cX0_owed 1 = .ok (.iload_n 2, 1) := by decide +kernel
theorem dX0_owed_2 : decode cX0_owed 2 = .ok (.invokestatic 21, 3) := by decide +kernel
theorem dX0_owed_5 : decode cX0_owed 5 = .ok (.ifCond .eq 17, 3) := by decide +kernel
theorem dX0_owed_8 : decode cX0_owed 8 = .ok (.aload_n 0, 1) := by decide +kernel
theorem dX0_owed_9 : decode cX0_owed 9 = .ok (.getfield 9, 3) := by decide +kernel
theorem dX0_owed_12 : decode cX0_owed 12 = .ok (.iload_n 1, 1) := by decide +kernel
theorem dX0_owed_13 : decode cX0_owed 13 = .ok (.bipush 40, 2) := by decide +kernel
theorem dX0_owed_15 : decode cX0_owed 15 = .ok (.imul, 1) := by decide +kernel
theorem dX0_owed_16 : decode cX0_owed 16 = .ok (.iload_n 2, 1) := by decide +kernel
theorem dX0_owed_17 : decode cX0_owed 17 = .ok (.iadd, 1) := by decide +kernel
theorem dX0_owed_18 : decode cX0_owed 18 = .ok (.iaload, 1) := by decide +kernel
theorem dX0_owed_19 : decode cX0_owed 19 = .ok (.goto 4, 3) := by decide +kernel
theorem dX0_owed_22 : decode cX0_owed 22 = .ok (.iconst 0, 1) := by decide +kernel
theorem dX0_owed_23 : decode cX0_owed 23 = .ok (.ireturn, 1) := by decide +kernel
theorem dX0_change_0 : decode cX0_change 0 = .ok (.iload_n 1, 1) := by decide +kernel
theorem dX0_change_1 : decode cX0_change 1 = .ok (.iload_n 2, 1) := by decide +kernel
theorem dX0_change_2 : decode cX0_change 2 = .ok (.invokestatic 21, 3) := by decide +kernel
theorem dX0_change_5 : decode cX0_change 5 = .ok (.ifCond .eq 18, 3) := by decide +kernel
theorem dX0_change_8 : decode cX0_change 8 = .ok (.aload_n 0, 1) := by decide +kernel
theorem dX0_change_9 : decode cX0_change 9 = .ok (.getfield 9, 3) := by decide +kernel
theorem dX0_change_12 : decode cX0_change 12 = .ok (.iload_n 1, 1) := by decide +kernel
theorem dX0_change_13 : decode cX0_change 13 = .ok (.bipush 40, 2) := by decide +kernel
theorem dX0_change_15 : decode cX0_change 15 = .ok (.imul, 1) := by decide +kernel
theorem dX0_change_16 : decode cX0_change 16 = .ok (.iload_n 2, 1) := by decide +kernel
theorem dX0_change_17 : decode cX0_change 17 = .ok (.iadd, 1) := by decide +kernel
theorem dX0_change_18 : decode cX0_change 18 = .ok (.dup2, 1) := by decide +kernel
theorem dX0_change_19 : decode cX0_change 19 = .ok (.iaload, 1) := by decide +kernel
theorem dX0_change_20 : decode cX0_change 20 = .ok (.iload_n 3, 1) := by decide +kernel
theorem dX0_change_21 : decode cX0_change 21 = .ok (.iadd, 1) := by decide +kernel
theorem dX0_change_22 : decode cX0_change 22 = .ok (.iastore, 1) := by decide +kernel
theorem dX0_change_23 : decode cX0_change 23 = .ok (.return_, 1) := by decide +kernel
theorem dX0_areParishes_0 : decode cX0_areParishes 0 = .ok (.iload_n 0, 1) := by decide +kernel
theorem dX0_areParishes_1 : decode cX0_areParishes 1 = .ok (.ifCond .lt 23, 3) := by decide +kernel
theorem dX0_areParishes_4 : decode cX0_areParishes 4 = .ok (.iload_n 0, 1) := by decide +kernel
theorem dX0_areParishes_5 : decode cX0_areParishes 5 = .ok (.bipush 40, 2) := by decide +kernel
theorem dX0_areParishes_7 : decode cX0_areParishes 7 = .ok (.if_icmp .ge 17, 3) := by decide +kernel
theorem dX0_areParishes_10 : decode cX0_areParishes 10 = .ok (.iload_n 1, 1) := by decide +kernel
theorem dX0_areParishes_11 : decode cX0_areParishes 11 = .ok (.ifCond .lt 13, 3) := by decide +kernel
theorem dX0_areParishes_14 : decode cX0_areParishes 14 = .ok (.iload_n 1, 1) := by decide +kernel
theorem dX0_areParishes_15 : decode cX0_areParishes 15 = .ok (.bipush 40, 2) := by decide +kernel
theorem dX0_areParishes_17 : decode cX0_areParishes 17 = .ok (.if_icmp .ge 7, 3) := by decide +kernel
theorem dX0_areParishes_20 : decode cX0_areParishes 20 = .ok (.iconst 1, 1) := by decide +kernel
theorem dX0_areParishes_21 : decode cX0_areParishes 21 = .ok (.goto 4, 3) := by decide +kernel
theorem dX0_areParishes_24 : decode cX0_areParishes 24 = .ok (.iconst 0, 1) := by decide +kernel
theorem dX0_areParishes_25 : decode cX0_areParishes 25 = .ok (.ireturn, 1) := by decide +kernel
theorem dX0_owedBy_0 : decode cX0_owedBy 0 = .ok (.iconst 0, 1) := by decide +kernel
theorem dX0_owedBy_1 : decode cX0_owedBy 1 = .ok (.istore_n 2, 1) := by decide +kernel
theorem dX0_owedBy_2 : decode cX0_owedBy 2 = .ok (.iconst 0, 1) := by decide +kernel
theorem dX0_owedBy_3 : decode cX0_owedBy 3 = .ok (.istore_n 3, 1) := by decide +kernel
theorem dX0_owedBy_4 : decode cX0_owedBy 4 = .ok (.iload_n 3, 1) := by decide +kernel
theorem dX0_owedBy_5 : decode cX0_owedBy 5 = .ok (.bipush 40, 2) := by decide +kernel
theorem dX0_owedBy_7 : decode cX0_owedBy 7 = .ok (.if_icmp .ge 18, 3) := by decide +kernel
theorem dX0_owedBy_10 : decode cX0_owedBy 10 = .ok (.iload_n 2, 1) := by decide +kernel
theorem dX0_owedBy_11 : decode cX0_owedBy 11 = .ok (.aload_n 0, 1) := by decide +kernel
theorem dX0_owedBy_12 : decode cX0_owedBy 12 = .ok (.iload_n 1, 1) := by decide +kernel
theorem dX0_owedBy_13 : decode cX0_owedBy 13 = .ok (.iload_n 3, 1) := by decide +kernel
theorem dX0_owedBy_14 : decode cX0_owedBy 14 = .ok (.invokevirtual 25, 3) := by decide +kernel
theorem dX0_owedBy_17 : decode cX0_owedBy 17 = .ok (.iadd, 1) := by decide +kernel
theorem dX0_owedBy_18 : decode cX0_owedBy 18 = .ok (.istore_n 2, 1) := by decide +kernel
theorem dX0_owedBy_19 : decode cX0_owedBy 19 = .ok (.iinc 3 1, 3) := by decide +kernel
theorem dX0_owedBy_22 : decode cX0_owedBy 22 = .ok (.goto (-18), 3) := by decide +kernel
theorem dX0_owedBy_25 : decode cX0_owedBy 25 = .ok (.iload_n 2, 1) := by decide +kernel
theorem dX0_owedBy_26 : decode cX0_owedBy 26 = .ok (.ireturn, 1) := by decide +kernel
theorem dX0_owedTo_0 : decode cX0_owedTo 0 = .ok (.iconst 0, 1) := by decide +kernel
theorem dX0_owedTo_1 : decode cX0_owedTo 1 = .ok (.istore_n 2, 1) := by decide +kernel
theorem dX0_owedTo_2 : decode cX0_owedTo 2 = .ok (.iconst 0, 1) := by decide +kernel
theorem dX0_owedTo_3 : decode cX0_owedTo 3 = .ok (.istore_n 3, 1) := by decide +kernel
theorem dX0_owedTo_4 : decode cX0_owedTo 4 = .ok (.iload_n 3, 1) := by decide +kernel
theorem dX0_owedTo_5 : decode cX0_owedTo 5 = .ok (.bipush 40, 2) := by decide +kernel
theorem dX0_owedTo_7 : decode cX0_owedTo 7 = .ok (.if_icmp .ge 18, 3) := by decide +kernel
theorem dX0_owedTo_10 : decode cX0_owedTo 10 = .ok (.iload_n 2, 1) := by decide +kernel
theorem dX0_owedTo_11 : decode cX0_owedTo 11 = .ok (.aload_n 0, 1) := by decide +kernel
theorem dX0_owedTo_12 : decode cX0_owedTo 12 = .ok (.iload_n 3, 1) := by decide +kernel
theorem dX0_owedTo_13 : decode cX0_owedTo 13 = .ok (.iload_n 1, 1) := by decide +kernel
theorem dX0_owedTo_14 : decode cX0_owedTo 14 = .ok (.invokevirtual 25, 3) := by decide +kernel
theorem dX0_owedTo_17 : decode cX0_owedTo 17 = .ok (.iadd, 1) := by decide +kernel
theorem dX0_owedTo_18 : decode cX0_owedTo 18 = .ok (.istore_n 2, 1) := by decide +kernel
theorem dX0_owedTo_19 : decode cX0_owedTo 19 = .ok (.iinc 3 1, 3) := by decide +kernel
theorem dX0_owedTo_22 : decode cX0_owedTo 22 = .ok (.goto (-18), 3) := by decide +kernel
theorem dX0_owedTo_25 : decode cX0_owedTo 25 = .ok (.iload_n 2, 1) := by decide +kernel
theorem dX0_owedTo_26 : decode cX0_owedTo 26 = .ok (.ireturn, 1) := by decide +kernel
theorem dX0_sum_0 : decode cX0_sum 0 = .ok (.iconst 0, 1) := by decide +kernel
theorem dX0_sum_1 : decode cX0_sum 1 = .ok (.istore_n 1, 1) := by decide +kernel
theorem dX0_sum_2 : decode cX0_sum 2 = .ok (.iconst 0, 1) := by decide +kernel
theorem dX0_sum_3 : decode cX0_sum 3 = .ok (.istore_n 2, 1) := by decide +kernel
theorem dX0_sum_4 : decode cX0_sum 4 = .ok (.iload_n 2, 1) := by decide +kernel
theorem dX0_sum_5 : decode cX0_sum 5 = .ok (.bipush 40, 2) := by decide +kernel
theorem dX0_sum_7 : decode cX0_sum 7 = .ok (.if_icmp .ge 17, 3) := by decide +kernel
theorem dX0_sum_10 : decode cX0_sum 10 = .ok (.iload_n 1, 1) := by decide +kernel
theorem dX0_sum_11 : decode cX0_sum 11 = .ok (.aload_n 0, 1) := by decide +kernel
theorem dX0_sum_12 : decode cX0_sum 12 = .ok (.iload_n 2, 1) := by decide +kernel
theorem dX0_sum_13 : decode cX0_sum 13 = .ok (.invokevirtual 29, 3) := by decide +kernel
theorem dX0_sum_16 : decode cX0_sum 16 = .ok (.iadd, 1) := by decide +kernel
theorem dX0_sum_17 : decode cX0_sum 17 = .ok (.istore_n 1, 1) := by decide +kernel
theorem dX0_sum_18 : decode cX0_sum 18 = .ok (.iinc 2 1, 3) := by decide +kernel
theorem dX0_sum_21 : decode cX0_sum 21 = .ok (.goto (-17), 3) := by decide +kernel
theorem dX0_sum_24 : decode cX0_sum 24 = .ok (.iload_n 1, 1) := by decide +kernel
theorem dX0_sum_25 : decode cX0_sum 25 = .ok (.ireturn, 1) := by decide +kernel
theorem dX0_firstCreditorOf_0 : decode cX0_firstCreditorOf 0 = .ok (.iconst 0, 1) := by decide +kernel
theorem dX0_firstCreditorOf_1 : decode cX0_firstCreditorOf 1 = .ok (.istore_n 2, 1) := by decide +kernel
theorem dX0_firstCreditorOf_2 : decode cX0_firstCreditorOf 2 = .ok (.iload_n 2, 1) := by decide +kernel
theorem dX0_firstCreditorOf_3 : decode cX0_firstCreditorOf 3 = .ok (.bipush 40, 2) := by decide +kernel
theorem dX0_firstCreditorOf_5 : decode cX0_firstCreditorOf 5 = .ok (.if_icmp .ge 20, 3) := by decide +kernel
theorem dX0_firstCreditorOf_8 : decode cX0_firstCreditorOf 8 = .ok (.aload_n 0, 1) := by decide +kernel
theorem dX0_firstCreditorOf_9 : decode cX0_firstCreditorOf 9 = .ok (.iload_n 1, 1) := by decide +kernel
theorem dX0_firstCreditorOf_10 : decode cX0_firstCreditorOf 10 = .ok (.iload_n 2, 1) := by decide +kernel
theorem dX0_firstCreditorOf_11 : decode cX0_firstCreditorOf 11 = .ok (.invokevirtual 25, 3) := by decide +kernel
theorem dX0_firstCreditorOf_14 : decode cX0_firstCreditorOf 14 = .ok (.ifCond .le 5, 3) := by decide +kernel
theorem dX0_firstCreditorOf_17 : decode cX0_firstCreditorOf 17 = .ok (.iload_n 2, 1) := by decide +kernel
theorem dX0_firstCreditorOf_18 : decode cX0_firstCreditorOf 18 = .ok (.ireturn, 1) := by decide +kernel
theorem dX0_firstCreditorOf_19 : decode cX0_firstCreditorOf 19 = .ok (.iinc 2 1, 3) := by decide +kernel
theorem dX0_firstCreditorOf_22 : decode cX0_firstCreditorOf 22 = .ok (.goto (-20), 3) := by decide +kernel
theorem dX0_firstCreditorOf_25 : decode cX0_firstCreditorOf 25 = .ok (.bipush (-9), 2) := by decide +kernel
theorem dX0_firstCreditorOf_27 : decode cX0_firstCreditorOf 27 = .ok (.ireturn, 1) := by decide +kernel
theorem dX0_passOn_0 : decode cX0_passOn 0 = .ok (.iconst 0, 1) := by decide +kernel
theorem dX0_passOn_1 : decode cX0_passOn 1 = .ok (.istore_n 3, 1) := by decide +kernel
theorem dX0_passOn_2 : decode cX0_passOn 2 = .ok (.iload_n 3, 1) := by decide +kernel
theorem dX0_passOn_3 : decode cX0_passOn 3 = .ok (.bipush 40, 2) := by decide +kernel
theorem dX0_passOn_5 : decode cX0_passOn 5 = .ok (.if_icmp .ge 17, 3) := by decide +kernel
theorem dX0_passOn_8 : decode cX0_passOn 8 = .ok (.aload_n 0, 1) := by decide +kernel
theorem dX0_passOn_9 : decode cX0_passOn 9 = .ok (.iload_n 1, 1) := by decide +kernel
theorem dX0_passOn_10 : decode cX0_passOn 10 = .ok (.iload_n 3, 1) := by decide +kernel
theorem dX0_passOn_11 : decode cX0_passOn 11 = .ok (.iload_n 2, 1) := by decide +kernel
theorem dX0_passOn_12 : decode cX0_passOn 12 = .ok (.iload_n 3, 1) := by decide +kernel
theorem dX0_passOn_13 : decode cX0_passOn 13 = .ok (.invokevirtual 33, 3) := by decide +kernel
theorem dX0_passOn_16 : decode cX0_passOn 16 = .ok (.iinc 3 1, 3) := by decide +kernel
theorem dX0_passOn_19 : decode cX0_passOn 19 = .ok (.goto (-17), 3) := by decide +kernel
theorem dX0_passOn_22 : decode cX0_passOn 22 = .ok (.iconst 0, 1) := by decide +kernel
theorem dX0_passOn_23 : decode cX0_passOn 23 = .ok (.istore_n 3, 1) := by decide +kernel
theorem dX0_passOn_24 : decode cX0_passOn 24 = .ok (.iload_n 3, 1) := by decide +kernel
theorem dX0_passOn_25 : decode cX0_passOn 25 = .ok (.bipush 40, 2) := by decide +kernel
theorem dX0_passOn_27 : decode cX0_passOn 27 = .ok (.if_icmp .ge 17, 3) := by decide +kernel
theorem dX0_passOn_30 : decode cX0_passOn 30 = .ok (.aload_n 0, 1) := by decide +kernel
theorem dX0_passOn_31 : decode cX0_passOn 31 = .ok (.iload_n 3, 1) := by decide +kernel
theorem dX0_passOn_32 : decode cX0_passOn 32 = .ok (.iload_n 1, 1) := by decide +kernel
theorem dX0_passOn_33 : decode cX0_passOn 33 = .ok (.iload_n 3, 1) := by decide +kernel
theorem dX0_passOn_34 : decode cX0_passOn 34 = .ok (.iload_n 2, 1) := by decide +kernel
theorem dX0_passOn_35 : decode cX0_passOn 35 = .ok (.invokevirtual 33, 3) := by decide +kernel
theorem dX0_passOn_38 : decode cX0_passOn 38 = .ok (.iinc 3 1, 3) := by decide +kernel
theorem dX0_passOn_41 : decode cX0_passOn 41 = .ok (.goto (-17), 3) := by decide +kernel
theorem dX0_passOn_44 : decode cX0_passOn 44 = .ok (.aload_n 0, 1) := by decide +kernel
theorem dX0_passOn_45 : decode cX0_passOn 45 = .ok (.iload_n 2, 1) := by decide +kernel
theorem dX0_passOn_46 : decode cX0_passOn 46 = .ok (.iload_n 2, 1) := by decide +kernel
theorem dX0_passOn_47 : decode cX0_passOn 47 = .ok (.aload_n 0, 1) := by decide +kernel
theorem dX0_passOn_48 : decode cX0_passOn 48 = .ok (.iload_n 2, 1) := by decide +kernel
theorem dX0_passOn_49 : decode cX0_passOn 49 = .ok (.iload_n 2, 1) := by decide +kernel
theorem dX0_passOn_50 : decode cX0_passOn 50 = .ok (.invokevirtual 25, 3) := by decide +kernel
theorem dX0_passOn_53 : decode cX0_passOn 53 = .ok (.ineg, 1) := by decide +kernel
theorem dX0_passOn_54 : decode cX0_passOn 54 = .ok (.invokevirtual 37, 3) := by decide +kernel
theorem dX0_passOn_57 : decode cX0_passOn 57 = .ok (.return_, 1) := by decide +kernel
theorem dX0_shift_0 : decode cX0_shift 0 = .ok (.aload_n 0, 1) := by decide +kernel
theorem dX0_shift_1 : decode cX0_shift 1 = .ok (.iload_n 1, 1) := by decide +kernel
theorem dX0_shift_2 : decode cX0_shift 2 = .ok (.iload_n 2, 1) := by decide +kernel
theorem dX0_shift_3 : decode cX0_shift 3 = .ok (.invokevirtual 25, 3) := by decide +kernel
theorem dX0_shift_6 : decode cX0_shift 6 = .ok (.istore 5, 2) := by decide +kernel
theorem dX0_shift_8 : decode cX0_shift 8 = .ok (.aload_n 0, 1) := by decide +kernel
theorem dX0_shift_9 : decode cX0_shift 9 = .ok (.iload_n 1, 1) := by decide +kernel
theorem dX0_shift_10 : decode cX0_shift 10 = .ok (.iload_n 2, 1) := by decide +kernel
theorem dX0_shift_11 : decode cX0_shift 11 = .ok (.iload 5, 2) := by decide +kernel
theorem dX0_shift_13 : decode cX0_shift 13 = .ok (.ineg, 1) := by decide +kernel
theorem dX0_shift_14 : decode cX0_shift 14 = .ok (.invokevirtual 37, 3) := by decide +kernel
theorem dX0_shift_17 : decode cX0_shift 17 = .ok (.aload_n 0, 1) := by decide +kernel
theorem dX0_shift_18 : decode cX0_shift 18 = .ok (.iload_n 3, 1) := by decide +kernel
theorem dX0_shift_19 : decode cX0_shift 19 = .ok (.iload 4, 2) := by decide +kernel
theorem dX0_shift_21 : decode cX0_shift 21 = .ok (.iload 5, 2) := by decide +kernel
theorem dX0_shift_23 : decode cX0_shift 23 = .ok (.invokevirtual 37, 3) := by decide +kernel
theorem dX0_shift_26 : decode cX0_shift 26 = .ok (.return_, 1) := by decide +kernel
theorem dX1_init_0 : decode cX1_init 0 = .ok (.aload_n 0, 1) := by decide +kernel
theorem dX1_init_1 : decode cX1_init 1 = .ok (.invokespecial 3, 3) := by decide +kernel
theorem dX1_init_4 : decode cX1_init 4 = .ok (.aload_n 0, 1) := by decide +kernel
theorem dX1_init_5 : decode cX1_init 5 = .ok (.iconst 5, 1) := by decide +kernel
theorem dX1_init_6 : decode cX1_init 6 = .ok (.anewarray 9, 3) := by decide +kernel
theorem dX1_init_9 : decode cX1_init 9 = .ok (.putfield 11, 3) := by decide +kernel
theorem dX1_init_12 : decode cX1_init 12 = .ok (.iconst 0, 1) := by decide +kernel
theorem dX1_init_13 : decode cX1_init 13 = .ok (.istore_n 1, 1) := by decide +kernel
theorem dX1_init_14 : decode cX1_init 14 = .ok (.iload_n 1, 1) := by decide +kernel
theorem dX1_init_15 : decode cX1_init 15 = .ok (.iconst 5, 1) := by decide +kernel
theorem dX1_init_16 : decode cX1_init 16 = .ok (.if_icmp .ge 22, 3) := by decide +kernel
theorem dX1_init_19 : decode cX1_init 19 = .ok (.aload_n 0, 1) := by decide +kernel
theorem dX1_init_20 : decode cX1_init 20 = .ok (.getfield 11, 3) := by decide +kernel
theorem dX1_init_23 : decode cX1_init 23 = .ok (.iload_n 1, 1) := by decide +kernel
theorem dX1_init_24 : decode cX1_init 24 = .ok (.new 9, 3) := by decide +kernel
theorem dX1_init_27 : decode cX1_init 27 = .ok (.dup, 1) := by decide +kernel
theorem dX1_init_28 : decode cX1_init 28 = .ok (.invokespecial 17, 3) := by decide +kernel
theorem dX1_init_31 : decode cX1_init 31 = .ok (.aastore, 1) := by decide +kernel
theorem dX1_init_32 : decode cX1_init 32 = .ok (.iinc 1 1, 3) := by decide +kernel
theorem dX1_init_35 : decode cX1_init 35 = .ok (.goto (-21), 3) := by decide +kernel
theorem dX1_init_38 : decode cX1_init 38 = .ok (.return_, 1) := by decide +kernel
theorem dX1_isEmpty_0 : decode cX1_isEmpty 0 = .ok (.aload_n 0, 1) := by decide +kernel
theorem dX1_isEmpty_1 : decode cX1_isEmpty 1 = .ok (.getfield 18, 3) := by decide +kernel
theorem dX1_isEmpty_4 : decode cX1_isEmpty 4 = .ok (.ifCond .ne 7, 3) := by decide +kernel
theorem dX1_isEmpty_7 : decode cX1_isEmpty 7 = .ok (.iconst 1, 1) := by decide +kernel
theorem dX1_isEmpty_8 : decode cX1_isEmpty 8 = .ok (.goto 4, 3) := by decide +kernel
theorem dX1_isEmpty_11 : decode cX1_isEmpty 11 = .ok (.iconst 0, 1) := by decide +kernel
theorem dX1_isEmpty_12 : decode cX1_isEmpty 12 = .ok (.ireturn, 1) := by decide +kernel
theorem dX1_number_0 : decode cX1_number 0 = .ok (.aload_n 0, 1) := by decide +kernel
theorem dX1_number_1 : decode cX1_number 1 = .ok (.getfield 18, 3) := by decide +kernel
theorem dX1_number_4 : decode cX1_number 4 = .ok (.ireturn, 1) := by decide +kernel
theorem dX1_keep_0 : decode cX1_keep 0 = .ok (.aload_n 0, 1) := by decide +kernel
theorem dX1_keep_1 : decode cX1_keep 1 = .ok (.getfield 11, 3) := by decide +kernel
theorem dX1_keep_4 : decode cX1_keep 4 = .ok (.iconst 4, 1) := by decide +kernel
theorem dX1_keep_5 : decode cX1_keep 5 = .ok (.aaload, 1) := by decide +kernel
theorem dX1_keep_6 : decode cX1_keep 6 = .ok (.astore_n 2, 1) := by decide +kernel
theorem dX1_keep_7 : decode cX1_keep 7 = .ok (.aload_n 2, 1) := by decide +kernel
theorem dX1_keep_8 : decode cX1_keep 8 = .ok (.ifnonnull 4, 3) := by decide +kernel
theorem dX1_keep_11 : decode cX1_keep 11 = .ok (.return_, 1) := by decide +kernel
theorem dX1_keep_12 : decode cX1_keep 12 = .ok (.iconst 4, 1) := by decide +kernel
theorem dX1_keep_13 : decode cX1_keep 13 = .ok (.istore_n 3, 1) := by decide +kernel
theorem dX1_keep_14 : decode cX1_keep 14 = .ok (.iload_n 3, 1) := by decide +kernel
theorem dX1_keep_15 : decode cX1_keep 15 = .ok (.ifCond .le 23, 3) := by decide +kernel
theorem dX1_keep_18 : decode cX1_keep 18 = .ok (.aload_n 0, 1) := by decide +kernel
theorem dX1_keep_19 : decode cX1_keep 19 = .ok (.getfield 11, 3) := by decide +kernel
theorem dX1_keep_22 : decode cX1_keep 22 = .ok (.iload_n 3, 1) := by decide +kernel
theorem dX1_keep_23 : decode cX1_keep 23 = .ok (.aload_n 0, 1) := by decide +kernel
theorem dX1_keep_24 : decode cX1_keep 24 = .ok (.getfield 11, 3) := by decide +kernel
theorem dX1_keep_27 : decode cX1_keep 27 = .ok (.iload_n 3, 1) := by decide +kernel
theorem dX1_keep_28 : decode cX1_keep 28 = .ok (.iconst 1, 1) := by decide +kernel
theorem dX1_keep_29 : decode cX1_keep 29 = .ok (.isub, 1) := by decide +kernel
theorem dX1_keep_30 : decode cX1_keep 30 = .ok (.aaload, 1) := by decide +kernel
theorem dX1_keep_31 : decode cX1_keep 31 = .ok (.aastore, 1) := by decide +kernel
theorem dX1_keep_32 : decode cX1_keep 32 = .ok (.iinc 3 (-1), 3) := by decide +kernel
theorem dX1_keep_35 : decode cX1_keep 35 = .ok (.goto (-21), 3) := by decide +kernel
theorem dX1_keep_38 : decode cX1_keep 38 = .ok (.aload_n 0, 1) := by decide +kernel
theorem dX1_keep_39 : decode cX1_keep 39 = .ok (.getfield 11, 3) := by decide +kernel
theorem dX1_keep_42 : decode cX1_keep 42 = .ok (.iconst 0, 1) := by decide +kernel
theorem dX1_keep_43 : decode cX1_keep 43 = .ok (.aload_n 2, 1) := by decide +kernel
theorem dX1_keep_44 : decode cX1_keep 44 = .ok (.aastore, 1) := by decide +kernel
theorem dX1_keep_45 : decode cX1_keep 45 = .ok (.aload_n 2, 1) := by decide +kernel
theorem dX1_keep_46 : decode cX1_keep 46 = .ok (.aload_n 1, 1) := by decide +kernel
theorem dX1_keep_47 : decode cX1_keep 47 = .ok (.invokevirtual 22, 3) := by decide +kernel
theorem dX1_keep_50 : decode cX1_keep 50 = .ok (.aload_n 0, 1) := by decide +kernel
theorem dX1_keep_51 : decode cX1_keep 51 = .ok (.aload_n 0, 1) := by decide +kernel
theorem dX1_keep_52 : decode cX1_keep 52 = .ok (.getfield 18, 3) := by decide +kernel
theorem dX1_keep_55 : decode cX1_keep 55 = .ok (.iconst 1, 1) := by decide +kernel
theorem dX1_keep_56 : decode cX1_keep 56 = .ok (.iadd, 1) := by decide +kernel
theorem dX1_keep_57 : decode cX1_keep 57 = .ok (.iconst 5, 1) := by decide +kernel
theorem dX1_keep_58 : decode cX1_keep 58 = .ok (.invokestatic 26, 3) := by decide +kernel
theorem dX1_keep_61 : decode cX1_keep 61 = .ok (.putfield 18, 3) := by decide +kernel
theorem dX1_keep_64 : decode cX1_keep 64 = .ok (.return_, 1) := by decide +kernel
theorem dX1_restoreInto_0 : decode cX1_restoreInto 0 = .ok (.aload_n 0, 1) := by decide +kernel
theorem dX1_restoreInto_1 : decode cX1_restoreInto 1 = .ok (.getfield 11, 3) := by decide +kernel
theorem dX1_restoreInto_4 : decode cX1_restoreInto 4 = .ok (.iconst 0, 1) := by decide +kernel
theorem dX1_restoreInto_5 : decode cX1_restoreInto 5 = .ok (.aaload, 1) := by decide +kernel
theorem dX1_restoreInto_6 : decode cX1_restoreInto 6 = .ok (.astore_n 2, 1) := by decide +kernel
theorem dX1_restoreInto_7 : decode cX1_restoreInto 7 = .ok (.aload_n 2, 1) := by decide +kernel
theorem dX1_restoreInto_8 : decode cX1_restoreInto 8 = .ok (.ifnonnull 4, 3) := by decide +kernel
theorem dX1_restoreInto_11 : decode cX1_restoreInto 11 = .ok (.return_, 1) := by decide +kernel
theorem dX1_restoreInto_12 : decode cX1_restoreInto 12 = .ok (.iconst 0, 1) := by decide +kernel
theorem dX1_restoreInto_13 : decode cX1_restoreInto 13 = .ok (.istore_n 3, 1) := by decide +kernel
theorem dX1_restoreInto_14 : decode cX1_restoreInto 14 = .ok (.iload_n 3, 1) := by decide +kernel
theorem dX1_restoreInto_15 : decode cX1_restoreInto 15 = .ok (.iconst 4, 1) := by decide +kernel
theorem dX1_restoreInto_16 : decode cX1_restoreInto 16 = .ok (.if_icmp .ge 23, 3) := by decide +kernel
theorem dX1_restoreInto_19 : decode cX1_restoreInto 19 = .ok (.aload_n 0, 1) := by decide +kernel
theorem dX1_restoreInto_20 : decode cX1_restoreInto 20 = .ok (.getfield 11, 3) := by decide +kernel
theorem dX1_restoreInto_23 : decode cX1_restoreInto 23 = .ok (.iload_n 3, 1) := by decide +kernel
theorem dX1_restoreInto_24 : decode cX1_restoreInto 24 = .ok (.aload_n 0, 1) := by decide +kernel
theorem dX1_restoreInto_25 : decode cX1_restoreInto 25 = .ok (.getfield 11, 3) := by decide +kernel
theorem dX1_restoreInto_28 : decode cX1_restoreInto 28 = .ok (.iload_n 3, 1) := by decide +kernel
theorem dX1_restoreInto_29 : decode cX1_restoreInto 29 = .ok (.iconst 1, 1) := by decide +kernel
theorem dX1_restoreInto_30 : decode cX1_restoreInto 30 = .ok (.iadd, 1) := by decide +kernel
theorem dX1_restoreInto_31 : decode cX1_restoreInto 31 = .ok (.aaload, 1) := by decide +kernel
theorem dX1_restoreInto_32 : decode cX1_restoreInto 32 = .ok (.aastore, 1) := by decide +kernel
theorem dX1_restoreInto_33 : decode cX1_restoreInto 33 = .ok (.iinc 3 1, 3) := by decide +kernel
theorem dX1_restoreInto_36 : decode cX1_restoreInto 36 = .ok (.goto (-22), 3) := by decide +kernel
theorem dX1_restoreInto_39 : decode cX1_restoreInto 39 = .ok (.aload_n 0, 1) := by decide +kernel
theorem dX1_restoreInto_40 : decode cX1_restoreInto 40 = .ok (.getfield 11, 3) := by decide +kernel
theorem dX1_restoreInto_43 : decode cX1_restoreInto 43 = .ok (.iconst 4, 1) := by decide +kernel
theorem dX1_restoreInto_44 : decode cX1_restoreInto 44 = .ok (.aload_n 2, 1) := by decide +kernel
theorem dX1_restoreInto_45 : decode cX1_restoreInto 45 = .ok (.aastore, 1) := by decide +kernel
theorem dX1_restoreInto_46 : decode cX1_restoreInto 46 = .ok (.aload_n 1, 1) := by decide +kernel
theorem dX1_restoreInto_47 : decode cX1_restoreInto 47 = .ok (.aload_n 2, 1) := by decide +kernel
theorem dX1_restoreInto_48 : decode cX1_restoreInto 48 = .ok (.invokevirtual 22, 3) := by decide +kernel
theorem dX1_restoreInto_51 : decode cX1_restoreInto 51 = .ok (.aload_n 0, 1) := by decide +kernel
theorem dX1_restoreInto_52 : decode cX1_restoreInto 52 = .ok (.aload_n 0, 1) := by decide +kernel
theorem dX1_restoreInto_53 : decode cX1_restoreInto 53 = .ok (.getfield 18, 3) := by decide +kernel
theorem dX1_restoreInto_56 : decode cX1_restoreInto 56 = .ok (.iconst 1, 1) := by decide +kernel
theorem dX1_restoreInto_57 : decode cX1_restoreInto 57 = .ok (.isub, 1) := by decide +kernel
theorem dX1_restoreInto_58 : decode cX1_restoreInto 58 = .ok (.iconst 0, 1) := by decide +kernel
theorem dX1_restoreInto_59 : decode cX1_restoreInto 59 = .ok (.invokestatic 32, 3) := by decide +kernel
theorem dX1_restoreInto_62 : decode cX1_restoreInto 62 = .ok (.putfield 18, 3) := by decide +kernel
theorem dX1_restoreInto_65 : decode cX1_restoreInto 65 = .ok (.return_, 1) := by decide +kernel
theorem dX2_init_0 : decode cX2_init 0 = .ok (.aload_n 0, 1) := by decide +kernel
theorem dX2_init_1 : decode cX2_init 1 = .ok (.invokespecial 3, 3) := by decide +kernel
theorem dX2_init_4 : decode cX2_init 4 = .ok (.aload_n 0, 1) := by decide +kernel
theorem dX2_init_5 : decode cX2_init 5 = .ok (.bipush 40, 2) := by decide +kernel
theorem dX2_init_7 : decode cX2_init 7 = .ok (.newarray .int, 2) := by decide +kernel
theorem dX2_init_9 : decode cX2_init 9 = .ok (.putfield 9, 3) := by decide +kernel
theorem dX2_init_12 : decode cX2_init 12 = .ok (.aload_n 0, 1) := by decide +kernel
theorem dX2_init_13 : decode cX2_init 13 = .ok (.bipush 40, 2) := by decide +kernel
theorem dX2_init_15 : decode cX2_init 15 = .ok (.newarray .int, 2) := by decide +kernel
theorem dX2_init_17 : decode cX2_init 17 = .ok (.putfield 15, 3) := by decide +kernel
theorem dX2_init_20 : decode cX2_init 20 = .ok (.aload_n 0, 1) := by decide +kernel
theorem dX2_init_21 : decode cX2_init 21 = .ok (.bipush 40, 2) := by decide +kernel
theorem dX2_init_23 : decode cX2_init 23 = .ok (.newarray .int, 2) := by decide +kernel
theorem dX2_init_25 : decode cX2_init 25 = .ok (.putfield 18, 3) := by decide +kernel
theorem dX2_init_28 : decode cX2_init 28 = .ok (.iconst 0, 1) := by decide +kernel
theorem dX2_init_29 : decode cX2_init 29 = .ok (.istore_n 1, 1) := by decide +kernel
theorem dX2_init_30 : decode cX2_init 30 = .ok (.iload_n 1, 1) := by decide +kernel
theorem dX2_init_31 : decode cX2_init 31 = .ok (.bipush 40, 2) := by decide +kernel
theorem dX2_init_33 : decode cX2_init 33 = .ok (.if_icmp .ge 16, 3) := by decide +kernel
theorem dX2_init_36 : decode cX2_init 36 = .ok (.aload_n 0, 1) := by decide +kernel
theorem dX2_init_37 : decode cX2_init 37 = .ok (.getfield 18, 3) := by decide +kernel
theorem dX2_init_40 : decode cX2_init 40 = .ok (.iload_n 1, 1) := by decide +kernel
theorem dX2_init_41 : decode cX2_init 41 = .ok (.iconst (-1), 1) := by decide +kernel
theorem dX2_init_42 : decode cX2_init 42 = .ok (.iastore, 1) := by decide +kernel
theorem dX2_init_43 : decode cX2_init 43 = .ok (.iinc 1 1, 3) := by decide +kernel
theorem dX2_init_46 : decode cX2_init 46 = .ok (.goto (-16), 3) := by decide +kernel
theorem dX2_init_49 : decode cX2_init 49 = .ok (.aload_n 0, 1) := by decide +kernel
theorem dX2_init_50 : decode cX2_init 50 = .ok (.iconst 0, 1) := by decide +kernel
theorem dX2_init_51 : decode cX2_init 51 = .ok (.iconst 0, 1) := by decide +kernel
theorem dX2_init_52 : decode cX2_init 52 = .ok (.iconst 0, 1) := by decide +kernel
theorem dX2_init_53 : decode cX2_init 53 = .ok (.invokevirtual 21, 3) := by decide +kernel
theorem dX2_init_56 : decode cX2_init 56 = .ok (.pop, 1) := by decide +kernel
theorem dX2_init_57 : decode cX2_init 57 = .ok (.return_, 1) := by decide +kernel
theorem dX2_copyFrom_0 : decode cX2_copyFrom 0 = .ok (.aload_n 0, 1) := by decide +kernel
theorem dX2_copyFrom_1 : decode cX2_copyFrom 1 = .ok (.aload_n 1, 1) := by decide +kernel
theorem dX2_copyFrom_2 : decode cX2_copyFrom 2 = .ok (.getfield 25, 3) := by decide +kernel
theorem dX2_copyFrom_5 : decode cX2_copyFrom 5 = .ok (.putfield 25, 3) := by decide +kernel
theorem dX2_copyFrom_8 : decode cX2_copyFrom 8 = .ok (.aload_n 1, 1) := by decide +kernel
theorem dX2_copyFrom_9 : decode cX2_copyFrom 9 = .ok (.getfield 9, 3) := by decide +kernel
theorem dX2_copyFrom_12 : decode cX2_copyFrom 12 = .ok (.iconst 0, 1) := by decide +kernel
theorem dX2_copyFrom_13 : decode cX2_copyFrom 13 = .ok (.aload_n 0, 1) := by decide +kernel
theorem dX2_copyFrom_14 : decode cX2_copyFrom 14 = .ok (.getfield 9, 3) := by decide +kernel
theorem dX2_copyFrom_17 : decode cX2_copyFrom 17 = .ok (.iconst 0, 1) := by decide +kernel
theorem dX2_copyFrom_18 : decode cX2_copyFrom 18 = .ok (.bipush 40, 2) := by decide +kernel
theorem dX2_copyFrom_20 : decode cX2_copyFrom 20 = .ok (.invokestatic 29, 3) := by decide +kernel
theorem dX2_copyFrom_23 : decode cX2_copyFrom 23 = .ok (.aload_n 1, 1) := by decide +kernel
theorem dX2_copyFrom_24 : decode cX2_copyFrom 24 = .ok (.getfield 15, 3) := by decide +kernel
theorem dX2_copyFrom_27 : decode cX2_copyFrom 27 = .ok (.iconst 0, 1) := by decide +kernel
theorem dX2_copyFrom_28 : decode cX2_copyFrom 28 = .ok (.aload_n 0, 1) := by decide +kernel
theorem dX2_copyFrom_29 : decode cX2_copyFrom 29 = .ok (.getfield 15, 3) := by decide +kernel
theorem dX2_copyFrom_32 : decode cX2_copyFrom 32 = .ok (.iconst 0, 1) := by decide +kernel
theorem dX2_copyFrom_33 : decode cX2_copyFrom 33 = .ok (.bipush 40, 2) := by decide +kernel
theorem dX2_copyFrom_35 : decode cX2_copyFrom 35 = .ok (.invokestatic 29, 3) := by decide +kernel
theorem dX2_copyFrom_38 : decode cX2_copyFrom 38 = .ok (.aload_n 1, 1) := by decide +kernel
theorem dX2_copyFrom_39 : decode cX2_copyFrom 39 = .ok (.getfield 18, 3) := by decide +kernel
theorem dX2_copyFrom_42 : decode cX2_copyFrom 42 = .ok (.iconst 0, 1) := by decide +kernel
theorem dX2_copyFrom_43 : decode cX2_copyFrom 43 = .ok (.aload_n 0, 1) := by decide +kernel
theorem dX2_copyFrom_44 : decode cX2_copyFrom 44 = .ok (.getfield 18, 3) := by decide +kernel
theorem dX2_copyFrom_47 : decode cX2_copyFrom 47 = .ok (.iconst 0, 1) := by decide +kernel
theorem dX2_copyFrom_48 : decode cX2_copyFrom 48 = .ok (.bipush 40, 2) := by decide +kernel
theorem dX2_copyFrom_50 : decode cX2_copyFrom 50 = .ok (.invokestatic 29, 3) := by decide +kernel
theorem dX2_copyFrom_53 : decode cX2_copyFrom 53 = .ok (.return_, 1) := by decide +kernel
theorem dX2_exists_0 : decode cX2_exists 0 = .ok (.iload_n 1, 1) := by decide +kernel
theorem dX2_exists_1 : decode cX2_exists 1 = .ok (.ifCond .lt 23, 3) := by decide +kernel
theorem dX2_exists_4 : decode cX2_exists 4 = .ok (.iload_n 1, 1) := by decide +kernel
theorem dX2_exists_5 : decode cX2_exists 5 = .ok (.bipush 40, 2) := by decide +kernel
theorem dX2_exists_7 : decode cX2_exists 7 = .ok (.if_icmp .ge 17, 3) := by decide +kernel
theorem dX2_exists_10 : decode cX2_exists 10 = .ok (.aload_n 0, 1) := by decide +kernel
theorem dX2_exists_11 : decode cX2_exists 11 = .ok (.getfield 18, 3) := by decide +kernel
theorem dX2_exists_14 : decode cX2_exists 14 = .ok (.iload_n 1, 1) := by decide +kernel
theorem dX2_exists_15 : decode cX2_exists 15 = .ok (.iaload, 1) := by decide +kernel
theorem dX2_exists_16 : decode cX2_exists 16 = .ok (.iconst (-1), 1) := by decide +kernel
theorem dX2_exists_17 : decode cX2_exists 17 = .ok (.if_icmp .eq 7, 3) := by decide +kernel
theorem dX2_exists_20 : decode cX2_exists 20 = .ok (.iconst 1, 1) := by decide +kernel
theorem dX2_exists_21 : decode cX2_exists 21 = .ok (.goto 4, 3) := by decide +kernel
theorem dX2_exists_24 : decode cX2_exists 24 = .ok (.iconst 0, 1) := by decide +kernel
theorem dX2_exists_25 : decode cX2_exists 25 = .ok (.ireturn, 1) := by decide +kernel
theorem dX2_numberFounded_0 : decode cX2_numberFounded 0 = .ok (.aload_n 0, 1) := by decide +kernel
theorem dX2_numberFounded_1 : decode cX2_numberFounded 1 = .ok (.getfield 25, 3) := by decide +kernel
theorem dX2_numberFounded_4 : decode cX2_numberFounded 4 = .ok (.ireturn, 1) := by decide +kernel
theorem dX2_number_0 : decode cX2_number 0 = .ok (.aload_n 0, 1) := by decide +kernel
theorem dX2_number_1 : decode cX2_number 1 = .ok (.iconst 0, 1) := by decide +kernel
theorem dX2_number_2 : decode cX2_number 2 = .ok (.iconst 0, 1) := by decide +kernel
theorem dX2_number_3 : decode cX2_number 3 = .ok (.bipush 63, 2) := by decide +kernel
theorem dX2_number_5 : decode cX2_number 5 = .ok (.bipush 63, 2) := by decide +kernel
theorem dX2_number_7 : decode cX2_number 7 = .ok (.invokevirtual 35, 3) := by decide +kernel
theorem dX2_number_10 : decode cX2_number 10 = .ok (.ireturn, 1) := by decide +kernel
theorem dX2_leftOf_0 : decode cX2_leftOf 0 = .ok (.aload_n 0, 1) := by decide +kernel
theorem dX2_leftOf_1 : decode cX2_leftOf 1 = .ok (.iload_n 1, 1) := by decide +kernel
theorem dX2_leftOf_2 : decode cX2_leftOf 2 = .ok (.invokevirtual 39, 3) := by decide +kernel
theorem dX2_leftOf_5 : decode cX2_leftOf 5 = .ok (.ifCond .eq 12, 3) := by decide +kernel
theorem dX2_leftOf_8 : decode cX2_leftOf 8 = .ok (.aload_n 0, 1) := by decide +kernel
theorem dX2_leftOf_9 : decode cX2_leftOf 9 = .ok (.getfield 9, 3) := by decide +kernel
theorem dX2_leftOf_12 : decode cX2_leftOf 12 = .ok (.iload_n 1, 1) := by decide +kernel
theorem dX2_leftOf_13 : decode cX2_leftOf 13 = .ok (.iaload, 1) := by decide +kernel
theorem dX2_leftOf_14 : decode cX2_leftOf 14 = .ok (.goto 5, 3) := by decide +kernel
theorem dX2_leftOf_17 : decode cX2_leftOf 17 = .ok (.bipush (-9), 2) := by decide +kernel
theorem dX2_leftOf_19 : decode cX2_leftOf 19 = .ok (.ireturn, 1) := by decide +kernel
theorem dX2_topOf_0 : decode cX2_topOf 0 = .ok (.aload_n 0, 1) := by decide +kernel
theorem dX2_topOf_1 : decode cX2_topOf 1 = .ok (.iload_n 1, 1) := by decide +kernel
theorem dX2_topOf_2 : decode cX2_topOf 2 = .ok (.invokevirtual 39, 3) := by decide +kernel
theorem dX2_topOf_5 : decode cX2_topOf 5 = .ok (.ifCond .eq 12, 3) := by decide +kernel
theorem dX2_topOf_8 : decode cX2_topOf 8 = .ok (.aload_n 0, 1) := by decide +kernel
theorem dX2_topOf_9 : decode cX2_topOf 9 = .ok (.getfield 15, 3) := by decide +kernel
theorem dX2_topOf_12 : decode cX2_topOf 12 = .ok (.iload_n 1, 1) := by decide +kernel
theorem dX2_topOf_13 : decode cX2_topOf 13 = .ok (.iaload, 1) := by decide +kernel
theorem dX2_topOf_14 : decode cX2_topOf 14 = .ok (.goto 5, 3) := by decide +kernel
theorem dX2_topOf_17 : decode cX2_topOf 17 = .ok (.bipush (-9), 2) := by decide +kernel
theorem dX2_topOf_19 : decode cX2_topOf 19 = .ok (.ireturn, 1) := by decide +kernel
theorem dX2_rightOf_0 : decode cX2_rightOf 0 = .ok (.aload_n 0, 1) := by decide +kernel
theorem dX2_rightOf_1 : decode cX2_rightOf 1 = .ok (.iload_n 1, 1) := by decide +kernel
theorem dX2_rightOf_2 : decode cX2_rightOf 2 = .ok (.invokevirtual 43, 3) := by decide +kernel
theorem dX2_rightOf_5 : decode cX2_rightOf 5 = .ok (.aload_n 0, 1) := by decide +kernel
theorem dX2_rightOf_6 : decode cX2_rightOf 6 = .ok (.iload_n 1, 1) := by decide +kernel
theorem dX2_rightOf_7 : decode cX2_rightOf 7 = .ok (.invokevirtual 47, 3) := by decide +kernel
theorem dX2_rightOf_10 : decode cX2_rightOf 10 = .ok (.invokestatic 50, 3) := by decide +kernel
theorem dX2_rightOf_13 : decode cX2_rightOf 13 = .ok (.iadd, 1) := by decide +kernel
theorem dX2_rightOf_14 : decode cX2_rightOf 14 = .ok (.iconst 1, 1) := by decide +kernel
theorem dX2_rightOf_15 : decode cX2_rightOf 15 = .ok (.isub, 1) := by decide +kernel
theorem dX2_rightOf_16 : decode cX2_rightOf 16 = .ok (.ireturn, 1) := by decide +kernel
theorem dX2_bottomOf_0 : decode cX2_bottomOf 0 = .ok (.aload_n 0, 1) := by decide +kernel
theorem dX2_bottomOf_1 : decode cX2_bottomOf 1 = .ok (.iload_n 1, 1) := by decide +kernel
theorem dX2_bottomOf_2 : decode cX2_bottomOf 2 = .ok (.invokevirtual 53, 3) := by decide +kernel
theorem dX2_bottomOf_5 : decode cX2_bottomOf 5 = .ok (.aload_n 0, 1) := by decide +kernel
theorem dX2_bottomOf_6 : decode cX2_bottomOf 6 = .ok (.iload_n 1, 1) := by decide +kernel
theorem dX2_bottomOf_7 : decode cX2_bottomOf 7 = .ok (.invokevirtual 47, 3) := by decide +kernel
theorem dX2_bottomOf_10 : decode cX2_bottomOf 10 = .ok (.invokestatic 50, 3) := by decide +kernel
theorem dX2_bottomOf_13 : decode cX2_bottomOf 13 = .ok (.iadd, 1) := by decide +kernel
theorem dX2_bottomOf_14 : decode cX2_bottomOf 14 = .ok (.iconst 1, 1) := by decide +kernel
theorem dX2_bottomOf_15 : decode cX2_bottomOf 15 = .ok (.isub, 1) := by decide +kernel
theorem dX2_bottomOf_16 : decode cX2_bottomOf 16 = .ok (.ireturn, 1) := by decide +kernel
theorem dX2_scaleOf_0 : decode cX2_scaleOf 0 = .ok (.aload_n 0, 1) := by decide +kernel
theorem dX2_scaleOf_1 : decode cX2_scaleOf 1 = .ok (.iload_n 1, 1) := by decide +kernel
theorem dX2_scaleOf_2 : decode cX2_scaleOf 2 = .ok (.invokevirtual 39, 3) := by decide +kernel
theorem dX2_scaleOf_5 : decode cX2_scaleOf 5 = .ok (.ifCond .eq 12, 3) := by decide +kernel
theorem dX2_scaleOf_8 : decode cX2_scaleOf 8 = .ok (.aload_n 0, 1) := by decide +kernel
theorem dX2_scaleOf_9 : decode cX2_scaleOf 9 = .ok (.getfield 18, 3) := by decide +kernel
theorem dX2_scaleOf_12 : decode cX2_scaleOf 12 = .ok (.iload_n 1, 1) := by decide +kernel
theorem dX2_scaleOf_13 : decode cX2_scaleOf 13 = .ok (.iaload, 1) := by decide +kernel
theorem dX2_scaleOf_14 : decode cX2_scaleOf 14 = .ok (.goto 4, 3) := by decide +kernel
theorem dX2_scaleOf_17 : decode cX2_scaleOf 17 = .ok (.iconst (-1), 1) := by decide +kernel
theorem dX2_scaleOf_18 : decode cX2_scaleOf 18 = .ok (.ireturn, 1) := by decide +kernel
theorem dX2_found_0 : decode cX2_found 0 = .ok (.aload_n 0, 1) := by decide +kernel
theorem dX2_found_1 : decode cX2_found 1 = .ok (.getfield 25, 3) := by decide +kernel
theorem dX2_found_4 : decode cX2_found 4 = .ok (.istore 4, 2) := by decide +kernel
theorem dX2_found_6 : decode cX2_found 6 = .ok (.iload 4, 2) := by decide +kernel
theorem dX2_found_8 : decode cX2_found 8 = .ok (.iconst 0, 1) := by decide +kernel
theorem dX2_found_9 : decode cX2_found 9 = .ok (.bipush 39, 2) := by decide +kernel
theorem dX2_found_11 : decode cX2_found 11 = .ok (.invokestatic 56, 3) := by decide +kernel
theorem dX2_found_14 : decode cX2_found 14 = .ok (.ifCond .ne 6, 3) := by decide +kernel
theorem dX2_found_17 : decode cX2_found 17 = .ok (.bipush (-9), 2) := by decide +kernel
theorem dX2_found_19 : decode cX2_found 19 = .ok (.ireturn, 1) := by decide +kernel
theorem dX2_found_20 : decode cX2_found 20 = .ok (.aload_n 0, 1) := by decide +kernel
theorem dX2_found_21 : decode cX2_found 21 = .ok (.dup, 1) := by decide +kernel
theorem dX2_found_22 : decode cX2_found 22 = .ok (.getfield 25, 3) := by decide +kernel
theorem dX2_found_25 : decode cX2_found 25 = .ok (.iconst 1, 1) := by decide +kernel
theorem dX2_found_26 : decode cX2_found 26 = .ok (.iadd, 1) := by decide +kernel
theorem dX2_found_27 : decode cX2_found 27 = .ok (.putfield 25, 3) := by decide +kernel
theorem dX2_found_30 : decode cX2_found 30 = .ok (.aload_n 0, 1) := by decide +kernel
theorem dX2_found_31 : decode cX2_found 31 = .ok (.iload 4, 2) := by decide +kernel
theorem dX2_found_33 : decode cX2_found 33 = .ok (.iload_n 1, 1) := by decide +kernel
theorem dX2_found_34 : decode cX2_found 34 = .ok (.iload_n 2, 1) := by decide +kernel
theorem dX2_found_35 : decode cX2_found 35 = .ok (.iload_n 3, 1) := by decide +kernel
theorem dX2_found_36 : decode cX2_found 36 = .ok (.invokevirtual 60, 3) := by decide +kernel
theorem dX2_found_39 : decode cX2_found 39 = .ok (.iload 4, 2) := by decide +kernel
theorem dX2_found_41 : decode cX2_found 41 = .ok (.ireturn, 1) := by decide +kernel
theorem dX2_giveCell_0 : decode cX2_giveCell 0 = .ok (.iload_n 1, 1) := by decide +kernel
theorem dX2_giveCell_1 : decode cX2_giveCell 1 = .ok (.iconst 0, 1) := by decide +kernel
theorem dX2_giveCell_2 : decode cX2_giveCell 2 = .ok (.bipush 39, 2) := by decide +kernel
theorem dX2_giveCell_4 : decode cX2_giveCell 4 = .ok (.invokestatic 56, 3) := by decide +kernel
theorem dX2_giveCell_7 : decode cX2_giveCell 7 = .ok (.ifCond .eq 25, 3) := by decide +kernel
theorem dX2_giveCell_10 : decode cX2_giveCell 10 = .ok (.aload_n 0, 1) := by decide +kernel
theorem dX2_giveCell_11 : decode cX2_giveCell 11 = .ok (.getfield 9, 3) := by decide +kernel
theorem dX2_giveCell_14 : decode cX2_giveCell 14 = .ok (.iload_n 1, 1) := by decide +kernel
theorem dX2_giveCell_15 : decode cX2_giveCell 15 = .ok (.iload_n 2, 1) := by decide +kernel
theorem dX2_giveCell_16 : decode cX2_giveCell 16 = .ok (.iastore, 1) := by decide +kernel
theorem dX2_giveCell_17 : decode cX2_giveCell 17 = .ok (.aload_n 0, 1) := by decide +kernel
theorem dX2_giveCell_18 : decode cX2_giveCell 18 = .ok (.getfield 15, 3) := by decide +kernel
theorem dX2_giveCell_21 : decode cX2_giveCell 21 = .ok (.iload_n 1, 1) := by decide +kernel
theorem dX2_giveCell_22 : decode cX2_giveCell 22 = .ok (.iload_n 3, 1) := by decide +kernel
theorem dX2_giveCell_23 : decode cX2_giveCell 23 = .ok (.iastore, 1) := by decide +kernel
theorem dX2_giveCell_24 : decode cX2_giveCell 24 = .ok (.aload_n 0, 1) := by decide +kernel
theorem dX2_giveCell_25 : decode cX2_giveCell 25 = .ok (.getfield 18, 3) := by decide +kernel
theorem dX2_giveCell_28 : decode cX2_giveCell 28 = .ok (.iload_n 1, 1) := by decide +kernel
theorem dX2_giveCell_29 : decode cX2_giveCell 29 = .ok (.iload 4, 2) := by decide +kernel
theorem dX2_giveCell_31 : decode cX2_giveCell 31 = .ok (.iastore, 1) := by decide +kernel
theorem dX2_giveCell_32 : decode cX2_giveCell 32 = .ok (.return_, 1) := by decide +kernel
theorem dX2_dissolve_0 : decode cX2_dissolve 0 = .ok (.aload_n 0, 1) := by decide +kernel
theorem dX2_dissolve_1 : decode cX2_dissolve 1 = .ok (.iload_n 1, 1) := by decide +kernel
theorem dX2_dissolve_2 : decode cX2_dissolve 2 = .ok (.invokevirtual 39, 3) := by decide +kernel
theorem dX2_dissolve_5 : decode cX2_dissolve 5 = .ok (.ifCond .eq 10, 3) := by decide +kernel
theorem dX2_dissolve_8 : decode cX2_dissolve 8 = .ok (.aload_n 0, 1) := by decide +kernel
theorem dX2_dissolve_9 : decode cX2_dissolve 9 = .ok (.getfield 18, 3) := by decide +kernel
theorem dX2_dissolve_12 : decode cX2_dissolve 12 = .ok (.iload_n 1, 1) := by decide +kernel
theorem dX2_dissolve_13 : decode cX2_dissolve 13 = .ok (.iconst (-1), 1) := by decide +kernel
theorem dX2_dissolve_14 : decode cX2_dissolve 14 = .ok (.iastore, 1) := by decide +kernel
theorem dX2_dissolve_15 : decode cX2_dissolve 15 = .ok (.return_, 1) := by decide +kernel
theorem dX2_touches_0 : decode cX2_touches 0 = .ok (.aload_n 0, 1) := by decide +kernel
theorem dX2_touches_1 : decode cX2_touches 1 = .ok (.iload_n 1, 1) := by decide +kernel
theorem dX2_touches_2 : decode cX2_touches 2 = .ok (.invokevirtual 39, 3) := by decide +kernel
theorem dX2_touches_5 : decode cX2_touches 5 = .ok (.ifCond .ne 5, 3) := by decide +kernel
theorem dX2_touches_8 : decode cX2_touches 8 = .ok (.iconst 0, 1) := by decide +kernel
theorem dX2_touches_9 : decode cX2_touches 9 = .ok (.ireturn, 1) := by decide +kernel
theorem dX2_touches_10 : decode cX2_touches 10 = .ok (.aload_n 0, 1) := by decide +kernel
theorem dX2_touches_11 : decode cX2_touches 11 = .ok (.getfield 18, 3) := by decide +kernel
theorem dX2_touches_14 : decode cX2_touches 14 = .ok (.iload_n 1, 1) := by decide +kernel
theorem dX2_touches_15 : decode cX2_touches 15 = .ok (.iaload, 1) := by decide +kernel
theorem dX2_touches_16 : decode cX2_touches 16 = .ok (.invokestatic 50, 3) := by decide +kernel
theorem dX2_touches_19 : decode cX2_touches 19 = .ok (.istore 6, 2) := by decide +kernel
theorem dX2_touches_21 : decode cX2_touches 21 = .ok (.aload_n 0, 1) := by decide +kernel
theorem dX2_touches_22 : decode cX2_touches 22 = .ok (.getfield 9, 3) := by decide +kernel
theorem dX2_touches_25 : decode cX2_touches 25 = .ok (.iload_n 1, 1) := by decide +kernel
theorem dX2_touches_26 : decode cX2_touches 26 = .ok (.iaload, 1) := by decide +kernel
theorem dX2_touches_27 : decode cX2_touches 27 = .ok (.iload 4, 2) := by decide +kernel
theorem dX2_touches_29 : decode cX2_touches 29 = .ok (.if_icmp .gt 44, 3) := by decide +kernel
theorem dX2_touches_32 : decode cX2_touches 32 = .ok (.aload_n 0, 1) := by decide +kernel
theorem dX2_touches_33 : decode cX2_touches 33 = .ok (.getfield 9, 3) := by decide +kernel
theorem dX2_touches_36 : decode cX2_touches 36 = .ok (.iload_n 1, 1) := by decide +kernel
theorem dX2_touches_37 : decode cX2_touches 37 = .ok (.iaload, 1) := by decide +kernel
theorem dX2_touches_38 : decode cX2_touches 38 = .ok (.iload 6, 2) := by decide +kernel
theorem dX2_touches_40 : decode cX2_touches 40 = .ok (.iadd, 1) := by decide +kernel
theorem dX2_touches_41 : decode cX2_touches 41 = .ok (.iload_n 2, 1) := by decide +kernel
theorem dX2_touches_42 : decode cX2_touches 42 = .ok (.if_icmp .le 31, 3) := by decide +kernel
theorem dX2_touches_45 : decode cX2_touches 45 = .ok (.aload_n 0, 1) := by decide +kernel
theorem dX2_touches_46 : decode cX2_touches 46 = .ok (.getfield 15, 3) := by decide +kernel
theorem dX2_touches_49 : decode cX2_touches 49 = .ok (.iload_n 1, 1) := by decide +kernel
theorem dX2_touches_50 : decode cX2_touches 50 = .ok (.iaload, 1) := by decide +kernel
theorem dX2_touches_51 : decode cX2_touches 51 = .ok (.iload 5, 2) := by decide +kernel
theorem dX2_touches_53 : decode cX2_touches 53 = .ok (.if_icmp .gt 20, 3) := by decide +kernel
theorem dX2_touches_56 : decode cX2_touches 56 = .ok (.aload_n 0, 1) := by decide +kernel
theorem dX2_touches_57 : decode cX2_touches 57 = .ok (.getfield 15, 3) := by decide +kernel
theorem dX2_touches_60 : decode cX2_touches 60 = .ok (.iload_n 1, 1) := by decide +kernel
theorem dX2_touches_61 : decode cX2_touches 61 = .ok (.iaload, 1) := by decide +kernel
theorem dX2_touches_62 : decode cX2_touches 62 = .ok (.iload 6, 2) := by decide +kernel
theorem dX2_touches_64 : decode cX2_touches 64 = .ok (.iadd, 1) := by decide +kernel
theorem dX2_touches_65 : decode cX2_touches 65 = .ok (.iload_n 3, 1) := by decide +kernel
theorem dX2_touches_66 : decode cX2_touches 66 = .ok (.if_icmp .le 7, 3) := by decide +kernel
theorem dX2_touches_69 : decode cX2_touches 69 = .ok (.iconst 1, 1) := by decide +kernel
theorem dX2_touches_70 : decode cX2_touches 70 = .ok (.goto 4, 3) := by decide +kernel
theorem dX2_touches_73 : decode cX2_touches 73 = .ok (.iconst 0, 1) := by decide +kernel
theorem dX2_touches_74 : decode cX2_touches 74 = .ok (.ireturn, 1) := by decide +kernel
theorem dX2_parishAt_0 : decode cX2_parishAt 0 = .ok (.iconst 0, 1) := by decide +kernel
theorem dX2_parishAt_1 : decode cX2_parishAt 1 = .ok (.istore_n 3, 1) := by decide +kernel
theorem dX2_parishAt_2 : decode cX2_parishAt 2 = .ok (.iload_n 3, 1) := by decide +kernel
theorem dX2_parishAt_3 : decode cX2_parishAt 3 = .ok (.bipush 40, 2) := by decide +kernel
theorem dX2_parishAt_5 : decode cX2_parishAt 5 = .ok (.if_icmp .ge 23, 3) := by decide +kernel
theorem dX2_parishAt_8 : decode cX2_parishAt 8 = .ok (.aload_n 0, 1) := by decide +kernel
theorem dX2_parishAt_9 : decode cX2_parishAt 9 = .ok (.iload_n 3, 1) := by decide +kernel
theorem dX2_parishAt_10 : decode cX2_parishAt 10 = .ok (.iload_n 1, 1) := by decide +kernel
theorem dX2_parishAt_11 : decode cX2_parishAt 11 = .ok (.iload_n 2, 1) := by decide +kernel
theorem dX2_parishAt_12 : decode cX2_parishAt 12 = .ok (.iload_n 1, 1) := by decide +kernel
theorem dX2_parishAt_13 : decode cX2_parishAt 13 = .ok (.iload_n 2, 1) := by decide +kernel
theorem dX2_parishAt_14 : decode cX2_parishAt 14 = .ok (.invokevirtual 64, 3) := by decide +kernel
theorem dX2_parishAt_17 : decode cX2_parishAt 17 = .ok (.ifCond .eq 5, 3) := by decide +kernel
theorem dX2_parishAt_20 : decode cX2_parishAt 20 = .ok (.iload_n 3, 1) := by decide +kernel
theorem dX2_parishAt_21 : decode cX2_parishAt 21 = .ok (.ireturn, 1) := by decide +kernel
theorem dX2_parishAt_22 : decode cX2_parishAt 22 = .ok (.iinc 3 1, 3) := by decide +kernel
theorem dX2_parishAt_25 : decode cX2_parishAt 25 = .ok (.goto (-23), 3) := by decide +kernel
theorem dX2_parishAt_28 : decode cX2_parishAt 28 = .ok (.bipush (-9), 2) := by decide +kernel
theorem dX2_parishAt_30 : decode cX2_parishAt 30 = .ok (.ireturn, 1) := by decide +kernel
theorem dX2_numberTouching_0 : decode cX2_numberTouching 0 = .ok (.iconst 0, 1) := by decide +kernel
theorem dX2_numberTouching_1 : decode cX2_numberTouching 1 = .ok (.istore 5, 2) := by decide +kernel
theorem dX2_numberTouching_3 : decode cX2_numberTouching 3 = .ok (.iconst 0, 1) := by decide +kernel
theorem dX2_numberTouching_4 : decode cX2_numberTouching 4 = .ok (.istore 6, 2) := by decide +kernel
theorem dX2_numberTouching_6 : decode cX2_numberTouching 6 = .ok (.iload 6, 2) := by decide +kernel
theorem dX2_numberTouching_8 : decode cX2_numberTouching 8 = .ok (.bipush 40, 2) := by decide +kernel
theorem dX2_numberTouching_10 : decode cX2_numberTouching 10 = .ok (.if_icmp .ge 26, 3) := by decide +kernel
theorem dX2_numberTouching_13 : decode cX2_numberTouching 13 = .ok (.aload_n 0, 1) := by decide +kernel
theorem dX2_numberTouching_14 : decode cX2_numberTouching 14 = .ok (.iload 6, 2) := by decide +kernel
theorem dX2_numberTouching_16 : decode cX2_numberTouching 16 = .ok (.iload_n 1, 1) := by decide +kernel
theorem dX2_numberTouching_17 : decode cX2_numberTouching 17 = .ok (.iload_n 2, 1) := by decide +kernel
theorem dX2_numberTouching_18 : decode cX2_numberTouching 18 = .ok (.iload_n 3, 1) := by decide +kernel
theorem dX2_numberTouching_19 : decode cX2_numberTouching 19 = .ok (.iload 4, 2) := by decide +kernel
theorem dX2_numberTouching_21 : decode cX2_numberTouching 21 = .ok (.invokevirtual 64, 3) := by decide +kernel
theorem dX2_numberTouching_24 : decode cX2_numberTouching 24 = .ok (.ifCond .eq 6, 3) := by decide +kernel
theorem dX2_numberTouching_27 : decode cX2_numberTouching 27 = .ok (.iinc 5 1, 3) := by decide +kernel
theorem dX2_numberTouching_30 : decode cX2_numberTouching 30 = .ok (.iinc 6 1, 3) := by decide +kernel
theorem dX2_numberTouching_33 : decode cX2_numberTouching 33 = .ok (.goto (-27), 3) := by decide +kernel
theorem dX2_numberTouching_36 : decode cX2_numberTouching 36 = .ok (.iload 5, 2) := by decide +kernel
theorem dX2_numberTouching_38 : decode cX2_numberTouching 38 = .ok (.ireturn, 1) := by decide +kernel
theorem dX2_greatestScale_0 : decode cX2_greatestScale 0 = .ok (.iconst 0, 1) := by decide +kernel
theorem dX2_greatestScale_1 : decode cX2_greatestScale 1 = .ok (.istore_n 1, 1) := by decide +kernel
theorem dX2_greatestScale_2 : decode cX2_greatestScale 2 = .ok (.iconst 0, 1) := by decide +kernel
theorem dX2_greatestScale_3 : decode cX2_greatestScale 3 = .ok (.istore_n 2, 1) := by decide +kernel
theorem dX2_greatestScale_4 : decode cX2_greatestScale 4 = .ok (.iload_n 2, 1) := by decide +kernel
theorem dX2_greatestScale_5 : decode cX2_greatestScale 5 = .ok (.bipush 40, 2) := by decide +kernel
theorem dX2_greatestScale_7 : decode cX2_greatestScale 7 = .ok (.if_icmp .ge 19, 3) := by decide +kernel
theorem dX2_greatestScale_10 : decode cX2_greatestScale 10 = .ok (.iload_n 1, 1) := by decide +kernel
theorem dX2_greatestScale_11 : decode cX2_greatestScale 11 = .ok (.aload_n 0, 1) := by decide +kernel
theorem dX2_greatestScale_12 : decode cX2_greatestScale 12 = .ok (.iload_n 2, 1) := by decide +kernel
theorem dX2_greatestScale_13 : decode cX2_greatestScale 13 = .ok (.invokevirtual 47, 3) := by decide +kernel
theorem dX2_greatestScale_16 : decode cX2_greatestScale 16 = .ok (.invokestatic 68, 3) := by decide +kernel
theorem dX2_greatestScale_19 : decode cX2_greatestScale 19 = .ok (.istore_n 1, 1) := by decide +kernel
theorem dX2_greatestScale_20 : decode cX2_greatestScale 20 = .ok (.iinc 2 1, 3) := by decide +kernel
theorem dX2_greatestScale_23 : decode cX2_greatestScale 23 = .ok (.goto (-19), 3) := by decide +kernel
theorem dX2_greatestScale_26 : decode cX2_greatestScale 26 = .ok (.iload_n 1, 1) := by decide +kernel
theorem dX2_greatestScale_27 : decode cX2_greatestScale 27 = .ok (.ireturn, 1) := by decide +kernel
theorem dX2_withNumberBefore_0 : decode cX2_withNumberBefore 0 = .ok (.iconst 0, 1) := by decide +kernel
theorem dX2_withNumberBefore_1 : decode cX2_withNumberBefore 1 = .ok (.istore_n 2, 1) := by decide +kernel
theorem dX2_withNumberBefore_2 : decode cX2_withNumberBefore 2 = .ok (.iconst 0, 1) := by decide +kernel
theorem dX2_withNumberBefore_3 : decode cX2_withNumberBefore 3 = .ok (.istore_n 3, 1) := by decide +kernel
theorem dX2_withNumberBefore_4 : decode cX2_withNumberBefore 4 = .ok (.iload_n 3, 1) := by decide +kernel
theorem dX2_withNumberBefore_5 : decode cX2_withNumberBefore 5 = .ok (.bipush 40, 2) := by decide +kernel
theorem dX2_withNumberBefore_7 : decode cX2_withNumberBefore 7 = .ok (.if_icmp .ge 59, 3) := by decide +kernel
theorem dX2_withNumberBefore_10 : decode cX2_withNumberBefore 10 = .ok (.iload_n 2, 1) := by decide +kernel
theorem dX2_withNumberBefore_11 : decode cX2_withNumberBefore 11 = .ok (.sipush 4096, 3) := by decide +kernel
theorem dX2_withNumberBefore_14 : decode cX2_withNumberBefore 14 = .ok (.if_icmp .ge 52, 3) := by decide +kernel
theorem dX2_withNumberBefore_17 : decode cX2_withNumberBefore 17 = .ok (.aload_n 0, 1) := by decide +kernel
theorem dX2_withNumberBefore_18 : decode cX2_withNumberBefore 18 = .ok (.iload_n 2, 1) := by decide +kernel
theorem dX2_withNumberBefore_19 : decode cX2_withNumberBefore 19 = .ok (.invokestatic 74, 3) := by decide +kernel
theorem dX2_withNumberBefore_22 : decode cX2_withNumberBefore 22 = .ok (.iload_n 2, 1) := by decide +kernel
theorem dX2_withNumberBefore_23 : decode cX2_withNumberBefore 23 = .ok (.iconst 1, 1) := by decide +kernel
theorem dX2_withNumberBefore_24 : decode cX2_withNumberBefore 24 = .ok (.ishr, 1) := by decide +kernel
theorem dX2_withNumberBefore_25 : decode cX2_withNumberBefore 25 = .ok (.invokestatic 74, 3) := by decide +kernel
theorem dX2_withNumberBefore_28 : decode cX2_withNumberBefore 28 = .ok (.invokevirtual 77, 3) := by decide +kernel
theorem dX2_withNumberBefore_31 : decode cX2_withNumberBefore 31 = .ok (.istore 4, 2) := by decide +kernel
theorem dX2_withNumberBefore_33 : decode cX2_withNumberBefore 33 = .ok (.iload_n 3, 1) := by decide +kernel
theorem dX2_withNumberBefore_34 : decode cX2_withNumberBefore 34 = .ok (.iload_n 1, 1) := by decide +kernel
theorem dX2_withNumberBefore_35 : decode cX2_withNumberBefore 35 = .ok (.if_icmp .ne 6, 3) := by decide +kernel
theorem dX2_withNumberBefore_38 : decode cX2_withNumberBefore 38 = .ok (.iload 4, 2) := by decide +kernel
theorem dX2_withNumberBefore_40 : decode cX2_withNumberBefore 40 = .ok (.ireturn, 1) := by decide +kernel
theorem dX2_withNumberBefore_41 : decode cX2_withNumberBefore 41 = .ok (.aload_n 0, 1) := by decide +kernel
theorem dX2_withNumberBefore_42 : decode cX2_withNumberBefore 42 = .ok (.iload 4, 2) := by decide +kernel
theorem dX2_withNumberBefore_44 : decode cX2_withNumberBefore 44 = .ok (.invokevirtual 47, 3) := by decide +kernel
theorem dX2_withNumberBefore_47 : decode cX2_withNumberBefore 47 = .ok (.invokestatic 50, 3) := by decide +kernel
theorem dX2_withNumberBefore_50 : decode cX2_withNumberBefore 50 = .ok (.istore 5, 2) := by decide +kernel
theorem dX2_withNumberBefore_52 : decode cX2_withNumberBefore 52 = .ok (.iload_n 2, 1) := by decide +kernel
theorem dX2_withNumberBefore_53 : decode cX2_withNumberBefore 53 = .ok (.iload 5, 2) := by decide +kernel
theorem dX2_withNumberBefore_55 : decode cX2_withNumberBefore 55 = .ok (.iload 5, 2) := by decide +kernel
theorem dX2_withNumberBefore_57 : decode cX2_withNumberBefore 57 = .ok (.imul, 1) := by decide +kernel
theorem dX2_withNumberBefore_58 : decode cX2_withNumberBefore 58 = .ok (.iadd, 1) := by decide +kernel
theorem dX2_withNumberBefore_59 : decode cX2_withNumberBefore 59 = .ok (.istore_n 2, 1) := by decide +kernel
theorem dX2_withNumberBefore_60 : decode cX2_withNumberBefore 60 = .ok (.iinc 3 1, 3) := by decide +kernel
theorem dX2_withNumberBefore_63 : decode cX2_withNumberBefore 63 = .ok (.goto (-59), 3) := by decide +kernel
theorem dX2_withNumberBefore_66 : decode cX2_withNumberBefore 66 = .ok (.bipush (-9), 2) := by decide +kernel
theorem dX2_withNumberBefore_68 : decode cX2_withNumberBefore 68 = .ok (.ireturn, 1) := by decide +kernel
theorem dX2_everySecondBit_0 : decode cX2_everySecondBit 0 = .ok (.iconst 0, 1) := by decide +kernel
theorem dX2_everySecondBit_1 : decode cX2_everySecondBit 1 = .ok (.istore_n 1, 1) := by decide +kernel
theorem dX2_everySecondBit_2 : decode cX2_everySecondBit 2 = .ok (.iconst 0, 1) := by decide +kernel
theorem dX2_everySecondBit_3 : decode cX2_everySecondBit 3 = .ok (.istore_n 2, 1) := by decide +kernel
theorem dX2_everySecondBit_4 : decode cX2_everySecondBit 4 = .ok (.iload_n 2, 1) := by decide +kernel
theorem dX2_everySecondBit_5 : decode cX2_everySecondBit 5 = .ok (.bipush 6, 2) := by decide +kernel
theorem dX2_everySecondBit_7 : decode cX2_everySecondBit 7 = .ok (.if_icmp .ge 21, 3) := by decide +kernel
theorem dX2_everySecondBit_10 : decode cX2_everySecondBit 10 = .ok (.iload_n 1, 1) := by decide +kernel
theorem dX2_everySecondBit_11 : decode cX2_everySecondBit 11 = .ok (.iload_n 0, 1) := by decide +kernel
theorem dX2_everySecondBit_12 : decode cX2_everySecondBit 12 = .ok (.iconst 2, 1) := by decide +kernel
theorem dX2_everySecondBit_13 : decode cX2_everySecondBit 13 = .ok (.iload_n 2, 1) := by decide +kernel
theorem dX2_everySecondBit_14 : decode cX2_everySecondBit 14 = .ok (.imul, 1) := by decide +kernel
theorem dX2_everySecondBit_15 : decode cX2_everySecondBit 15 = .ok (.ishr, 1) := by decide +kernel
theorem dX2_everySecondBit_16 : decode cX2_everySecondBit 16 = .ok (.iconst 1, 1) := by decide +kernel
theorem dX2_everySecondBit_17 : decode cX2_everySecondBit 17 = .ok (.iand, 1) := by decide +kernel
theorem dX2_everySecondBit_18 : decode cX2_everySecondBit 18 = .ok (.iload_n 2, 1) := by decide +kernel
theorem dX2_everySecondBit_19 : decode cX2_everySecondBit 19 = .ok (.ishl, 1) := by decide +kernel
theorem dX2_everySecondBit_20 : decode cX2_everySecondBit 20 = .ok (.ior, 1) := by decide +kernel
theorem dX2_everySecondBit_21 : decode cX2_everySecondBit 21 = .ok (.istore_n 1, 1) := by decide +kernel
theorem dX2_everySecondBit_22 : decode cX2_everySecondBit 22 = .ok (.iinc 2 1, 3) := by decide +kernel
theorem dX2_everySecondBit_25 : decode cX2_everySecondBit 25 = .ok (.goto (-21), 3) := by decide +kernel
theorem dX2_everySecondBit_28 : decode cX2_everySecondBit 28 = .ok (.iload_n 1, 1) := by decide +kernel
theorem dX2_everySecondBit_29 : decode cX2_everySecondBit 29 = .ok (.ireturn, 1) := by decide +kernel
theorem dX3_init_0 : decode cX3_init 0 = .ok (.aload_n 0, 1) := by decide +kernel
theorem dX3_init_1 : decode cX3_init 1 = .ok (.invokespecial 3, 3) := by decide +kernel
theorem dX3_init_4 : decode cX3_init 4 = .ok (.aload_n 0, 1) := by decide +kernel
theorem dX3_init_5 : decode cX3_init 5 = .ok (.bipush 40, 2) := by decide +kernel
theorem dX3_init_7 : decode cX3_init 7 = .ok (.newarray .int, 2) := by decide +kernel
theorem dX3_init_9 : decode cX3_init 9 = .ok (.putfield 9, 3) := by decide +kernel
theorem dX3_init_12 : decode cX3_init 12 = .ok (.aload_n 0, 1) := by decide +kernel
theorem dX3_init_13 : decode cX3_init 13 = .ok (.bipush 40, 2) := by decide +kernel
theorem dX3_init_15 : decode cX3_init 15 = .ok (.newarray .int, 2) := by decide +kernel
theorem dX3_init_17 : decode cX3_init 17 = .ok (.putfield 15, 3) := by decide +kernel
theorem dX3_init_20 : decode cX3_init 20 = .ok (.aload_n 0, 1) := by decide +kernel
theorem dX3_init_21 : decode cX3_init 21 = .ok (.bipush 40, 2) := by decide +kernel
theorem dX3_init_23 : decode cX3_init 23 = .ok (.newarray .int, 2) := by decide +kernel
theorem dX3_init_25 : decode cX3_init 25 = .ok (.putfield 18, 3) := by decide +kernel
theorem dX3_init_28 : decode cX3_init 28 = .ok (.aload_n 0, 1) := by decide +kernel
theorem dX3_init_29 : decode cX3_init 29 = .ok (.bipush 40, 2) := by decide +kernel
theorem dX3_init_31 : decode cX3_init 31 = .ok (.newarray .int, 2) := by decide +kernel
theorem dX3_init_33 : decode cX3_init 33 = .ok (.putfield 21, 3) := by decide +kernel
theorem dX3_init_36 : decode cX3_init 36 = .ok (.return_, 1) := by decide +kernel
theorem dX3_copyFrom_0 : decode cX3_copyFrom 0 = .ok (.aload_n 0, 1) := by decide +kernel
theorem dX3_copyFrom_1 : decode cX3_copyFrom 1 = .ok (.aload_n 1, 1) := by decide +kernel
theorem dX3_copyFrom_2 : decode cX3_copyFrom 2 = .ok (.getfield 24, 3) := by decide +kernel
theorem dX3_copyFrom_5 : decode cX3_copyFrom 5 = .ok (.putfield 24, 3) := by decide +kernel
theorem dX3_copyFrom_8 : decode cX3_copyFrom 8 = .ok (.aload_n 1, 1) := by decide +kernel
theorem dX3_copyFrom_9 : decode cX3_copyFrom 9 = .ok (.getfield 9, 3) := by decide +kernel
theorem dX3_copyFrom_12 : decode cX3_copyFrom 12 = .ok (.iconst 0, 1) := by decide +kernel
theorem dX3_copyFrom_13 : decode cX3_copyFrom 13 = .ok (.aload_n 0, 1) := by decide +kernel
theorem dX3_copyFrom_14 : decode cX3_copyFrom 14 = .ok (.getfield 9, 3) := by decide +kernel
theorem dX3_copyFrom_17 : decode cX3_copyFrom 17 = .ok (.iconst 0, 1) := by decide +kernel
theorem dX3_copyFrom_18 : decode cX3_copyFrom 18 = .ok (.bipush 40, 2) := by decide +kernel
theorem dX3_copyFrom_20 : decode cX3_copyFrom 20 = .ok (.invokestatic 28, 3) := by decide +kernel
theorem dX3_copyFrom_23 : decode cX3_copyFrom 23 = .ok (.aload_n 1, 1) := by decide +kernel
theorem dX3_copyFrom_24 : decode cX3_copyFrom 24 = .ok (.getfield 15, 3) := by decide +kernel
theorem dX3_copyFrom_27 : decode cX3_copyFrom 27 = .ok (.iconst 0, 1) := by decide +kernel
theorem dX3_copyFrom_28 : decode cX3_copyFrom 28 = .ok (.aload_n 0, 1) := by decide +kernel
theorem dX3_copyFrom_29 : decode cX3_copyFrom 29 = .ok (.getfield 15, 3) := by decide +kernel
theorem dX3_copyFrom_32 : decode cX3_copyFrom 32 = .ok (.iconst 0, 1) := by decide +kernel
theorem dX3_copyFrom_33 : decode cX3_copyFrom 33 = .ok (.bipush 40, 2) := by decide +kernel
theorem dX3_copyFrom_35 : decode cX3_copyFrom 35 = .ok (.invokestatic 28, 3) := by decide +kernel
theorem dX3_copyFrom_38 : decode cX3_copyFrom 38 = .ok (.aload_n 1, 1) := by decide +kernel
theorem dX3_copyFrom_39 : decode cX3_copyFrom 39 = .ok (.getfield 18, 3) := by decide +kernel
theorem dX3_copyFrom_42 : decode cX3_copyFrom 42 = .ok (.iconst 0, 1) := by decide +kernel
theorem dX3_copyFrom_43 : decode cX3_copyFrom 43 = .ok (.aload_n 0, 1) := by decide +kernel
theorem dX3_copyFrom_44 : decode cX3_copyFrom 44 = .ok (.getfield 18, 3) := by decide +kernel
theorem dX3_copyFrom_47 : decode cX3_copyFrom 47 = .ok (.iconst 0, 1) := by decide +kernel
theorem dX3_copyFrom_48 : decode cX3_copyFrom 48 = .ok (.bipush 40, 2) := by decide +kernel
theorem dX3_copyFrom_50 : decode cX3_copyFrom 50 = .ok (.invokestatic 28, 3) := by decide +kernel
theorem dX3_copyFrom_53 : decode cX3_copyFrom 53 = .ok (.aload_n 1, 1) := by decide +kernel
theorem dX3_copyFrom_54 : decode cX3_copyFrom 54 = .ok (.getfield 21, 3) := by decide +kernel
theorem dX3_copyFrom_57 : decode cX3_copyFrom 57 = .ok (.iconst 0, 1) := by decide +kernel
theorem dX3_copyFrom_58 : decode cX3_copyFrom 58 = .ok (.aload_n 0, 1) := by decide +kernel
theorem dX3_copyFrom_59 : decode cX3_copyFrom 59 = .ok (.getfield 21, 3) := by decide +kernel
theorem dX3_copyFrom_62 : decode cX3_copyFrom 62 = .ok (.iconst 0, 1) := by decide +kernel
theorem dX3_copyFrom_63 : decode cX3_copyFrom 63 = .ok (.bipush 40, 2) := by decide +kernel
theorem dX3_copyFrom_65 : decode cX3_copyFrom 65 = .ok (.invokestatic 28, 3) := by decide +kernel
theorem dX3_copyFrom_68 : decode cX3_copyFrom 68 = .ok (.return_, 1) := by decide +kernel
theorem dX3_exists_0 : decode cX3_exists 0 = .ok (.iload_n 1, 1) := by decide +kernel
theorem dX3_exists_1 : decode cX3_exists 1 = .ok (.ifCond .lt 22, 3) := by decide +kernel
theorem dX3_exists_4 : decode cX3_exists 4 = .ok (.iload_n 1, 1) := by decide +kernel
theorem dX3_exists_5 : decode cX3_exists 5 = .ok (.bipush 40, 2) := by decide +kernel
theorem dX3_exists_7 : decode cX3_exists 7 = .ok (.if_icmp .ge 16, 3) := by decide +kernel
theorem dX3_exists_10 : decode cX3_exists 10 = .ok (.aload_n 0, 1) := by decide +kernel
theorem dX3_exists_11 : decode cX3_exists 11 = .ok (.getfield 18, 3) := by decide +kernel
theorem dX3_exists_14 : decode cX3_exists 14 = .ok (.iload_n 1, 1) := by decide +kernel
theorem dX3_exists_15 : decode cX3_exists 15 = .ok (.iaload, 1) := by decide +kernel
theorem dX3_exists_16 : decode cX3_exists 16 = .ok (.ifCond .le 7, 3) := by decide +kernel
theorem dX3_exists_19 : decode cX3_exists 19 = .ok (.iconst 1, 1) := by decide +kernel
theorem dX3_exists_20 : decode cX3_exists 20 = .ok (.goto 4, 3) := by decide +kernel
theorem dX3_exists_23 : decode cX3_exists 23 = .ok (.iconst 0, 1) := by decide +kernel
theorem dX3_exists_24 : decode cX3_exists 24 = .ok (.ireturn, 1) := by decide +kernel
theorem dX3_areFull_0 : decode cX3_areFull 0 = .ok (.aload_n 0, 1) := by decide +kernel
theorem dX3_areFull_1 : decode cX3_areFull 1 = .ok (.getfield 24, 3) := by decide +kernel
theorem dX3_areFull_4 : decode cX3_areFull 4 = .ok (.bipush 40, 2) := by decide +kernel
theorem dX3_areFull_6 : decode cX3_areFull 6 = .ok (.if_icmp .lt 7, 3) := by decide +kernel
theorem dX3_areFull_9 : decode cX3_areFull 9 = .ok (.iconst 1, 1) := by decide +kernel
theorem dX3_areFull_10 : decode cX3_areFull 10 = .ok (.goto 4, 3) := by decide +kernel
theorem dX3_areFull_13 : decode cX3_areFull 13 = .ok (.iconst 0, 1) := by decide +kernel
theorem dX3_areFull_14 : decode cX3_areFull 14 = .ok (.ireturn, 1) := by decide +kernel
theorem dX3_numberAdded_0 : decode cX3_numberAdded 0 = .ok (.aload_n 0, 1) := by decide +kernel
theorem dX3_numberAdded_1 : decode cX3_numberAdded 1 = .ok (.getfield 24, 3) := by decide +kernel
theorem dX3_numberAdded_4 : decode cX3_numberAdded 4 = .ok (.ireturn, 1) := by decide +kernel
theorem dX3_xOf_0 : decode cX3_xOf 0 = .ok (.aload_n 0, 1) := by decide +kernel
theorem dX3_xOf_1 : decode cX3_xOf 1 = .ok (.iload_n 1, 1) := by decide +kernel
theorem dX3_xOf_2 : decode cX3_xOf 2 = .ok (.invokevirtual 34, 3) := by decide +kernel
theorem dX3_xOf_5 : decode cX3_xOf 5 = .ok (.ifCond .eq 12, 3) := by decide +kernel
theorem dX3_xOf_8 : decode cX3_xOf 8 = .ok (.aload_n 0, 1) := by decide +kernel
theorem dX3_xOf_9 : decode cX3_xOf 9 = .ok (.getfield 9, 3) := by decide +kernel
theorem dX3_xOf_12 : decode cX3_xOf 12 = .ok (.iload_n 1, 1) := by decide +kernel
theorem dX3_xOf_13 : decode cX3_xOf 13 = .ok (.iaload, 1) := by decide +kernel
theorem dX3_xOf_14 : decode cX3_xOf 14 = .ok (.goto 5, 3) := by decide +kernel
theorem dX3_xOf_17 : decode cX3_xOf 17 = .ok (.bipush (-9), 2) := by decide +kernel
theorem dX3_xOf_19 : decode cX3_xOf 19 = .ok (.ireturn, 1) := by decide +kernel
theorem dX3_yOf_0 : decode cX3_yOf 0 = .ok (.aload_n 0, 1) := by decide +kernel
theorem dX3_yOf_1 : decode cX3_yOf 1 = .ok (.iload_n 1, 1) := by decide +kernel
theorem dX3_yOf_2 : decode cX3_yOf 2 = .ok (.invokevirtual 34, 3) := by decide +kernel
theorem dX3_yOf_5 : decode cX3_yOf 5 = .ok (.ifCond .eq 12, 3) := by decide +kernel
theorem dX3_yOf_8 : decode cX3_yOf 8 = .ok (.aload_n 0, 1) := by decide +kernel
theorem dX3_yOf_9 : decode cX3_yOf 9 = .ok (.getfield 15, 3) := by decide +kernel
theorem dX3_yOf_12 : decode cX3_yOf 12 = .ok (.iload_n 1, 1) := by decide +kernel
theorem dX3_yOf_13 : decode cX3_yOf 13 = .ok (.iaload, 1) := by decide +kernel
theorem dX3_yOf_14 : decode cX3_yOf 14 = .ok (.goto 5, 3) := by decide +kernel
theorem dX3_yOf_17 : decode cX3_yOf 17 = .ok (.bipush (-9), 2) := by decide +kernel
theorem dX3_yOf_19 : decode cX3_yOf 19 = .ok (.ireturn, 1) := by decide +kernel
theorem dX3_wealthOf_0 : decode cX3_wealthOf 0 = .ok (.aload_n 0, 1) := by decide +kernel
theorem dX3_wealthOf_1 : decode cX3_wealthOf 1 = .ok (.iload_n 1, 1) := by decide +kernel
theorem dX3_wealthOf_2 : decode cX3_wealthOf 2 = .ok (.invokevirtual 34, 3) := by decide +kernel
theorem dX3_wealthOf_5 : decode cX3_wealthOf 5 = .ok (.ifCond .eq 12, 3) := by decide +kernel
theorem dX3_wealthOf_8 : decode cX3_wealthOf 8 = .ok (.aload_n 0, 1) := by decide +kernel
theorem dX3_wealthOf_9 : decode cX3_wealthOf 9 = .ok (.getfield 18, 3) := by decide +kernel
theorem dX3_wealthOf_12 : decode cX3_wealthOf 12 = .ok (.iload_n 1, 1) := by decide +kernel
theorem dX3_wealthOf_13 : decode cX3_wealthOf 13 = .ok (.iaload, 1) := by decide +kernel
theorem dX3_wealthOf_14 : decode cX3_wealthOf 14 = .ok (.goto 4, 3) := by decide +kernel
theorem dX3_wealthOf_17 : decode cX3_wealthOf 17 = .ok (.iconst 0, 1) := by decide +kernel
theorem dX3_wealthOf_18 : decode cX3_wealthOf 18 = .ok (.ireturn, 1) := by decide +kernel
theorem dX3_lordOf_0 : decode cX3_lordOf 0 = .ok (.aload_n 0, 1) := by decide +kernel
theorem dX3_lordOf_1 : decode cX3_lordOf 1 = .ok (.iload_n 1, 1) := by decide +kernel
theorem dX3_lordOf_2 : decode cX3_lordOf 2 = .ok (.invokevirtual 34, 3) := by decide +kernel
theorem dX3_lordOf_5 : decode cX3_lordOf 5 = .ok (.ifCond .eq 12, 3) := by decide +kernel
theorem dX3_lordOf_8 : decode cX3_lordOf 8 = .ok (.aload_n 0, 1) := by decide +kernel
theorem dX3_lordOf_9 : decode cX3_lordOf 9 = .ok (.getfield 21, 3) := by decide +kernel
theorem dX3_lordOf_12 : decode cX3_lordOf 12 = .ok (.iload_n 1, 1) := by decide +kernel
theorem dX3_lordOf_13 : decode cX3_lordOf 13 = .ok (.iaload, 1) := by decide +kernel
theorem dX3_lordOf_14 : decode cX3_lordOf 14 = .ok (.goto 5, 3) := by decide +kernel
theorem dX3_lordOf_17 : decode cX3_lordOf 17 = .ok (.bipush (-9), 2) := by decide +kernel
theorem dX3_lordOf_19 : decode cX3_lordOf 19 = .ok (.ireturn, 1) := by decide +kernel
theorem dX3_place_0 : decode cX3_place 0 = .ok (.aload_n 0, 1) := by decide +kernel
theorem dX3_place_1 : decode cX3_place 1 = .ok (.getfield 24, 3) := by decide +kernel
theorem dX3_place_4 : decode cX3_place 4 = .ok (.istore 5, 2) := by decide +kernel
theorem dX3_place_6 : decode cX3_place 6 = .ok (.iload 5, 2) := by decide +kernel
theorem dX3_place_8 : decode cX3_place 8 = .ok (.iconst 0, 1) := by decide +kernel
theorem dX3_place_9 : decode cX3_place 9 = .ok (.bipush 39, 2) := by decide +kernel
theorem dX3_place_11 : decode cX3_place 11 = .ok (.invokestatic 38, 3) := by decide +kernel
theorem dX3_place_14 : decode cX3_place 14 = .ok (.ifCond .ne 6, 3) := by decide +kernel
theorem dX3_place_17 : decode cX3_place 17 = .ok (.bipush (-3), 2) := by decide +kernel
theorem dX3_place_19 : decode cX3_place 19 = .ok (.ireturn, 1) := by decide +kernel
theorem dX3_place_20 : decode cX3_place 20 = .ok (.aload_n 0, 1) := by decide +kernel
theorem dX3_place_21 : decode cX3_place 21 = .ok (.dup, 1) := by decide +kernel
theorem dX3_place_22 : decode cX3_place 22 = .ok (.getfield 24, 3) := by decide +kernel
theorem dX3_place_25 : decode cX3_place 25 = .ok (.iconst 1, 1) := by decide +kernel
theorem dX3_place_26 : decode cX3_place 26 = .ok (.iadd, 1) := by decide +kernel
theorem dX3_place_27 : decode cX3_place 27 = .ok (.putfield 24, 3) := by decide +kernel
theorem dX3_place_30 : decode cX3_place 30 = .ok (.aload_n 0, 1) := by decide +kernel
theorem dX3_place_31 : decode cX3_place 31 = .ok (.getfield 9, 3) := by decide +kernel
theorem dX3_place_34 : decode cX3_place 34 = .ok (.iload 5, 2) := by decide +kernel
theorem dX3_place_36 : decode cX3_place 36 = .ok (.iload_n 1, 1) := by decide +kernel
theorem dX3_place_37 : decode cX3_place 37 = .ok (.iastore, 1) := by decide +kernel
theorem dX3_place_38 : decode cX3_place 38 = .ok (.aload_n 0, 1) := by decide +kernel
theorem dX3_place_39 : decode cX3_place 39 = .ok (.getfield 15, 3) := by decide +kernel
theorem dX3_place_42 : decode cX3_place 42 = .ok (.iload 5, 2) := by decide +kernel
theorem dX3_place_44 : decode cX3_place 44 = .ok (.iload_n 2, 1) := by decide +kernel
theorem dX3_place_45 : decode cX3_place 45 = .ok (.iastore, 1) := by decide +kernel
theorem dX3_place_46 : decode cX3_place 46 = .ok (.aload_n 0, 1) := by decide +kernel
theorem dX3_place_47 : decode cX3_place 47 = .ok (.getfield 18, 3) := by decide +kernel
theorem dX3_place_50 : decode cX3_place 50 = .ok (.iload 5, 2) := by decide +kernel
theorem dX3_place_52 : decode cX3_place 52 = .ok (.iload_n 3, 1) := by decide +kernel
theorem dX3_place_53 : decode cX3_place 53 = .ok (.iastore, 1) := by decide +kernel
theorem dX3_place_54 : decode cX3_place 54 = .ok (.aload_n 0, 1) := by decide +kernel
theorem dX3_place_55 : decode cX3_place 55 = .ok (.getfield 21, 3) := by decide +kernel
theorem dX3_place_58 : decode cX3_place 58 = .ok (.iload 5, 2) := by decide +kernel
theorem dX3_place_60 : decode cX3_place 60 = .ok (.iload 4, 2) := by decide +kernel
theorem dX3_place_62 : decode cX3_place 62 = .ok (.iastore, 1) := by decide +kernel
theorem dX3_place_63 : decode cX3_place 63 = .ok (.iload 5, 2) := by decide +kernel
theorem dX3_place_65 : decode cX3_place 65 = .ok (.ireturn, 1) := by decide +kernel
theorem dX3_takeAway_0 : decode cX3_takeAway 0 = .ok (.aload_n 0, 1) := by decide +kernel
theorem dX3_takeAway_1 : decode cX3_takeAway 1 = .ok (.iload_n 1, 1) := by decide +kernel
theorem dX3_takeAway_2 : decode cX3_takeAway 2 = .ok (.invokevirtual 34, 3) := by decide +kernel
theorem dX3_takeAway_5 : decode cX3_takeAway 5 = .ok (.ifCond .eq 10, 3) := by decide +kernel
theorem dX3_takeAway_8 : decode cX3_takeAway 8 = .ok (.aload_n 0, 1) := by decide +kernel
theorem dX3_takeAway_9 : decode cX3_takeAway 9 = .ok (.getfield 18, 3) := by decide +kernel
theorem dX3_takeAway_12 : decode cX3_takeAway 12 = .ok (.iload_n 1, 1) := by decide +kernel
theorem dX3_takeAway_13 : decode cX3_takeAway 13 = .ok (.iconst 0, 1) := by decide +kernel
theorem dX3_takeAway_14 : decode cX3_takeAway 14 = .ok (.iastore, 1) := by decide +kernel
theorem dX3_takeAway_15 : decode cX3_takeAway 15 = .ok (.return_, 1) := by decide +kernel
theorem dX3_shift_0 : decode cX3_shift 0 = .ok (.aload_n 0, 1) := by decide +kernel
theorem dX3_shift_1 : decode cX3_shift 1 = .ok (.iload_n 1, 1) := by decide +kernel
theorem dX3_shift_2 : decode cX3_shift 2 = .ok (.invokevirtual 34, 3) := by decide +kernel
theorem dX3_shift_5 : decode cX3_shift 5 = .ok (.ifCond .eq 17, 3) := by decide +kernel
theorem dX3_shift_8 : decode cX3_shift 8 = .ok (.aload_n 0, 1) := by decide +kernel
theorem dX3_shift_9 : decode cX3_shift 9 = .ok (.getfield 9, 3) := by decide +kernel
theorem dX3_shift_12 : decode cX3_shift 12 = .ok (.iload_n 1, 1) := by decide +kernel
theorem dX3_shift_13 : decode cX3_shift 13 = .ok (.iload_n 2, 1) := by decide +kernel
theorem dX3_shift_14 : decode cX3_shift 14 = .ok (.iastore, 1) := by decide +kernel
theorem dX3_shift_15 : decode cX3_shift 15 = .ok (.aload_n 0, 1) := by decide +kernel
theorem dX3_shift_16 : decode cX3_shift 16 = .ok (.getfield 15, 3) := by decide +kernel
theorem dX3_shift_19 : decode cX3_shift 19 = .ok (.iload_n 1, 1) := by decide +kernel
theorem dX3_shift_20 : decode cX3_shift 20 = .ok (.iload_n 3, 1) := by decide +kernel
theorem dX3_shift_21 : decode cX3_shift 21 = .ok (.iastore, 1) := by decide +kernel
theorem dX3_shift_22 : decode cX3_shift 22 = .ok (.return_, 1) := by decide +kernel
theorem dX3_setLord_0 : decode cX3_setLord 0 = .ok (.aload_n 0, 1) := by decide +kernel
theorem dX3_setLord_1 : decode cX3_setLord 1 = .ok (.iload_n 1, 1) := by decide +kernel
theorem dX3_setLord_2 : decode cX3_setLord 2 = .ok (.invokevirtual 34, 3) := by decide +kernel
theorem dX3_setLord_5 : decode cX3_setLord 5 = .ok (.ifCond .eq 10, 3) := by decide +kernel
theorem dX3_setLord_8 : decode cX3_setLord 8 = .ok (.aload_n 0, 1) := by decide +kernel
theorem dX3_setLord_9 : decode cX3_setLord 9 = .ok (.getfield 21, 3) := by decide +kernel
theorem dX3_setLord_12 : decode cX3_setLord 12 = .ok (.iload_n 1, 1) := by decide +kernel
theorem dX3_setLord_13 : decode cX3_setLord 13 = .ok (.iload_n 2, 1) := by decide +kernel
theorem dX3_setLord_14 : decode cX3_setLord 14 = .ok (.iastore, 1) := by decide +kernel
theorem dX3_setLord_15 : decode cX3_setLord 15 = .ok (.return_, 1) := by decide +kernel
theorem dX3_liesIn_0 : decode cX3_liesIn 0 = .ok (.aload_n 0, 1) := by decide +kernel
theorem dX3_liesIn_1 : decode cX3_liesIn 1 = .ok (.iload_n 1, 1) := by decide +kernel
theorem dX3_liesIn_2 : decode cX3_liesIn 2 = .ok (.invokevirtual 34, 3) := by decide +kernel
theorem dX3_liesIn_5 : decode cX3_liesIn 5 = .ok (.ifCond .eq 37, 3) := by decide +kernel
theorem dX3_liesIn_8 : decode cX3_liesIn 8 = .ok (.aload_n 0, 1) := by decide +kernel
theorem dX3_liesIn_9 : decode cX3_liesIn 9 = .ok (.getfield 9, 3) := by decide +kernel
theorem dX3_liesIn_12 : decode cX3_liesIn 12 = .ok (.iload_n 1, 1) := by decide +kernel
theorem dX3_liesIn_13 : decode cX3_liesIn 13 = .ok (.iaload, 1) := by decide +kernel
theorem dX3_liesIn_14 : decode cX3_liesIn 14 = .ok (.iload_n 2, 1) := by decide +kernel
theorem dX3_liesIn_15 : decode cX3_liesIn 15 = .ok (.iload 4, 2) := by decide +kernel
theorem dX3_liesIn_17 : decode cX3_liesIn 17 = .ok (.invokestatic 38, 3) := by decide +kernel
theorem dX3_liesIn_20 : decode cX3_liesIn 20 = .ok (.ifCond .eq 22, 3) := by decide +kernel
theorem dX3_liesIn_23 : decode cX3_liesIn 23 = .ok (.aload_n 0, 1) := by decide +kernel
theorem dX3_liesIn_24 : decode cX3_liesIn 24 = .ok (.getfield 15, 3) := by decide +kernel
theorem dX3_liesIn_27 : decode cX3_liesIn 27 = .ok (.iload_n 1, 1) := by decide +kernel
theorem dX3_liesIn_28 : decode cX3_liesIn 28 = .ok (.iaload, 1) := by decide +kernel
theorem dX3_liesIn_29 : decode cX3_liesIn 29 = .ok (.iload_n 3, 1) := by decide +kernel
theorem dX3_liesIn_30 : decode cX3_liesIn 30 = .ok (.iload 5, 2) := by decide +kernel
theorem dX3_liesIn_32 : decode cX3_liesIn 32 = .ok (.invokestatic 38, 3) := by decide +kernel
theorem dX3_liesIn_35 : decode cX3_liesIn 35 = .ok (.ifCond .eq 7, 3) := by decide +kernel
theorem dX3_liesIn_38 : decode cX3_liesIn 38 = .ok (.iconst 1, 1) := by decide +kernel
theorem dX3_liesIn_39 : decode cX3_liesIn 39 = .ok (.goto 4, 3) := by decide +kernel
theorem dX3_liesIn_42 : decode cX3_liesIn 42 = .ok (.iconst 0, 1) := by decide +kernel
theorem dX3_liesIn_43 : decode cX3_liesIn 43 = .ok (.ireturn, 1) := by decide +kernel
theorem dX3_number_0 : decode cX3_number 0 = .ok (.aload_n 0, 1) := by decide +kernel
theorem dX3_number_1 : decode cX3_number 1 = .ok (.iconst 0, 1) := by decide +kernel
theorem dX3_number_2 : decode cX3_number 2 = .ok (.iconst 0, 1) := by decide +kernel
theorem dX3_number_3 : decode cX3_number 3 = .ok (.bipush 63, 2) := by decide +kernel
theorem dX3_number_5 : decode cX3_number 5 = .ok (.bipush 63, 2) := by decide +kernel
theorem dX3_number_7 : decode cX3_number 7 = .ok (.invokevirtual 42, 3) := by decide +kernel
theorem dX3_number_10 : decode cX3_number 10 = .ok (.ireturn, 1) := by decide +kernel
theorem dX3_numberIn_0 : decode cX3_numberIn 0 = .ok (.iconst 0, 1) := by decide +kernel
theorem dX3_numberIn_1 : decode cX3_numberIn 1 = .ok (.istore 5, 2) := by decide +kernel
theorem dX3_numberIn_3 : decode cX3_numberIn 3 = .ok (.iconst 0, 1) := by decide +kernel
theorem dX3_numberIn_4 : decode cX3_numberIn 4 = .ok (.istore 6, 2) := by decide +kernel
theorem dX3_numberIn_6 : decode cX3_numberIn 6 = .ok (.iload 6, 2) := by decide +kernel
theorem dX3_numberIn_8 : decode cX3_numberIn 8 = .ok (.bipush 40, 2) := by decide +kernel
theorem dX3_numberIn_10 : decode cX3_numberIn 10 = .ok (.if_icmp .ge 26, 3) := by decide +kernel
theorem dX3_numberIn_13 : decode cX3_numberIn 13 = .ok (.aload_n 0, 1) := by decide +kernel
theorem dX3_numberIn_14 : decode cX3_numberIn 14 = .ok (.iload 6, 2) := by decide +kernel
theorem dX3_numberIn_16 : decode cX3_numberIn 16 = .ok (.iload_n 1, 1) := by decide +kernel
theorem dX3_numberIn_17 : decode cX3_numberIn 17 = .ok (.iload_n 2, 1) := by decide +kernel
theorem dX3_numberIn_18 : decode cX3_numberIn 18 = .ok (.iload_n 3, 1) := by decide +kernel
theorem dX3_numberIn_19 : decode cX3_numberIn 19 = .ok (.iload 4, 2) := by decide +kernel
theorem dX3_numberIn_21 : decode cX3_numberIn 21 = .ok (.invokevirtual 46, 3) := by decide +kernel
theorem dX3_numberIn_24 : decode cX3_numberIn 24 = .ok (.ifCond .eq 6, 3) := by decide +kernel
theorem dX3_numberIn_27 : decode cX3_numberIn 27 = .ok (.iinc 5 1, 3) := by decide +kernel
theorem dX3_numberIn_30 : decode cX3_numberIn 30 = .ok (.iinc 6 1, 3) := by decide +kernel
theorem dX3_numberIn_33 : decode cX3_numberIn 33 = .ok (.goto (-27), 3) := by decide +kernel
theorem dX3_numberIn_36 : decode cX3_numberIn 36 = .ok (.iload 5, 2) := by decide +kernel
theorem dX3_numberIn_38 : decode cX3_numberIn 38 = .ok (.ireturn, 1) := by decide +kernel
theorem dX3_wealthIn_0 : decode cX3_wealthIn 0 = .ok (.iconst 0, 1) := by decide +kernel
theorem dX3_wealthIn_1 : decode cX3_wealthIn 1 = .ok (.istore 5, 2) := by decide +kernel
theorem dX3_wealthIn_3 : decode cX3_wealthIn 3 = .ok (.iconst 0, 1) := by decide +kernel
theorem dX3_wealthIn_4 : decode cX3_wealthIn 4 = .ok (.istore 6, 2) := by decide +kernel
theorem dX3_wealthIn_6 : decode cX3_wealthIn 6 = .ok (.iload 6, 2) := by decide +kernel
theorem dX3_wealthIn_8 : decode cX3_wealthIn 8 = .ok (.bipush 40, 2) := by decide +kernel
theorem dX3_wealthIn_10 : decode cX3_wealthIn 10 = .ok (.if_icmp .ge 35, 3) := by decide +kernel
theorem dX3_wealthIn_13 : decode cX3_wealthIn 13 = .ok (.aload_n 0, 1) := by decide +kernel
theorem dX3_wealthIn_14 : decode cX3_wealthIn 14 = .ok (.iload 6, 2) := by decide +kernel
theorem dX3_wealthIn_16 : decode cX3_wealthIn 16 = .ok (.iload_n 1, 1) := by decide +kernel
theorem dX3_wealthIn_17 : decode cX3_wealthIn 17 = .ok (.iload_n 2, 1) := by decide +kernel
theorem dX3_wealthIn_18 : decode cX3_wealthIn 18 = .ok (.iload_n 3, 1) := by decide +kernel
theorem dX3_wealthIn_19 : decode cX3_wealthIn 19 = .ok (.iload 4, 2) := by decide +kernel
theorem dX3_wealthIn_21 : decode cX3_wealthIn 21 = .ok (.invokevirtual 46, 3) := by decide +kernel
theorem dX3_wealthIn_24 : decode cX3_wealthIn 24 = .ok (.ifCond .eq 15, 3) := by decide +kernel
theorem dX3_wealthIn_27 : decode cX3_wealthIn 27 = .ok (.iload 5, 2) := by decide +kernel
theorem dX3_wealthIn_29 : decode cX3_wealthIn 29 = .ok (.aload_n 0, 1) := by decide +kernel
theorem dX3_wealthIn_30 : decode cX3_wealthIn 30 = .ok (.getfield 18, 3) := by decide +kernel
theorem dX3_wealthIn_33 : decode cX3_wealthIn 33 = .ok (.iload 6, 2) := by decide +kernel
theorem dX3_wealthIn_35 : decode cX3_wealthIn 35 = .ok (.iaload, 1) := by decide +kernel
theorem dX3_wealthIn_36 : decode cX3_wealthIn 36 = .ok (.iadd, 1) := by decide +kernel
theorem dX3_wealthIn_37 : decode cX3_wealthIn 37 = .ok (.istore 5, 2) := by decide +kernel
theorem dX3_wealthIn_39 : decode cX3_wealthIn 39 = .ok (.iinc 6 1, 3) := by decide +kernel
theorem dX3_wealthIn_42 : decode cX3_wealthIn 42 = .ok (.goto (-36), 3) := by decide +kernel
theorem dX3_wealthIn_45 : decode cX3_wealthIn 45 = .ok (.iload 5, 2) := by decide +kernel
theorem dX3_wealthIn_47 : decode cX3_wealthIn 47 = .ok (.ireturn, 1) := by decide +kernel
theorem dX3_richestIn_0 : decode cX3_richestIn 0 = .ok (.bipush (-9), 2) := by decide +kernel
theorem dX3_richestIn_2 : decode cX3_richestIn 2 = .ok (.istore 5, 2) := by decide +kernel
theorem dX3_richestIn_4 : decode cX3_richestIn 4 = .ok (.iconst 0, 1) := by decide +kernel
theorem dX3_richestIn_5 : decode cX3_richestIn 5 = .ok (.istore 6, 2) := by decide +kernel
theorem dX3_richestIn_7 : decode cX3_richestIn 7 = .ok (.iload 6, 2) := by decide +kernel
theorem dX3_richestIn_9 : decode cX3_richestIn 9 = .ok (.bipush 40, 2) := by decide +kernel
theorem dX3_richestIn_11 : decode cX3_richestIn 11 = .ok (.if_icmp .ge 43, 3) := by decide +kernel
theorem dX3_richestIn_14 : decode cX3_richestIn 14 = .ok (.aload_n 0, 1) := by decide +kernel
theorem dX3_richestIn_15 : decode cX3_richestIn 15 = .ok (.iload 6, 2) := by decide +kernel
theorem dX3_richestIn_17 : decode cX3_richestIn 17 = .ok (.iload_n 1, 1) := by decide +kernel
theorem dX3_richestIn_18 : decode cX3_richestIn 18 = .ok (.iload_n 2, 1) := by decide +kernel
theorem dX3_richestIn_19 : decode cX3_richestIn 19 = .ok (.iload_n 3, 1) := by decide +kernel
theorem dX3_richestIn_20 : decode cX3_richestIn 20 = .ok (.iload 4, 2) := by decide +kernel
theorem dX3_richestIn_22 : decode cX3_richestIn 22 = .ok (.invokevirtual 46, 3) := by decide +kernel
theorem dX3_richestIn_25 : decode cX3_richestIn 25 = .ok (.ifCond .eq 23, 3) := by decide +kernel
theorem dX3_richestIn_28 : decode cX3_richestIn 28 = .ok (.aload_n 0, 1) := by decide +kernel
theorem dX3_richestIn_29 : decode cX3_richestIn 29 = .ok (.getfield 18, 3) := by decide +kernel
theorem dX3_richestIn_32 : decode cX3_richestIn 32 = .ok (.iload 6, 2) := by decide +kernel
theorem dX3_richestIn_34 : decode cX3_richestIn 34 = .ok (.iaload, 1) := by decide +kernel
theorem dX3_richestIn_35 : decode cX3_richestIn 35 = .ok (.aload_n 0, 1) := by decide +kernel
theorem dX3_richestIn_36 : decode cX3_richestIn 36 = .ok (.iload 5, 2) := by decide +kernel
theorem dX3_richestIn_38 : decode cX3_richestIn 38 = .ok (.invokevirtual 50, 3) := by decide +kernel
theorem dX3_richestIn_41 : decode cX3_richestIn 41 = .ok (.if_icmp .le 7, 3) := by decide +kernel
theorem dX3_richestIn_44 : decode cX3_richestIn 44 = .ok (.iload 6, 2) := by decide +kernel
theorem dX3_richestIn_46 : decode cX3_richestIn 46 = .ok (.istore 5, 2) := by decide +kernel
theorem dX3_richestIn_48 : decode cX3_richestIn 48 = .ok (.iinc 6 1, 3) := by decide +kernel
theorem dX3_richestIn_51 : decode cX3_richestIn 51 = .ok (.goto (-44), 3) := by decide +kernel
theorem dX3_richestIn_54 : decode cX3_richestIn 54 = .ok (.iload 5, 2) := by decide +kernel
theorem dX3_richestIn_56 : decode cX3_richestIn 56 = .ok (.ireturn, 1) := by decide +kernel
theorem dX3_nearestTo_0 : decode cX3_nearestTo 0 = .ok (.bipush (-9), 2) := by decide +kernel
theorem dX3_nearestTo_2 : decode cX3_nearestTo 2 = .ok (.istore_n 3, 1) := by decide +kernel
theorem dX3_nearestTo_3 : decode cX3_nearestTo 3 = .ok (.sipush 128, 3) := by decide +kernel
theorem dX3_nearestTo_6 : decode cX3_nearestTo 6 = .ok (.istore 4, 2) := by decide +kernel
theorem dX3_nearestTo_8 : decode cX3_nearestTo 8 = .ok (.iconst 0, 1) := by decide +kernel
theorem dX3_nearestTo_9 : decode cX3_nearestTo 9 = .ok (.istore 5, 2) := by decide +kernel
theorem dX3_nearestTo_11 : decode cX3_nearestTo 11 = .ok (.iload 5, 2) := by decide +kernel
theorem dX3_nearestTo_13 : decode cX3_nearestTo 13 = .ok (.bipush 40, 2) := by decide +kernel
theorem dX3_nearestTo_15 : decode cX3_nearestTo 15 = .ok (.if_icmp .ge 59, 3) := by decide +kernel
theorem dX3_nearestTo_18 : decode cX3_nearestTo 18 = .ok (.aload_n 0, 1) := by decide +kernel
theorem dX3_nearestTo_19 : decode cX3_nearestTo 19 = .ok (.getfield 9, 3) := by decide +kernel
theorem dX3_nearestTo_22 : decode cX3_nearestTo 22 = .ok (.iload 5, 2) := by decide +kernel
theorem dX3_nearestTo_24 : decode cX3_nearestTo 24 = .ok (.iaload, 1) := by decide +kernel
theorem dX3_nearestTo_25 : decode cX3_nearestTo 25 = .ok (.iload_n 1, 1) := by decide +kernel
theorem dX3_nearestTo_26 : decode cX3_nearestTo 26 = .ok (.isub, 1) := by decide +kernel
theorem dX3_nearestTo_27 : decode cX3_nearestTo 27 = .ok (.invokestatic 54, 3) := by decide +kernel
theorem dX3_nearestTo_30 : decode cX3_nearestTo 30 = .ok (.aload_n 0, 1) := by decide +kernel
theorem dX3_nearestTo_31 : decode cX3_nearestTo 31 = .ok (.getfield 15, 3) := by decide +kernel
theorem dX3_nearestTo_34 : decode cX3_nearestTo 34 = .ok (.iload 5, 2) := by decide +kernel
theorem dX3_nearestTo_36 : decode cX3_nearestTo 36 = .ok (.iaload, 1) := by decide +kernel
theorem dX3_nearestTo_37 : decode cX3_nearestTo 37 = .ok (.iload_n 2, 1) := by decide +kernel
theorem dX3_nearestTo_38 : decode cX3_nearestTo 38 = .ok (.isub, 1) := by decide +kernel
theorem dX3_nearestTo_39 : decode cX3_nearestTo 39 = .ok (.invokestatic 54, 3) := by decide +kernel
theorem dX3_nearestTo_42 : decode cX3_nearestTo 42 = .ok (.iadd, 1) := by decide +kernel
theorem dX3_nearestTo_43 : decode cX3_nearestTo 43 = .ok (.istore 6, 2) := by decide +kernel
theorem dX3_nearestTo_45 : decode cX3_nearestTo 45 = .ok (.aload_n 0, 1) := by decide +kernel
theorem dX3_nearestTo_46 : decode cX3_nearestTo 46 = .ok (.iload 5, 2) := by decide +kernel
theorem dX3_nearestTo_48 : decode cX3_nearestTo 48 = .ok (.invokevirtual 34, 3) := by decide +kernel
theorem dX3_nearestTo_51 : decode cX3_nearestTo 51 = .ok (.ifCond .eq 17, 3) := by decide +kernel
theorem dX3_nearestTo_54 : decode cX3_nearestTo 54 = .ok (.iload 6, 2) := by decide +kernel
theorem dX3_nearestTo_56 : decode cX3_nearestTo 56 = .ok (.iload 4, 2) := by decide +kernel
theorem dX3_nearestTo_58 : decode cX3_nearestTo 58 = .ok (.if_icmp .ge 10, 3) := by decide +kernel
theorem dX3_nearestTo_61 : decode cX3_nearestTo 61 = .ok (.iload 5, 2) := by decide +kernel
theorem dX3_nearestTo_63 : decode cX3_nearestTo 63 = .ok (.istore_n 3, 1) := by decide +kernel
theorem dX3_nearestTo_64 : decode cX3_nearestTo 64 = .ok (.iload 6, 2) := by decide +kernel
theorem dX3_nearestTo_66 : decode cX3_nearestTo 66 = .ok (.istore 4, 2) := by decide +kernel
theorem dX3_nearestTo_68 : decode cX3_nearestTo 68 = .ok (.iinc 5 1, 3) := by decide +kernel
theorem dX3_nearestTo_71 : decode cX3_nearestTo 71 = .ok (.goto (-60), 3) := by decide +kernel
theorem dX3_nearestTo_74 : decode cX3_nearestTo 74 = .ok (.iload_n 3, 1) := by decide +kernel
theorem dX3_nearestTo_75 : decode cX3_nearestTo 75 = .ok (.ireturn, 1) := by decide +kernel
theorem dX3_numberUnder_0 : decode cX3_numberUnder 0 = .ok (.iconst 0, 1) := by decide +kernel
theorem dX3_numberUnder_1 : decode cX3_numberUnder 1 = .ok (.istore_n 2, 1) := by decide +kernel
theorem dX3_numberUnder_2 : decode cX3_numberUnder 2 = .ok (.iconst 0, 1) := by decide +kernel
theorem dX3_numberUnder_3 : decode cX3_numberUnder 3 = .ok (.istore_n 3, 1) := by decide +kernel
theorem dX3_numberUnder_4 : decode cX3_numberUnder 4 = .ok (.iload_n 3, 1) := by decide +kernel
theorem dX3_numberUnder_5 : decode cX3_numberUnder 5 = .ok (.bipush 40, 2) := by decide +kernel
theorem dX3_numberUnder_7 : decode cX3_numberUnder 7 = .ok (.if_icmp .ge 21, 3) := by decide +kernel
theorem dX3_numberUnder_10 : decode cX3_numberUnder 10 = .ok (.aload_n 0, 1) := by decide +kernel
theorem dX3_numberUnder_11 : decode cX3_numberUnder 11 = .ok (.iload_n 3, 1) := by decide +kernel
theorem dX3_numberUnder_12 : decode cX3_numberUnder 12 = .ok (.invokevirtual 59, 3) := by decide +kernel
theorem dX3_numberUnder_15 : decode cX3_numberUnder 15 = .ok (.iload_n 1, 1) := by decide +kernel
theorem dX3_numberUnder_16 : decode cX3_numberUnder 16 = .ok (.if_icmp .ne 6, 3) := by decide +kernel
theorem dX3_numberUnder_19 : decode cX3_numberUnder 19 = .ok (.iinc 2 1, 3) := by decide +kernel
theorem dX3_numberUnder_22 : decode cX3_numberUnder 22 = .ok (.iinc 3 1, 3) := by decide +kernel
theorem dX3_numberUnder_25 : decode cX3_numberUnder 25 = .ok (.goto (-21), 3) := by decide +kernel
theorem dX3_numberUnder_28 : decode cX3_numberUnder 28 = .ok (.iload_n 2, 1) := by decide +kernel
theorem dX3_numberUnder_29 : decode cX3_numberUnder 29 = .ok (.ireturn, 1) := by decide +kernel
theorem dX3_wealthUnder_0 : decode cX3_wealthUnder 0 = .ok (.iconst 0, 1) := by decide +kernel
theorem dX3_wealthUnder_1 : decode cX3_wealthUnder 1 = .ok (.istore_n 2, 1) := by decide +kernel
theorem dX3_wealthUnder_2 : decode cX3_wealthUnder 2 = .ok (.iconst 0, 1) := by decide +kernel
theorem dX3_wealthUnder_3 : decode cX3_wealthUnder 3 = .ok (.istore_n 3, 1) := by decide +kernel
theorem dX3_wealthUnder_4 : decode cX3_wealthUnder 4 = .ok (.iload_n 3, 1) := by decide +kernel
theorem dX3_wealthUnder_5 : decode cX3_wealthUnder 5 = .ok (.bipush 40, 2) := by decide +kernel
theorem dX3_wealthUnder_7 : decode cX3_wealthUnder 7 = .ok (.if_icmp .ge 27, 3) := by decide +kernel
theorem dX3_wealthUnder_10 : decode cX3_wealthUnder 10 = .ok (.aload_n 0, 1) := by decide +kernel
theorem dX3_wealthUnder_11 : decode cX3_wealthUnder 11 = .ok (.iload_n 3, 1) := by decide +kernel
theorem dX3_wealthUnder_12 : decode cX3_wealthUnder 12 = .ok (.invokevirtual 59, 3) := by decide +kernel
theorem dX3_wealthUnder_15 : decode cX3_wealthUnder 15 = .ok (.iload_n 1, 1) := by decide +kernel
theorem dX3_wealthUnder_16 : decode cX3_wealthUnder 16 = .ok (.if_icmp .ne 12, 3) := by decide +kernel
theorem dX3_wealthUnder_19 : decode cX3_wealthUnder 19 = .ok (.iload_n 2, 1) := by decide +kernel
theorem dX3_wealthUnder_20 : decode cX3_wealthUnder 20 = .ok (.aload_n 0, 1) := by decide +kernel
theorem dX3_wealthUnder_21 : decode cX3_wealthUnder 21 = .ok (.getfield 18, 3) := by decide +kernel
theorem dX3_wealthUnder_24 : decode cX3_wealthUnder 24 = .ok (.iload_n 3, 1) := by decide +kernel
theorem dX3_wealthUnder_25 : decode cX3_wealthUnder 25 = .ok (.iaload, 1) := by decide +kernel
theorem dX3_wealthUnder_26 : decode cX3_wealthUnder 26 = .ok (.iadd, 1) := by decide +kernel
theorem dX3_wealthUnder_27 : decode cX3_wealthUnder 27 = .ok (.istore_n 2, 1) := by decide +kernel
theorem dX3_wealthUnder_28 : decode cX3_wealthUnder 28 = .ok (.iinc 3 1, 3) := by decide +kernel
theorem dX3_wealthUnder_31 : decode cX3_wealthUnder 31 = .ok (.goto (-27), 3) := by decide +kernel
theorem dX3_wealthUnder_34 : decode cX3_wealthUnder 34 = .ok (.iload_n 2, 1) := by decide +kernel
theorem dX3_wealthUnder_35 : decode cX3_wealthUnder 35 = .ok (.ireturn, 1) := by decide +kernel
theorem dX3_poorestUnder_0 : decode cX3_poorestUnder 0 = .ok (.bipush (-9), 2) := by decide +kernel
theorem dX3_poorestUnder_2 : decode cX3_poorestUnder 2 = .ok (.istore 6, 2) := by decide +kernel
theorem dX3_poorestUnder_4 : decode cX3_poorestUnder 4 = .ok (.bipush 101, 2) := by decide +kernel
theorem dX3_poorestUnder_6 : decode cX3_poorestUnder 6 = .ok (.istore 7, 2) := by decide +kernel
theorem dX3_poorestUnder_8 : decode cX3_poorestUnder 8 = .ok (.iconst 0, 1) := by decide +kernel
theorem dX3_poorestUnder_9 : decode cX3_poorestUnder 9 = .ok (.istore 8, 2) := by decide +kernel
theorem dX3_poorestUnder_11 : decode cX3_poorestUnder 11 = .ok (.iload 8, 2) := by decide +kernel
theorem dX3_poorestUnder_13 : decode cX3_poorestUnder 13 = .ok (.bipush 40, 2) := by decide +kernel
theorem dX3_poorestUnder_15 : decode cX3_poorestUnder 15 = .ok (.if_icmp .ge 71, 3) := by decide +kernel
theorem dX3_poorestUnder_18 : decode cX3_poorestUnder 18 = .ok (.aload_n 0, 1) := by decide +kernel
theorem dX3_poorestUnder_19 : decode cX3_poorestUnder 19 = .ok (.iload 8, 2) := by decide +kernel
theorem dX3_poorestUnder_21 : decode cX3_poorestUnder 21 = .ok (.invokevirtual 59, 3) := by decide +kernel
theorem dX3_poorestUnder_24 : decode cX3_poorestUnder 24 = .ok (.iload_n 1, 1) := by decide +kernel
theorem dX3_poorestUnder_25 : decode cX3_poorestUnder 25 = .ok (.if_icmp .ne 22, 3) := by decide +kernel
theorem dX3_poorestUnder_28 : decode cX3_poorestUnder 28 = .ok (.aload_n 0, 1) := by decide +kernel
theorem dX3_poorestUnder_29 : decode cX3_poorestUnder 29 = .ok (.iload 8, 2) := by decide +kernel
theorem dX3_poorestUnder_31 : decode cX3_poorestUnder 31 = .ok (.iload_n 2, 1) := by decide +kernel
theorem dX3_poorestUnder_32 : decode cX3_poorestUnder 32 = .ok (.iload_n 3, 1) := by decide +kernel
theorem dX3_poorestUnder_33 : decode cX3_poorestUnder 33 = .ok (.iload 4, 2) := by decide +kernel
theorem dX3_poorestUnder_35 : decode cX3_poorestUnder 35 = .ok (.iload 5, 2) := by decide +kernel
theorem dX3_poorestUnder_37 : decode cX3_poorestUnder 37 = .ok (.invokevirtual 46, 3) := by decide +kernel
theorem dX3_poorestUnder_40 : decode cX3_poorestUnder 40 = .ok (.ifCond .eq 7, 3) := by decide +kernel
theorem dX3_poorestUnder_43 : decode cX3_poorestUnder 43 = .ok (.iconst 1, 1) := by decide +kernel
theorem dX3_poorestUnder_44 : decode cX3_poorestUnder 44 = .ok (.goto 4, 3) := by decide +kernel
theorem dX3_poorestUnder_47 : decode cX3_poorestUnder 47 = .ok (.iconst 0, 1) := by decide +kernel
theorem dX3_poorestUnder_48 : decode cX3_poorestUnder 48 = .ok (.istore 9, 2) := by decide +kernel
theorem dX3_poorestUnder_50 : decode cX3_poorestUnder 50 = .ok (.iload 9, 2) := by decide +kernel
theorem dX3_poorestUnder_52 : decode cX3_poorestUnder 52 = .ok (.ifCond .eq 28, 3) := by decide +kernel
theorem dX3_poorestUnder_55 : decode cX3_poorestUnder 55 = .ok (.aload_n 0, 1) := by decide +kernel
theorem dX3_poorestUnder_56 : decode cX3_poorestUnder 56 = .ok (.getfield 18, 3) := by decide +kernel
theorem dX3_poorestUnder_59 : decode cX3_poorestUnder 59 = .ok (.iload 8, 2) := by decide +kernel
theorem dX3_poorestUnder_61 : decode cX3_poorestUnder 61 = .ok (.iaload, 1) := by decide +kernel
theorem dX3_poorestUnder_62 : decode cX3_poorestUnder 62 = .ok (.iload 7, 2) := by decide +kernel
theorem dX3_poorestUnder_64 : decode cX3_poorestUnder 64 = .ok (.if_icmp .ge 16, 3) := by decide +kernel
theorem dX3_poorestUnder_67 : decode cX3_poorestUnder 67 = .ok (.iload 8, 2) := by decide +kernel
theorem dX3_poorestUnder_69 : decode cX3_poorestUnder 69 = .ok (.istore 6, 2) := by decide +kernel
theorem dX3_poorestUnder_71 : decode cX3_poorestUnder 71 = .ok (.aload_n 0, 1) := by decide +kernel
theorem dX3_poorestUnder_72 : decode cX3_poorestUnder 72 = .ok (.getfield 18, 3) := by decide +kernel
theorem dX3_poorestUnder_75 : decode cX3_poorestUnder 75 = .ok (.iload 8, 2) := by decide +kernel
theorem dX3_poorestUnder_77 : decode cX3_poorestUnder 77 = .ok (.iaload, 1) := by decide +kernel
theorem dX3_poorestUnder_78 : decode cX3_poorestUnder 78 = .ok (.istore 7, 2) := by decide +kernel
theorem dX3_poorestUnder_80 : decode cX3_poorestUnder 80 = .ok (.iinc 8 1, 3) := by decide +kernel
theorem dX3_poorestUnder_83 : decode cX3_poorestUnder 83 = .ok (.goto (-72), 3) := by decide +kernel
theorem dX3_poorestUnder_86 : decode cX3_poorestUnder 86 = .ok (.iload 6, 2) := by decide +kernel
theorem dX3_poorestUnder_88 : decode cX3_poorestUnder 88 = .ok (.ireturn, 1) := by decide +kernel
theorem dX3_changeLord_0 : decode cX3_changeLord 0 = .ok (.iconst 0, 1) := by decide +kernel
theorem dX3_changeLord_1 : decode cX3_changeLord 1 = .ok (.istore 7, 2) := by decide +kernel
theorem dX3_changeLord_3 : decode cX3_changeLord 3 = .ok (.iload 7, 2) := by decide +kernel
theorem dX3_changeLord_5 : decode cX3_changeLord 5 = .ok (.bipush 40, 2) := by decide +kernel
theorem dX3_changeLord_7 : decode cX3_changeLord 7 = .ok (.if_icmp .ge 44, 3) := by decide +kernel
theorem dX3_changeLord_10 : decode cX3_changeLord 10 = .ok (.aload_n 0, 1) := by decide +kernel
theorem dX3_changeLord_11 : decode cX3_changeLord 11 = .ok (.iload 7, 2) := by decide +kernel
theorem dX3_changeLord_13 : decode cX3_changeLord 13 = .ok (.iload_n 3, 1) := by decide +kernel
theorem dX3_changeLord_14 : decode cX3_changeLord 14 = .ok (.iload 4, 2) := by decide +kernel
theorem dX3_changeLord_16 : decode cX3_changeLord 16 = .ok (.iload 5, 2) := by decide +kernel
theorem dX3_changeLord_18 : decode cX3_changeLord 18 = .ok (.iload 6, 2) := by decide +kernel
theorem dX3_changeLord_20 : decode cX3_changeLord 20 = .ok (.invokevirtual 46, 3) := by decide +kernel
theorem dX3_changeLord_23 : decode cX3_changeLord 23 = .ok (.ifCond .eq 22, 3) := by decide +kernel
theorem dX3_changeLord_26 : decode cX3_changeLord 26 = .ok (.aload_n 0, 1) := by decide +kernel
theorem dX3_changeLord_27 : decode cX3_changeLord 27 = .ok (.getfield 21, 3) := by decide +kernel
theorem dX3_changeLord_30 : decode cX3_changeLord 30 = .ok (.iload 7, 2) := by decide +kernel
theorem dX3_changeLord_32 : decode cX3_changeLord 32 = .ok (.iaload, 1) := by decide +kernel
theorem dX3_changeLord_33 : decode cX3_changeLord 33 = .ok (.iload_n 1, 1) := by decide +kernel
theorem dX3_changeLord_34 : decode cX3_changeLord 34 = .ok (.if_icmp .ne 11, 3) := by decide +kernel
theorem dX3_changeLord_37 : decode cX3_changeLord 37 = .ok (.aload_n 0, 1) := by decide +kernel
theorem dX3_changeLord_38 : decode cX3_changeLord 38 = .ok (.getfield 21, 3) := by decide +kernel
theorem dX3_changeLord_41 : decode cX3_changeLord 41 = .ok (.iload 7, 2) := by decide +kernel
theorem dX3_changeLord_43 : decode cX3_changeLord 43 = .ok (.iload_n 2, 1) := by decide +kernel
theorem dX3_changeLord_44 : decode cX3_changeLord 44 = .ok (.iastore, 1) := by decide +kernel
theorem dX3_changeLord_45 : decode cX3_changeLord 45 = .ok (.iinc 7 1, 3) := by decide +kernel
theorem dX3_changeLord_48 : decode cX3_changeLord 48 = .ok (.goto (-45), 3) := by decide +kernel
theorem dX3_changeLord_51 : decode cX3_changeLord 51 = .ok (.return_, 1) := by decide +kernel
theorem dX3_cellsIfDivided_0 : decode cX3_cellsIfDivided 0 = .ok (.iconst 1, 1) := by decide +kernel
theorem dX3_cellsIfDivided_1 : decode cX3_cellsIfDivided 1 = .ok (.istore_n 2, 1) := by decide +kernel
theorem dX3_cellsIfDivided_2 : decode cX3_cellsIfDivided 2 = .ok (.iconst 0, 1) := by decide +kernel
theorem dX3_cellsIfDivided_3 : decode cX3_cellsIfDivided 3 = .ok (.istore_n 3, 1) := by decide +kernel
theorem dX3_cellsIfDivided_4 : decode cX3_cellsIfDivided 4 = .ok (.iload_n 3, 1) := by decide +kernel
theorem dX3_cellsIfDivided_5 : decode cX3_cellsIfDivided 5 = .ok (.iconst 4, 1) := by decide +kernel
theorem dX3_cellsIfDivided_6 : decode cX3_cellsIfDivided 6 = .ok (.if_icmp .ge 20, 3) := by decide +kernel
theorem dX3_cellsIfDivided_9 : decode cX3_cellsIfDivided 9 = .ok (.iload_n 2, 1) := by decide +kernel
theorem dX3_cellsIfDivided_10 : decode cX3_cellsIfDivided 10 = .ok (.iconst 3, 1) := by decide +kernel
theorem dX3_cellsIfDivided_11 : decode cX3_cellsIfDivided 11 = .ok (.aload_n 0, 1) := by decide +kernel
theorem dX3_cellsIfDivided_12 : decode cX3_cellsIfDivided 12 = .ok (.iload_n 3, 1) := by decide +kernel
theorem dX3_cellsIfDivided_13 : decode cX3_cellsIfDivided 13 = .ok (.iload_n 1, 1) := by decide +kernel
theorem dX3_cellsIfDivided_14 : decode cX3_cellsIfDivided 14 = .ok (.invokevirtual 62, 3) := by decide +kernel
theorem dX3_cellsIfDivided_17 : decode cX3_cellsIfDivided 17 = .ok (.imul, 1) := by decide +kernel
theorem dX3_cellsIfDivided_18 : decode cX3_cellsIfDivided 18 = .ok (.iadd, 1) := by decide +kernel
theorem dX3_cellsIfDivided_19 : decode cX3_cellsIfDivided 19 = .ok (.istore_n 2, 1) := by decide +kernel
theorem dX3_cellsIfDivided_20 : decode cX3_cellsIfDivided 20 = .ok (.iinc 3 1, 3) := by decide +kernel
theorem dX3_cellsIfDivided_23 : decode cX3_cellsIfDivided 23 = .ok (.goto (-19), 3) := by decide +kernel
theorem dX3_cellsIfDivided_26 : decode cX3_cellsIfDivided 26 = .ok (.iload_n 2, 1) := by decide +kernel
theorem dX3_cellsIfDivided_27 : decode cX3_cellsIfDivided 27 = .ok (.ireturn, 1) := by decide +kernel
theorem dX3_crowdedCells_0 : decode cX3_crowdedCells 0 = .ok (.iload_n 1, 1) := by decide +kernel
theorem dX3_crowdedCells_1 : decode cX3_crowdedCells 1 = .ok (.invokestatic 66, 3) := by decide +kernel
theorem dX3_crowdedCells_4 : decode cX3_crowdedCells 4 = .ok (.istore_n 3, 1) := by decide +kernel
theorem dX3_crowdedCells_5 : decode cX3_crowdedCells 5 = .ok (.iconst 0, 1) := by decide +kernel
theorem dX3_crowdedCells_6 : decode cX3_crowdedCells 6 = .ok (.istore 4, 2) := by decide +kernel
theorem dX3_crowdedCells_8 : decode cX3_crowdedCells 8 = .ok (.iconst 0, 1) := by decide +kernel
theorem dX3_crowdedCells_9 : decode cX3_crowdedCells 9 = .ok (.istore 5, 2) := by decide +kernel
theorem dX3_crowdedCells_11 : decode cX3_crowdedCells 11 = .ok (.iload 5, 2) := by decide +kernel
theorem dX3_crowdedCells_13 : decode cX3_crowdedCells 13 = .ok (.iconst 1, 1) := by decide +kernel
theorem dX3_crowdedCells_14 : decode cX3_crowdedCells 14 = .ok (.iload_n 1, 1) := by decide +kernel
theorem dX3_crowdedCells_15 : decode cX3_crowdedCells 15 = .ok (.ishl, 1) := by decide +kernel
theorem dX3_crowdedCells_16 : decode cX3_crowdedCells 16 = .ok (.if_icmp .ge 65, 3) := by decide +kernel
theorem dX3_crowdedCells_19 : decode cX3_crowdedCells 19 = .ok (.iconst 0, 1) := by decide +kernel
theorem dX3_crowdedCells_20 : decode cX3_crowdedCells 20 = .ok (.istore 6, 2) := by decide +kernel
theorem dX3_crowdedCells_22 : decode cX3_crowdedCells 22 = .ok (.iload 6, 2) := by decide +kernel
theorem dX3_crowdedCells_24 : decode cX3_crowdedCells 24 = .ok (.iconst 1, 1) := by decide +kernel
theorem dX3_crowdedCells_25 : decode cX3_crowdedCells 25 = .ok (.iload_n 1, 1) := by decide +kernel
theorem dX3_crowdedCells_26 : decode cX3_crowdedCells 26 = .ok (.ishl, 1) := by decide +kernel
theorem dX3_crowdedCells_27 : decode cX3_crowdedCells 27 = .ok (.if_icmp .ge 48, 3) := by decide +kernel
theorem dX3_crowdedCells_30 : decode cX3_crowdedCells 30 = .ok (.iload 6, 2) := by decide +kernel
theorem dX3_crowdedCells_32 : decode cX3_crowdedCells 32 = .ok (.iload_n 3, 1) := by decide +kernel
theorem dX3_crowdedCells_33 : decode cX3_crowdedCells 33 = .ok (.imul, 1) := by decide +kernel
theorem dX3_crowdedCells_34 : decode cX3_crowdedCells 34 = .ok (.istore 7, 2) := by decide +kernel
theorem dX3_crowdedCells_36 : decode cX3_crowdedCells 36 = .ok (.iload 5, 2) := by decide +kernel
theorem dX3_crowdedCells_38 : decode cX3_crowdedCells 38 = .ok (.iload_n 3, 1) := by decide +kernel
theorem dX3_crowdedCells_39 : decode cX3_crowdedCells 39 = .ok (.imul, 1) := by decide +kernel
theorem dX3_crowdedCells_40 : decode cX3_crowdedCells 40 = .ok (.istore 8, 2) := by decide +kernel
theorem dX3_crowdedCells_42 : decode cX3_crowdedCells 42 = .ok (.aload_n 0, 1) := by decide +kernel
theorem dX3_crowdedCells_43 : decode cX3_crowdedCells 43 = .ok (.iload 7, 2) := by decide +kernel
theorem dX3_crowdedCells_45 : decode cX3_crowdedCells 45 = .ok (.iload 8, 2) := by decide +kernel
theorem dX3_crowdedCells_47 : decode cX3_crowdedCells 47 = .ok (.iload 7, 2) := by decide +kernel
theorem dX3_crowdedCells_49 : decode cX3_crowdedCells 49 = .ok (.iload_n 3, 1) := by decide +kernel
theorem dX3_crowdedCells_50 : decode cX3_crowdedCells 50 = .ok (.iadd, 1) := by decide +kernel
theorem dX3_crowdedCells_51 : decode cX3_crowdedCells 51 = .ok (.iconst 1, 1) := by decide +kernel
theorem dX3_crowdedCells_52 : decode cX3_crowdedCells 52 = .ok (.isub, 1) := by decide +kernel
theorem dX3_crowdedCells_53 : decode cX3_crowdedCells 53 = .ok (.iload 8, 2) := by decide +kernel
theorem dX3_crowdedCells_55 : decode cX3_crowdedCells 55 = .ok (.iload_n 3, 1) := by decide +kernel
theorem dX3_crowdedCells_56 : decode cX3_crowdedCells 56 = .ok (.iadd, 1) := by decide +kernel
theorem dX3_crowdedCells_57 : decode cX3_crowdedCells 57 = .ok (.iconst 1, 1) := by decide +kernel
theorem dX3_crowdedCells_58 : decode cX3_crowdedCells 58 = .ok (.isub, 1) := by decide +kernel
theorem dX3_crowdedCells_59 : decode cX3_crowdedCells 59 = .ok (.invokevirtual 42, 3) := by decide +kernel
theorem dX3_crowdedCells_62 : decode cX3_crowdedCells 62 = .ok (.iload_n 2, 1) := by decide +kernel
theorem dX3_crowdedCells_63 : decode cX3_crowdedCells 63 = .ok (.if_icmp .le 6, 3) := by decide +kernel
theorem dX3_crowdedCells_66 : decode cX3_crowdedCells 66 = .ok (.iinc 4 1, 3) := by decide +kernel
theorem dX3_crowdedCells_69 : decode cX3_crowdedCells 69 = .ok (.iinc 6 1, 3) := by decide +kernel
theorem dX3_crowdedCells_72 : decode cX3_crowdedCells 72 = .ok (.goto (-50), 3) := by decide +kernel
theorem dX3_crowdedCells_75 : decode cX3_crowdedCells 75 = .ok (.iinc 5 1, 3) := by decide +kernel
theorem dX3_crowdedCells_78 : decode cX3_crowdedCells 78 = .ok (.goto (-67), 3) := by decide +kernel
theorem dX3_crowdedCells_81 : decode cX3_crowdedCells 81 = .ok (.iload 4, 2) := by decide +kernel
theorem dX3_crowdedCells_83 : decode cX3_crowdedCells 83 = .ok (.ireturn, 1) := by decide +kernel
theorem dX4_init_0 : decode cX4_init 0 = .ok (.aload_n 0, 1) := by decide +kernel
theorem dX4_init_1 : decode cX4_init 1 = .ok (.invokespecial 3, 3) := by decide +kernel
theorem dX4_init_4 : decode cX4_init 4 = .ok (.aload_n 0, 1) := by decide +kernel
theorem dX4_init_5 : decode cX4_init 5 = .ok (.iconst 4, 1) := by decide +kernel
theorem dX4_init_6 : decode cX4_init 6 = .ok (.putfield 9, 3) := by decide +kernel
theorem dX4_init_9 : decode cX4_init 9 = .ok (.aload_n 0, 1) := by decide +kernel
theorem dX4_init_10 : decode cX4_init 10 = .ok (.iconst 3, 1) := by decide +kernel
theorem dX4_init_11 : decode cX4_init 11 = .ok (.putfield 15, 3) := by decide +kernel
theorem dX4_init_14 : decode cX4_init 14 = .ok (.aload_n 0, 1) := by decide +kernel
theorem dX4_init_15 : decode cX4_init 15 = .ok (.new 18, 3) := by decide +kernel
theorem dX4_init_18 : decode cX4_init 18 = .ok (.dup, 1) := by decide +kernel
theorem dX4_init_19 : decode cX4_init 19 = .ok (.invokespecial 20, 3) := by decide +kernel
theorem dX4_init_22 : decode cX4_init 22 = .ok (.putfield 21, 3) := by decide +kernel
theorem dX4_init_25 : decode cX4_init 25 = .ok (.aload_n 0, 1) := by decide +kernel
theorem dX4_init_26 : decode cX4_init 26 = .ok (.new 25, 3) := by decide +kernel
theorem dX4_init_29 : decode cX4_init 29 = .ok (.dup, 1) := by decide +kernel
theorem dX4_init_30 : decode cX4_init 30 = .ok (.invokespecial 27, 3) := by decide +kernel
theorem dX4_init_33 : decode cX4_init 33 = .ok (.putfield 28, 3) := by decide +kernel
theorem dX4_init_36 : decode cX4_init 36 = .ok (.aload_n 0, 1) := by decide +kernel
theorem dX4_init_37 : decode cX4_init 37 = .ok (.new 32, 3) := by decide +kernel
theorem dX4_init_40 : decode cX4_init 40 = .ok (.dup, 1) := by decide +kernel
theorem dX4_init_41 : decode cX4_init 41 = .ok (.invokespecial 34, 3) := by decide +kernel
theorem dX4_init_44 : decode cX4_init 44 = .ok (.putfield 35, 3) := by decide +kernel
theorem dX4_init_47 : decode cX4_init 47 = .ok (.return_, 1) := by decide +kernel
theorem dX4_copyFrom_0 : decode cX4_copyFrom 0 = .ok (.aload_n 0, 1) := by decide +kernel
theorem dX4_copyFrom_1 : decode cX4_copyFrom 1 = .ok (.aload_n 1, 1) := by decide +kernel
theorem dX4_copyFrom_2 : decode cX4_copyFrom 2 = .ok (.getfield 9, 3) := by decide +kernel
theorem dX4_copyFrom_5 : decode cX4_copyFrom 5 = .ok (.putfield 9, 3) := by decide +kernel
theorem dX4_copyFrom_8 : decode cX4_copyFrom 8 = .ok (.aload_n 0, 1) := by decide +kernel
theorem dX4_copyFrom_9 : decode cX4_copyFrom 9 = .ok (.aload_n 1, 1) := by decide +kernel
theorem dX4_copyFrom_10 : decode cX4_copyFrom 10 = .ok (.getfield 15, 3) := by decide +kernel
theorem dX4_copyFrom_13 : decode cX4_copyFrom 13 = .ok (.putfield 15, 3) := by decide +kernel
theorem dX4_copyFrom_16 : decode cX4_copyFrom 16 = .ok (.aload_n 0, 1) := by decide +kernel
theorem dX4_copyFrom_17 : decode cX4_copyFrom 17 = .ok (.getfield 21, 3) := by decide +kernel
theorem dX4_copyFrom_20 : decode cX4_copyFrom 20 = .ok (.aload_n 1, 1) := by decide +kernel
theorem dX4_copyFrom_21 : decode cX4_copyFrom 21 = .ok (.getfield 21, 3) := by decide +kernel
theorem dX4_copyFrom_24 : decode cX4_copyFrom 24 = .ok (.invokevirtual 39, 3) := by decide +kernel
theorem dX4_copyFrom_27 : decode cX4_copyFrom 27 = .ok (.aload_n 0, 1) := by decide +kernel
theorem dX4_copyFrom_28 : decode cX4_copyFrom 28 = .ok (.getfield 28, 3) := by decide +kernel
theorem dX4_copyFrom_31 : decode cX4_copyFrom 31 = .ok (.aload_n 1, 1) := by decide +kernel
theorem dX4_copyFrom_32 : decode cX4_copyFrom 32 = .ok (.getfield 28, 3) := by decide +kernel
theorem dX4_copyFrom_35 : decode cX4_copyFrom 35 = .ok (.invokevirtual 43, 3) := by decide +kernel
theorem dX4_copyFrom_38 : decode cX4_copyFrom 38 = .ok (.aload_n 0, 1) := by decide +kernel
theorem dX4_copyFrom_39 : decode cX4_copyFrom 39 = .ok (.getfield 35, 3) := by decide +kernel
theorem dX4_copyFrom_42 : decode cX4_copyFrom 42 = .ok (.aload_n 1, 1) := by decide +kernel
theorem dX4_copyFrom_43 : decode cX4_copyFrom 43 = .ok (.getfield 35, 3) := by decide +kernel
theorem dX4_copyFrom_46 : decode cX4_copyFrom 46 = .ok (.invokevirtual 46, 3) := by decide +kernel
theorem dX4_copyFrom_49 : decode cX4_copyFrom 49 = .ok (.return_, 1) := by decide +kernel
theorem dX4_addPoint_0 : decode cX4_addPoint 0 = .ok (.aload_n 0, 1) := by decide +kernel
theorem dX4_addPoint_1 : decode cX4_addPoint 1 = .ok (.getfield 21, 3) := by decide +kernel
theorem dX4_addPoint_4 : decode cX4_addPoint 4 = .ok (.iload_n 1, 1) := by decide +kernel
theorem dX4_addPoint_5 : decode cX4_addPoint 5 = .ok (.iload_n 2, 1) := by decide +kernel
theorem dX4_addPoint_6 : decode cX4_addPoint 6 = .ok (.iload_n 3, 1) := by decide +kernel
theorem dX4_addPoint_7 : decode cX4_addPoint 7 = .ok (.aload_n 0, 1) := by decide +kernel
theorem dX4_addPoint_8 : decode cX4_addPoint 8 = .ok (.getfield 28, 3) := by decide +kernel
theorem dX4_addPoint_11 : decode cX4_addPoint 11 = .ok (.iload_n 1, 1) := by decide +kernel
theorem dX4_addPoint_12 : decode cX4_addPoint 12 = .ok (.iload_n 2, 1) := by decide +kernel
theorem dX4_addPoint_13 : decode cX4_addPoint 13 = .ok (.invokevirtual 49, 3) := by decide +kernel
theorem dX4_addPoint_16 : decode cX4_addPoint 16 = .ok (.invokevirtual 53, 3) := by decide +kernel
theorem dX4_addPoint_19 : decode cX4_addPoint 19 = .ok (.ireturn, 1) := by decide +kernel
theorem dX4_movePoint_0 : decode cX4_movePoint 0 = .ok (.aload_n 0, 1) := by decide +kernel
theorem dX4_movePoint_1 : decode cX4_movePoint 1 = .ok (.getfield 21, 3) := by decide +kernel
theorem dX4_movePoint_4 : decode cX4_movePoint 4 = .ok (.iload_n 1, 1) := by decide +kernel
theorem dX4_movePoint_5 : decode cX4_movePoint 5 = .ok (.invokevirtual 57, 3) := by decide +kernel
theorem dX4_movePoint_8 : decode cX4_movePoint 8 = .ok (.istore 4, 2) := by decide +kernel
theorem dX4_movePoint_10 : decode cX4_movePoint 10 = .ok (.iload 4, 2) := by decide +kernel
theorem dX4_movePoint_12 : decode cX4_movePoint 12 = .ok (.aload_n 0, 1) := by decide +kernel
theorem dX4_movePoint_13 : decode cX4_movePoint 13 = .ok (.iload_n 1, 1) := by decide +kernel
theorem dX4_movePoint_14 : decode cX4_movePoint 14 = .ok (.invokevirtual 61, 3) := by decide +kernel
theorem dX4_movePoint_17 : decode cX4_movePoint 17 = .ok (.if_icmp .ne 7, 3) := by decide +kernel
theorem dX4_movePoint_20 : decode cX4_movePoint 20 = .ok (.iconst 1, 1) := by decide +kernel
theorem dX4_movePoint_21 : decode cX4_movePoint 21 = .ok (.goto 4, 3) := by decide +kernel
theorem dX4_movePoint_24 : decode cX4_movePoint 24 = .ok (.iconst 0, 1) := by decide +kernel
theorem dX4_movePoint_25 : decode cX4_movePoint 25 = .ok (.istore 5, 2) := by decide +kernel
theorem dX4_movePoint_27 : decode cX4_movePoint 27 = .ok (.aload_n 0, 1) := by decide +kernel
theorem dX4_movePoint_28 : decode cX4_movePoint 28 = .ok (.getfield 21, 3) := by decide +kernel
theorem dX4_movePoint_31 : decode cX4_movePoint 31 = .ok (.iload_n 1, 1) := by decide +kernel
theorem dX4_movePoint_32 : decode cX4_movePoint 32 = .ok (.iload_n 2, 1) := by decide +kernel
theorem dX4_movePoint_33 : decode cX4_movePoint 33 = .ok (.iload_n 3, 1) := by decide +kernel
theorem dX4_movePoint_34 : decode cX4_movePoint 34 = .ok (.invokevirtual 64, 3) := by decide +kernel
theorem dX4_movePoint_37 : decode cX4_movePoint 37 = .ok (.iload 5, 2) := by decide +kernel
theorem dX4_movePoint_39 : decode cX4_movePoint 39 = .ok (.ifCond .eq 16, 3) := by decide +kernel
theorem dX4_movePoint_42 : decode cX4_movePoint 42 = .ok (.aload_n 0, 1) := by decide +kernel
theorem dX4_movePoint_43 : decode cX4_movePoint 43 = .ok (.getfield 21, 3) := by decide +kernel
theorem dX4_movePoint_46 : decode cX4_movePoint 46 = .ok (.iload_n 1, 1) := by decide +kernel
theorem dX4_movePoint_47 : decode cX4_movePoint 47 = .ok (.aload_n 0, 1) := by decide +kernel
theorem dX4_movePoint_48 : decode cX4_movePoint 48 = .ok (.iload_n 1, 1) := by decide +kernel
theorem dX4_movePoint_49 : decode cX4_movePoint 49 = .ok (.invokevirtual 61, 3) := by decide +kernel
theorem dX4_movePoint_52 : decode cX4_movePoint 52 = .ok (.invokevirtual 68, 3) := by decide +kernel
theorem dX4_movePoint_55 : decode cX4_movePoint 55 = .ok (.aload_n 0, 1) := by decide +kernel
theorem dX4_movePoint_56 : decode cX4_movePoint 56 = .ok (.getfield 21, 3) := by decide +kernel
theorem dX4_movePoint_59 : decode cX4_movePoint 59 = .ok (.iload_n 1, 1) := by decide +kernel
theorem dX4_movePoint_60 : decode cX4_movePoint 60 = .ok (.invokevirtual 57, 3) := by decide +kernel
theorem dX4_movePoint_63 : decode cX4_movePoint 63 = .ok (.iload 4, 2) := by decide +kernel
theorem dX4_movePoint_65 : decode cX4_movePoint 65 = .ok (.if_icmp .eq 7, 3) := by decide +kernel
theorem dX4_movePoint_68 : decode cX4_movePoint 68 = .ok (.iconst 1, 1) := by decide +kernel
theorem dX4_movePoint_69 : decode cX4_movePoint 69 = .ok (.goto 4, 3) := by decide +kernel
theorem dX4_movePoint_72 : decode cX4_movePoint 72 = .ok (.iconst 0, 1) := by decide +kernel
theorem dX4_movePoint_73 : decode cX4_movePoint 73 = .ok (.ireturn, 1) := by decide +kernel
theorem dX4_parishAround_0 : decode cX4_parishAround 0 = .ok (.aload_n 0, 1) := by decide +kernel
theorem dX4_parishAround_1 : decode cX4_parishAround 1 = .ok (.getfield 28, 3) := by decide +kernel
theorem dX4_parishAround_4 : decode cX4_parishAround 4 = .ok (.aload_n 0, 1) := by decide +kernel
theorem dX4_parishAround_5 : decode cX4_parishAround 5 = .ok (.getfield 21, 3) := by decide +kernel
theorem dX4_parishAround_8 : decode cX4_parishAround 8 = .ok (.iload_n 1, 1) := by decide +kernel
theorem dX4_parishAround_9 : decode cX4_parishAround 9 = .ok (.invokevirtual 72, 3) := by decide +kernel
theorem dX4_parishAround_12 : decode cX4_parishAround 12 = .ok (.aload_n 0, 1) := by decide +kernel
theorem dX4_parishAround_13 : decode cX4_parishAround 13 = .ok (.getfield 21, 3) := by decide +kernel
theorem dX4_parishAround_16 : decode cX4_parishAround 16 = .ok (.iload_n 1, 1) := by decide +kernel
theorem dX4_parishAround_17 : decode cX4_parishAround 17 = .ok (.invokevirtual 75, 3) := by decide +kernel
theorem dX4_parishAround_20 : decode cX4_parishAround 20 = .ok (.invokevirtual 49, 3) := by decide +kernel
theorem dX4_parishAround_23 : decode cX4_parishAround 23 = .ok (.ireturn, 1) := by decide +kernel
theorem dX4_pointsIn_0 : decode cX4_pointsIn 0 = .ok (.aload_n 0, 1) := by decide +kernel
theorem dX4_pointsIn_1 : decode cX4_pointsIn 1 = .ok (.getfield 21, 3) := by decide +kernel
theorem dX4_pointsIn_4 : decode cX4_pointsIn 4 = .ok (.aload_n 0, 1) := by decide +kernel
theorem dX4_pointsIn_5 : decode cX4_pointsIn 5 = .ok (.getfield 28, 3) := by decide +kernel
theorem dX4_pointsIn_8 : decode cX4_pointsIn 8 = .ok (.iload_n 1, 1) := by decide +kernel
theorem dX4_pointsIn_9 : decode cX4_pointsIn 9 = .ok (.invokevirtual 78, 3) := by decide +kernel
theorem dX4_pointsIn_12 : decode cX4_pointsIn 12 = .ok (.aload_n 0, 1) := by decide +kernel
theorem dX4_pointsIn_13 : decode cX4_pointsIn 13 = .ok (.getfield 28, 3) := by decide +kernel
theorem dX4_pointsIn_16 : decode cX4_pointsIn 16 = .ok (.iload_n 1, 1) := by decide +kernel
theorem dX4_pointsIn_17 : decode cX4_pointsIn 17 = .ok (.invokevirtual 81, 3) := by decide +kernel
theorem dX4_pointsIn_20 : decode cX4_pointsIn 20 = .ok (.aload_n 0, 1) := by decide +kernel
theorem dX4_pointsIn_21 : decode cX4_pointsIn 21 = .ok (.getfield 28, 3) := by decide +kernel
theorem dX4_pointsIn_24 : decode cX4_pointsIn 24 = .ok (.iload_n 1, 1) := by decide +kernel
theorem dX4_pointsIn_25 : decode cX4_pointsIn 25 = .ok (.invokevirtual 84, 3) := by decide +kernel
theorem dX4_pointsIn_28 : decode cX4_pointsIn 28 = .ok (.aload_n 0, 1) := by decide +kernel
theorem dX4_pointsIn_29 : decode cX4_pointsIn 29 = .ok (.getfield 28, 3) := by decide +kernel
theorem dX4_pointsIn_32 : decode cX4_pointsIn 32 = .ok (.iload_n 1, 1) := by decide +kernel
theorem dX4_pointsIn_33 : decode cX4_pointsIn 33 = .ok (.invokevirtual 87, 3) := by decide +kernel
theorem dX4_pointsIn_36 : decode cX4_pointsIn 36 = .ok (.invokevirtual 90, 3) := by decide +kernel
theorem dX4_pointsIn_39 : decode cX4_pointsIn 39 = .ok (.ireturn, 1) := by decide +kernel
theorem dX4_pointsWithLordElsewhere_0 : decode cX4_pointsWithLordElsewhere 0 = .ok (.iconst 0, 1) := by decide +kernel
theorem dX4_pointsWithLordElsewhere_1 : decode cX4_pointsWithLordElsewhere 1 = .ok (.istore_n 1, 1) := by decide +kernel
theorem dX4_pointsWithLordElsewhere_2 : decode cX4_pointsWithLordElsewhere 2 = .ok (.iconst 0, 1) := by decide +kernel
theorem dX4_pointsWithLordElsewhere_3 : decode cX4_pointsWithLordElsewhere 3 = .ok (.istore_n 2, 1) := by decide +kernel
theorem dX4_pointsWithLordElsewhere_4 : decode cX4_pointsWithLordElsewhere 4 = .ok (.iload_n 2, 1) := by decide +kernel
theorem dX4_pointsWithLordElsewhere_5 : decode cX4_pointsWithLordElsewhere 5 = .ok (.bipush 40, 2) := by decide +kernel
theorem dX4_pointsWithLordElsewhere_7 : decode cX4_pointsWithLordElsewhere 7 = .ok (.if_icmp .ge 39, 3) := by decide +kernel
theorem dX4_pointsWithLordElsewhere_10 : decode cX4_pointsWithLordElsewhere 10 = .ok (.aload_n 0, 1) := by decide +kernel
theorem dX4_pointsWithLordElsewhere_11 : decode cX4_pointsWithLordElsewhere 11 = .ok (.getfield 21, 3) := by decide +kernel
theorem dX4_pointsWithLordElsewhere_14 : decode cX4_pointsWithLordElsewhere 14 = .ok (.iload_n 2, 1) := by decide +kernel
theorem dX4_pointsWithLordElsewhere_15 : decode cX4_pointsWithLordElsewhere 15 = .ok (.invokevirtual 93, 3) := by decide +kernel
theorem dX4_pointsWithLordElsewhere_18 : decode cX4_pointsWithLordElsewhere 18 = .ok (.ifCond .eq 22, 3) := by decide +kernel
theorem dX4_pointsWithLordElsewhere_21 : decode cX4_pointsWithLordElsewhere 21 = .ok (.aload_n 0, 1) := by decide +kernel
theorem dX4_pointsWithLordElsewhere_22 : decode cX4_pointsWithLordElsewhere 22 = .ok (.getfield 21, 3) := by decide +kernel
theorem dX4_pointsWithLordElsewhere_25 : decode cX4_pointsWithLordElsewhere 25 = .ok (.iload_n 2, 1) := by decide +kernel
theorem dX4_pointsWithLordElsewhere_26 : decode cX4_pointsWithLordElsewhere 26 = .ok (.invokevirtual 57, 3) := by decide +kernel
theorem dX4_pointsWithLordElsewhere_29 : decode cX4_pointsWithLordElsewhere 29 = .ok (.aload_n 0, 1) := by decide +kernel
theorem dX4_pointsWithLordElsewhere_30 : decode cX4_pointsWithLordElsewhere 30 = .ok (.iload_n 2, 1) := by decide +kernel
theorem dX4_pointsWithLordElsewhere_31 : decode cX4_pointsWithLordElsewhere 31 = .ok (.invokevirtual 61, 3) := by decide +kernel
theorem dX4_pointsWithLordElsewhere_34 : decode cX4_pointsWithLordElsewhere 34 = .ok (.if_icmp .eq 6, 3) := by decide +kernel
theorem dX4_pointsWithLordElsewhere_37 : decode cX4_pointsWithLordElsewhere 37 = .ok (.iinc 1 1, 3) := by decide +kernel
theorem dX4_pointsWithLordElsewhere_40 : decode cX4_pointsWithLordElsewhere 40 = .ok (.iinc 2 1, 3) := by decide +kernel
theorem dX4_pointsWithLordElsewhere_43 : decode cX4_pointsWithLordElsewhere 43 = .ok (.goto (-39), 3) := by decide +kernel
theorem dX4_pointsWithLordElsewhere_46 : decode cX4_pointsWithLordElsewhere 46 = .ok (.iload_n 1, 1) := by decide +kernel
theorem dX4_pointsWithLordElsewhere_47 : decode cX4_pointsWithLordElsewhere 47 = .ok (.ireturn, 1) := by decide +kernel
theorem dX4_splitCrowded_0 : decode cX4_splitCrowded 0 = .ok (.iconst 0, 1) := by decide +kernel
theorem dX4_splitCrowded_1 : decode cX4_splitCrowded 1 = .ok (.istore_n 1, 1) := by decide +kernel
theorem dX4_splitCrowded_2 : decode cX4_splitCrowded 2 = .ok (.iload_n 1, 1) := by decide +kernel
theorem dX4_splitCrowded_3 : decode cX4_splitCrowded 3 = .ok (.bipush 40, 2) := by decide +kernel
theorem dX4_splitCrowded_5 : decode cX4_splitCrowded 5 = .ok (.if_icmp .ge 26, 3) := by decide +kernel
theorem dX4_splitCrowded_8 : decode cX4_splitCrowded 8 = .ok (.aload_n 0, 1) := by decide +kernel
theorem dX4_splitCrowded_9 : decode cX4_splitCrowded 9 = .ok (.invokevirtual 97, 3) := by decide +kernel
theorem dX4_splitCrowded_12 : decode cX4_splitCrowded 12 = .ok (.istore_n 2, 1) := by decide +kernel
theorem dX4_splitCrowded_13 : decode cX4_splitCrowded 13 = .ok (.iload_n 2, 1) := by decide +kernel
theorem dX4_splitCrowded_14 : decode cX4_splitCrowded 14 = .ok (.bipush (-9), 2) := by decide +kernel
theorem dX4_splitCrowded_16 : decode cX4_splitCrowded 16 = .ok (.if_icmp .ne 4, 3) := by decide +kernel
theorem dX4_splitCrowded_19 : decode cX4_splitCrowded 19 = .ok (.return_, 1) := by decide +kernel
theorem dX4_splitCrowded_20 : decode cX4_splitCrowded 20 = .ok (.aload_n 0, 1) := by decide +kernel
theorem dX4_splitCrowded_21 : decode cX4_splitCrowded 21 = .ok (.iload_n 2, 1) := by decide +kernel
theorem dX4_splitCrowded_22 : decode cX4_splitCrowded 22 = .ok (.invokevirtual 101, 3) := by decide +kernel
theorem dX4_splitCrowded_25 : decode cX4_splitCrowded 25 = .ok (.iinc 1 1, 3) := by decide +kernel
theorem dX4_splitCrowded_28 : decode cX4_splitCrowded 28 = .ok (.goto (-26), 3) := by decide +kernel
theorem dX4_splitCrowded_31 : decode cX4_splitCrowded 31 = .ok (.return_, 1) := by decide +kernel
theorem dX4_firstToSplit_0 : decode cX4_firstToSplit 0 = .ok (.aload_n 0, 1) := by decide +kernel
theorem dX4_firstToSplit_1 : decode cX4_firstToSplit 1 = .ok (.getfield 28, 3) := by decide +kernel
theorem dX4_firstToSplit_4 : decode cX4_firstToSplit 4 = .ok (.invokevirtual 105, 3) := by decide +kernel
theorem dX4_firstToSplit_7 : decode cX4_firstToSplit 7 = .ok (.bipush 38, 2) := by decide +kernel
theorem dX4_firstToSplit_9 : decode cX4_firstToSplit 9 = .ok (.if_icmp .lt 6, 3) := by decide +kernel
theorem dX4_firstToSplit_12 : decode cX4_firstToSplit 12 = .ok (.bipush (-9), 2) := by decide +kernel
theorem dX4_firstToSplit_14 : decode cX4_firstToSplit 14 = .ok (.ireturn, 1) := by decide +kernel
theorem dX4_firstToSplit_15 : decode cX4_firstToSplit 15 = .ok (.iconst 0, 1) := by decide +kernel
theorem dX4_firstToSplit_16 : decode cX4_firstToSplit 16 = .ok (.istore_n 1, 1) := by decide +kernel
theorem dX4_firstToSplit_17 : decode cX4_firstToSplit 17 = .ok (.iload_n 1, 1) := by decide +kernel
theorem dX4_firstToSplit_18 : decode cX4_firstToSplit 18 = .ok (.bipush 40, 2) := by decide +kernel
theorem dX4_firstToSplit_20 : decode cX4_firstToSplit 20 = .ok (.if_icmp .ge 56, 3) := by decide +kernel
theorem dX4_firstToSplit_23 : decode cX4_firstToSplit 23 = .ok (.aload_n 0, 1) := by decide +kernel
theorem dX4_firstToSplit_24 : decode cX4_firstToSplit 24 = .ok (.getfield 28, 3) := by decide +kernel
theorem dX4_firstToSplit_27 : decode cX4_firstToSplit 27 = .ok (.iload_n 1, 1) := by decide +kernel
theorem dX4_firstToSplit_28 : decode cX4_firstToSplit 28 = .ok (.invokevirtual 108, 3) := by decide +kernel
theorem dX4_firstToSplit_31 : decode cX4_firstToSplit 31 = .ok (.ifCond .eq 19, 3) := by decide +kernel
theorem dX4_firstToSplit_34 : decode cX4_firstToSplit 34 = .ok (.aload_n 0, 1) := by decide +kernel
theorem dX4_firstToSplit_35 : decode cX4_firstToSplit 35 = .ok (.getfield 28, 3) := by decide +kernel
theorem dX4_firstToSplit_38 : decode cX4_firstToSplit 38 = .ok (.iload_n 1, 1) := by decide +kernel
theorem dX4_firstToSplit_39 : decode cX4_firstToSplit 39 = .ok (.invokevirtual 109, 3) := by decide +kernel
theorem dX4_firstToSplit_42 : decode cX4_firstToSplit 42 = .ok (.iconst 4, 1) := by decide +kernel
theorem dX4_firstToSplit_43 : decode cX4_firstToSplit 43 = .ok (.if_icmp .ge 7, 3) := by decide +kernel
theorem dX4_firstToSplit_46 : decode cX4_firstToSplit 46 = .ok (.iconst 1, 1) := by decide +kernel
theorem dX4_firstToSplit_47 : decode cX4_firstToSplit 47 = .ok (.goto 4, 3) := by decide +kernel
theorem dX4_firstToSplit_50 : decode cX4_firstToSplit 50 = .ok (.iconst 0, 1) := by decide +kernel
theorem dX4_firstToSplit_51 : decode cX4_firstToSplit 51 = .ok (.istore_n 2, 1) := by decide +kernel
theorem dX4_firstToSplit_52 : decode cX4_firstToSplit 52 = .ok (.iload_n 2, 1) := by decide +kernel
theorem dX4_firstToSplit_53 : decode cX4_firstToSplit 53 = .ok (.ifCond .eq 17, 3) := by decide +kernel
theorem dX4_firstToSplit_56 : decode cX4_firstToSplit 56 = .ok (.aload_n 0, 1) := by decide +kernel
theorem dX4_firstToSplit_57 : decode cX4_firstToSplit 57 = .ok (.iload_n 1, 1) := by decide +kernel
theorem dX4_firstToSplit_58 : decode cX4_firstToSplit 58 = .ok (.invokevirtual 112, 3) := by decide +kernel
theorem dX4_firstToSplit_61 : decode cX4_firstToSplit 61 = .ok (.aload_n 0, 1) := by decide +kernel
theorem dX4_firstToSplit_62 : decode cX4_firstToSplit 62 = .ok (.getfield 9, 3) := by decide +kernel
theorem dX4_firstToSplit_65 : decode cX4_firstToSplit 65 = .ok (.if_icmp .le 5, 3) := by decide +kernel
theorem dX4_firstToSplit_68 : decode cX4_firstToSplit 68 = .ok (.iload_n 1, 1) := by decide +kernel
theorem dX4_firstToSplit_69 : decode cX4_firstToSplit 69 = .ok (.ireturn, 1) := by decide +kernel
theorem dX4_firstToSplit_70 : decode cX4_firstToSplit 70 = .ok (.iinc 1 1, 3) := by decide +kernel
theorem dX4_firstToSplit_73 : decode cX4_firstToSplit 73 = .ok (.goto (-56), 3) := by decide +kernel
theorem dX4_firstToSplit_76 : decode cX4_firstToSplit 76 = .ok (.bipush (-9), 2) := by decide +kernel
theorem dX4_firstToSplit_78 : decode cX4_firstToSplit 78 = .ok (.ireturn, 1) := by decide +kernel
theorem dX4_splitCell_0 : decode cX4_splitCell 0 = .ok (.aload_n 0, 1) := by decide +kernel
theorem dX4_splitCell_1 : decode cX4_splitCell 1 = .ok (.getfield 28, 3) := by decide +kernel
theorem dX4_splitCell_4 : decode cX4_splitCell 4 = .ok (.iload_n 1, 1) := by decide +kernel
theorem dX4_splitCell_5 : decode cX4_splitCell 5 = .ok (.invokevirtual 78, 3) := by decide +kernel
theorem dX4_splitCell_8 : decode cX4_splitCell 8 = .ok (.istore_n 2, 1) := by decide +kernel
theorem dX4_splitCell_9 : decode cX4_splitCell 9 = .ok (.aload_n 0, 1) := by decide +kernel
theorem dX4_splitCell_10 : decode cX4_splitCell 10 = .ok (.getfield 28, 3) := by decide +kernel
theorem dX4_splitCell_13 : decode cX4_splitCell 13 = .ok (.iload_n 1, 1) := by decide +kernel
theorem dX4_splitCell_14 : decode cX4_splitCell 14 = .ok (.invokevirtual 81, 3) := by decide +kernel
theorem dX4_splitCell_17 : decode cX4_splitCell 17 = .ok (.istore_n 3, 1) := by decide +kernel
theorem dX4_splitCell_18 : decode cX4_splitCell 18 = .ok (.aload_n 0, 1) := by decide +kernel
theorem dX4_splitCell_19 : decode cX4_splitCell 19 = .ok (.getfield 28, 3) := by decide +kernel
theorem dX4_splitCell_22 : decode cX4_splitCell 22 = .ok (.iload_n 1, 1) := by decide +kernel
theorem dX4_splitCell_23 : decode cX4_splitCell 23 = .ok (.invokevirtual 109, 3) := by decide +kernel
theorem dX4_splitCell_26 : decode cX4_splitCell 26 = .ok (.iconst 1, 1) := by decide +kernel
theorem dX4_splitCell_27 : decode cX4_splitCell 27 = .ok (.iadd, 1) := by decide +kernel
theorem dX4_splitCell_28 : decode cX4_splitCell 28 = .ok (.istore 4, 2) := by decide +kernel
theorem dX4_splitCell_30 : decode cX4_splitCell 30 = .ok (.iload 4, 2) := by decide +kernel
theorem dX4_splitCell_32 : decode cX4_splitCell 32 = .ok (.invokestatic 115, 3) := by decide +kernel
theorem dX4_splitCell_35 : decode cX4_splitCell 35 = .ok (.istore 5, 2) := by decide +kernel
theorem dX4_splitCell_37 : decode cX4_splitCell 37 = .ok (.aload_n 0, 1) := by decide +kernel
theorem dX4_splitCell_38 : decode cX4_splitCell 38 = .ok (.iload_n 2, 1) := by decide +kernel
theorem dX4_splitCell_39 : decode cX4_splitCell 39 = .ok (.iload_n 3, 1) := by decide +kernel
theorem dX4_splitCell_40 : decode cX4_splitCell 40 = .ok (.iload 5, 2) := by decide +kernel
theorem dX4_splitCell_42 : decode cX4_splitCell 42 = .ok (.invokevirtual 118, 3) := by decide +kernel
theorem dX4_splitCell_45 : decode cX4_splitCell 45 = .ok (.istore 6, 2) := by decide +kernel
theorem dX4_splitCell_47 : decode cX4_splitCell 47 = .ok (.iconst 0, 1) := by decide +kernel
theorem dX4_splitCell_48 : decode cX4_splitCell 48 = .ok (.istore 7, 2) := by decide +kernel
theorem dX4_splitCell_50 : decode cX4_splitCell 50 = .ok (.iload 7, 2) := by decide +kernel
theorem dX4_splitCell_52 : decode cX4_splitCell 52 = .ok (.iconst 4, 1) := by decide +kernel
theorem dX4_splitCell_53 : decode cX4_splitCell 53 = .ok (.if_icmp .ge 39, 3) := by decide +kernel
theorem dX4_splitCell_56 : decode cX4_splitCell 56 = .ok (.iload 7, 2) := by decide +kernel
theorem dX4_splitCell_58 : decode cX4_splitCell 58 = .ok (.iload 6, 2) := by decide +kernel
theorem dX4_splitCell_60 : decode cX4_splitCell 60 = .ok (.if_icmp .eq 26, 3) := by decide +kernel
theorem dX4_splitCell_63 : decode cX4_splitCell 63 = .ok (.aload_n 0, 1) := by decide +kernel
theorem dX4_splitCell_64 : decode cX4_splitCell 64 = .ok (.iload_n 2, 1) := by decide +kernel
theorem dX4_splitCell_65 : decode cX4_splitCell 65 = .ok (.iload 5, 2) := by decide +kernel
theorem dX4_splitCell_67 : decode cX4_splitCell 67 = .ok (.iload 7, 2) := by decide +kernel
theorem dX4_splitCell_69 : decode cX4_splitCell 69 = .ok (.invokestatic 122, 3) := by decide +kernel
theorem dX4_splitCell_72 : decode cX4_splitCell 72 = .ok (.iload_n 3, 1) := by decide +kernel
theorem dX4_splitCell_73 : decode cX4_splitCell 73 = .ok (.iload 5, 2) := by decide +kernel
theorem dX4_splitCell_75 : decode cX4_splitCell 75 = .ok (.iload 7, 2) := by decide +kernel
theorem dX4_splitCell_77 : decode cX4_splitCell 77 = .ok (.invokestatic 125, 3) := by decide +kernel
theorem dX4_splitCell_80 : decode cX4_splitCell 80 = .ok (.iload 4, 2) := by decide +kernel
theorem dX4_splitCell_82 : decode cX4_splitCell 82 = .ok (.iload_n 1, 1) := by decide +kernel
theorem dX4_splitCell_83 : decode cX4_splitCell 83 = .ok (.invokevirtual 128, 3) := by decide +kernel
theorem dX4_splitCell_86 : decode cX4_splitCell 86 = .ok (.iinc 7 1, 3) := by decide +kernel
theorem dX4_splitCell_89 : decode cX4_splitCell 89 = .ok (.goto (-39), 3) := by decide +kernel
theorem dX4_splitCell_92 : decode cX4_splitCell 92 = .ok (.aload_n 0, 1) := by decide +kernel
theorem dX4_splitCell_93 : decode cX4_splitCell 93 = .ok (.getfield 28, 3) := by decide +kernel
theorem dX4_splitCell_96 : decode cX4_splitCell 96 = .ok (.iload_n 1, 1) := by decide +kernel
theorem dX4_splitCell_97 : decode cX4_splitCell 97 = .ok (.iload_n 2, 1) := by decide +kernel
theorem dX4_splitCell_98 : decode cX4_splitCell 98 = .ok (.iload 5, 2) := by decide +kernel
theorem dX4_splitCell_100 : decode cX4_splitCell 100 = .ok (.iload 6, 2) := by decide +kernel
theorem dX4_splitCell_102 : decode cX4_splitCell 102 = .ok (.invokestatic 122, 3) := by decide +kernel
theorem dX4_splitCell_105 : decode cX4_splitCell 105 = .ok (.iload_n 3, 1) := by decide +kernel
theorem dX4_splitCell_106 : decode cX4_splitCell 106 = .ok (.iload 5, 2) := by decide +kernel
theorem dX4_splitCell_108 : decode cX4_splitCell 108 = .ok (.iload 6, 2) := by decide +kernel
theorem dX4_splitCell_110 : decode cX4_splitCell 110 = .ok (.invokestatic 125, 3) := by decide +kernel
theorem dX4_splitCell_113 : decode cX4_splitCell 113 = .ok (.iload 4, 2) := by decide +kernel
theorem dX4_splitCell_115 : decode cX4_splitCell 115 = .ok (.invokevirtual 132, 3) := by decide +kernel
theorem dX4_splitCell_118 : decode cX4_splitCell 118 = .ok (.return_, 1) := by decide +kernel
theorem dX4_fullestQuarter_0 : decode cX4_fullestQuarter 0 = .ok (.iconst 0, 1) := by decide +kernel
theorem dX4_fullestQuarter_1 : decode cX4_fullestQuarter 1 = .ok (.istore 4, 2) := by decide +kernel
theorem dX4_fullestQuarter_3 : decode cX4_fullestQuarter 3 = .ok (.iconst (-1), 1) := by decide +kernel
theorem dX4_fullestQuarter_4 : decode cX4_fullestQuarter 4 = .ok (.istore 5, 2) := by decide +kernel
theorem dX4_fullestQuarter_6 : decode cX4_fullestQuarter 6 = .ok (.iconst 0, 1) := by decide +kernel
theorem dX4_fullestQuarter_7 : decode cX4_fullestQuarter 7 = .ok (.istore 6, 2) := by decide +kernel
theorem dX4_fullestQuarter_9 : decode cX4_fullestQuarter 9 = .ok (.iload 6, 2) := by decide +kernel
theorem dX4_fullestQuarter_11 : decode cX4_fullestQuarter 11 = .ok (.iconst 4, 1) := by decide +kernel
theorem dX4_fullestQuarter_12 : decode cX4_fullestQuarter 12 = .ok (.if_icmp .ge 67, 3) := by decide +kernel
theorem dX4_fullestQuarter_15 : decode cX4_fullestQuarter 15 = .ok (.iload_n 1, 1) := by decide +kernel
theorem dX4_fullestQuarter_16 : decode cX4_fullestQuarter 16 = .ok (.iload_n 3, 1) := by decide +kernel
theorem dX4_fullestQuarter_17 : decode cX4_fullestQuarter 17 = .ok (.iload 6, 2) := by decide +kernel
theorem dX4_fullestQuarter_19 : decode cX4_fullestQuarter 19 = .ok (.invokestatic 122, 3) := by decide +kernel
theorem dX4_fullestQuarter_22 : decode cX4_fullestQuarter 22 = .ok (.istore 7, 2) := by decide +kernel
theorem dX4_fullestQuarter_24 : decode cX4_fullestQuarter 24 = .ok (.iload_n 2, 1) := by decide +kernel
theorem dX4_fullestQuarter_25 : decode cX4_fullestQuarter 25 = .ok (.iload_n 3, 1) := by decide +kernel
theorem dX4_fullestQuarter_26 : decode cX4_fullestQuarter 26 = .ok (.iload 6, 2) := by decide +kernel
theorem dX4_fullestQuarter_28 : decode cX4_fullestQuarter 28 = .ok (.invokestatic 125, 3) := by decide +kernel
theorem dX4_fullestQuarter_31 : decode cX4_fullestQuarter 31 = .ok (.istore 8, 2) := by decide +kernel
theorem dX4_fullestQuarter_33 : decode cX4_fullestQuarter 33 = .ok (.aload_n 0, 1) := by decide +kernel
theorem dX4_fullestQuarter_34 : decode cX4_fullestQuarter 34 = .ok (.getfield 21, 3) := by decide +kernel
theorem dX4_fullestQuarter_37 : decode cX4_fullestQuarter 37 = .ok (.iload 7, 2) := by decide +kernel
theorem dX4_fullestQuarter_39 : decode cX4_fullestQuarter 39 = .ok (.iload 8, 2) := by decide +kernel
theorem dX4_fullestQuarter_41 : decode cX4_fullestQuarter 41 = .ok (.iload 7, 2) := by decide +kernel
theorem dX4_fullestQuarter_43 : decode cX4_fullestQuarter 43 = .ok (.iload_n 3, 1) := by decide +kernel
theorem dX4_fullestQuarter_44 : decode cX4_fullestQuarter 44 = .ok (.iadd, 1) := by decide +kernel
theorem dX4_fullestQuarter_45 : decode cX4_fullestQuarter 45 = .ok (.iconst 1, 1) := by decide +kernel
theorem dX4_fullestQuarter_46 : decode cX4_fullestQuarter 46 = .ok (.isub, 1) := by decide +kernel
theorem dX4_fullestQuarter_47 : decode cX4_fullestQuarter 47 = .ok (.iload 8, 2) := by decide +kernel
theorem dX4_fullestQuarter_49 : decode cX4_fullestQuarter 49 = .ok (.iload_n 3, 1) := by decide +kernel
theorem dX4_fullestQuarter_50 : decode cX4_fullestQuarter 50 = .ok (.iadd, 1) := by decide +kernel
theorem dX4_fullestQuarter_51 : decode cX4_fullestQuarter 51 = .ok (.iconst 1, 1) := by decide +kernel
theorem dX4_fullestQuarter_52 : decode cX4_fullestQuarter 52 = .ok (.isub, 1) := by decide +kernel
theorem dX4_fullestQuarter_53 : decode cX4_fullestQuarter 53 = .ok (.invokevirtual 90, 3) := by decide +kernel
theorem dX4_fullestQuarter_56 : decode cX4_fullestQuarter 56 = .ok (.istore 9, 2) := by decide +kernel
theorem dX4_fullestQuarter_58 : decode cX4_fullestQuarter 58 = .ok (.iload 9, 2) := by decide +kernel
theorem dX4_fullestQuarter_60 : decode cX4_fullestQuarter 60 = .ok (.iload 5, 2) := by decide +kernel
theorem dX4_fullestQuarter_62 : decode cX4_fullestQuarter 62 = .ok (.if_icmp .le 11, 3) := by decide +kernel
theorem dX4_fullestQuarter_65 : decode cX4_fullestQuarter 65 = .ok (.iload 6, 2) := by decide +kernel
theorem dX4_fullestQuarter_67 : decode cX4_fullestQuarter 67 = .ok (.istore 4, 2) := by decide +kernel
theorem dX4_fullestQuarter_69 : decode cX4_fullestQuarter 69 = .ok (.iload 9, 2) := by decide +kernel
theorem dX4_fullestQuarter_71 : decode cX4_fullestQuarter 71 = .ok (.istore 5, 2) := by decide +kernel
theorem dX4_fullestQuarter_73 : decode cX4_fullestQuarter 73 = .ok (.iinc 6 1, 3) := by decide +kernel
theorem dX4_fullestQuarter_76 : decode cX4_fullestQuarter 76 = .ok (.goto (-67), 3) := by decide +kernel
theorem dX4_fullestQuarter_79 : decode cX4_fullestQuarter 79 = .ok (.iload 4, 2) := by decide +kernel
theorem dX4_fullestQuarter_81 : decode cX4_fullestQuarter 81 = .ok (.ireturn, 1) := by decide +kernel
theorem dX4_foundIn_0 : decode cX4_foundIn 0 = .ok (.aload_n 0, 1) := by decide +kernel
theorem dX4_foundIn_1 : decode cX4_foundIn 1 = .ok (.getfield 28, 3) := by decide +kernel
theorem dX4_foundIn_4 : decode cX4_foundIn 4 = .ok (.iload_n 1, 1) := by decide +kernel
theorem dX4_foundIn_5 : decode cX4_foundIn 5 = .ok (.iload_n 2, 1) := by decide +kernel
theorem dX4_foundIn_6 : decode cX4_foundIn 6 = .ok (.iload_n 3, 1) := by decide +kernel
theorem dX4_foundIn_7 : decode cX4_foundIn 7 = .ok (.invokevirtual 135, 3) := by decide +kernel
theorem dX4_foundIn_10 : decode cX4_foundIn 10 = .ok (.istore 5, 2) := by decide +kernel
theorem dX4_foundIn_12 : decode cX4_foundIn 12 = .ok (.aload_n 0, 1) := by decide +kernel
theorem dX4_foundIn_13 : decode cX4_foundIn 13 = .ok (.getfield 28, 3) := by decide +kernel
theorem dX4_foundIn_16 : decode cX4_foundIn 16 = .ok (.iload 5, 2) := by decide +kernel
theorem dX4_foundIn_18 : decode cX4_foundIn 18 = .ok (.invokevirtual 84, 3) := by decide +kernel
theorem dX4_foundIn_21 : decode cX4_foundIn 21 = .ok (.istore 6, 2) := by decide +kernel
theorem dX4_foundIn_23 : decode cX4_foundIn 23 = .ok (.aload_n 0, 1) := by decide +kernel
theorem dX4_foundIn_24 : decode cX4_foundIn 24 = .ok (.getfield 28, 3) := by decide +kernel
theorem dX4_foundIn_27 : decode cX4_foundIn 27 = .ok (.iload 5, 2) := by decide +kernel
theorem dX4_foundIn_29 : decode cX4_foundIn 29 = .ok (.invokevirtual 87, 3) := by decide +kernel
theorem dX4_foundIn_32 : decode cX4_foundIn 32 = .ok (.istore 7, 2) := by decide +kernel
theorem dX4_foundIn_34 : decode cX4_foundIn 34 = .ok (.aload_n 0, 1) := by decide +kernel
theorem dX4_foundIn_35 : decode cX4_foundIn 35 = .ok (.getfield 35, 3) := by decide +kernel
theorem dX4_foundIn_38 : decode cX4_foundIn 38 = .ok (.iload 5, 2) := by decide +kernel
theorem dX4_foundIn_40 : decode cX4_foundIn 40 = .ok (.iload 4, 2) := by decide +kernel
theorem dX4_foundIn_42 : decode cX4_foundIn 42 = .ok (.aload_n 0, 1) := by decide +kernel
theorem dX4_foundIn_43 : decode cX4_foundIn 43 = .ok (.aload_n 0, 1) := by decide +kernel
theorem dX4_foundIn_44 : decode cX4_foundIn 44 = .ok (.getfield 21, 3) := by decide +kernel
theorem dX4_foundIn_47 : decode cX4_foundIn 47 = .ok (.iload_n 1, 1) := by decide +kernel
theorem dX4_foundIn_48 : decode cX4_foundIn 48 = .ok (.iload_n 2, 1) := by decide +kernel
theorem dX4_foundIn_49 : decode cX4_foundIn 49 = .ok (.iload 6, 2) := by decide +kernel
theorem dX4_foundIn_51 : decode cX4_foundIn 51 = .ok (.iload 7, 2) := by decide +kernel
theorem dX4_foundIn_53 : decode cX4_foundIn 53 = .ok (.invokevirtual 90, 3) := by decide +kernel
theorem dX4_foundIn_56 : decode cX4_foundIn 56 = .ok (.invokevirtual 138, 3) := by decide +kernel
theorem dX4_foundIn_59 : decode cX4_foundIn 59 = .ok (.invokevirtual 141, 3) := by decide +kernel
theorem dX4_foundIn_62 : decode cX4_foundIn 62 = .ok (.aload_n 0, 1) := by decide +kernel
theorem dX4_foundIn_63 : decode cX4_foundIn 63 = .ok (.getfield 21, 3) := by decide +kernel
theorem dX4_foundIn_66 : decode cX4_foundIn 66 = .ok (.iload 4, 2) := by decide +kernel
theorem dX4_foundIn_68 : decode cX4_foundIn 68 = .ok (.iload 5, 2) := by decide +kernel
theorem dX4_foundIn_70 : decode cX4_foundIn 70 = .ok (.iload_n 1, 1) := by decide +kernel
theorem dX4_foundIn_71 : decode cX4_foundIn 71 = .ok (.iload_n 2, 1) := by decide +kernel
theorem dX4_foundIn_72 : decode cX4_foundIn 72 = .ok (.iload 6, 2) := by decide +kernel
theorem dX4_foundIn_74 : decode cX4_foundIn 74 = .ok (.iload 7, 2) := by decide +kernel
theorem dX4_foundIn_76 : decode cX4_foundIn 76 = .ok (.invokevirtual 144, 3) := by decide +kernel
theorem dX4_foundIn_79 : decode cX4_foundIn 79 = .ok (.return_, 1) := by decide +kernel
theorem dX4_titheOf_0 : decode cX4_titheOf 0 = .ok (.aload_n 0, 1) := by decide +kernel
theorem dX4_titheOf_1 : decode cX4_titheOf 1 = .ok (.getfield 15, 3) := by decide +kernel
theorem dX4_titheOf_4 : decode cX4_titheOf 4 = .ok (.ifCond .le 19, 3) := by decide +kernel
theorem dX4_titheOf_7 : decode cX4_titheOf 7 = .ok (.iload_n 1, 1) := by decide +kernel
theorem dX4_titheOf_8 : decode cX4_titheOf 8 = .ok (.aload_n 0, 1) := by decide +kernel
theorem dX4_titheOf_9 : decode cX4_titheOf 9 = .ok (.getfield 15, 3) := by decide +kernel
theorem dX4_titheOf_12 : decode cX4_titheOf 12 = .ok (.iadd, 1) := by decide +kernel
theorem dX4_titheOf_13 : decode cX4_titheOf 13 = .ok (.iconst 1, 1) := by decide +kernel
theorem dX4_titheOf_14 : decode cX4_titheOf 14 = .ok (.isub, 1) := by decide +kernel
theorem dX4_titheOf_15 : decode cX4_titheOf 15 = .ok (.aload_n 0, 1) := by decide +kernel
theorem dX4_titheOf_16 : decode cX4_titheOf 16 = .ok (.getfield 15, 3) := by decide +kernel
theorem dX4_titheOf_19 : decode cX4_titheOf 19 = .ok (.idiv, 1) := by decide +kernel
theorem dX4_titheOf_20 : decode cX4_titheOf 20 = .ok (.goto 4, 3) := by decide +kernel
theorem dX4_titheOf_23 : decode cX4_titheOf 23 = .ok (.iconst 0, 1) := by decide +kernel
theorem dX4_titheOf_24 : decode cX4_titheOf 24 = .ok (.ireturn, 1) := by decide +kernel
theorem dX4_payTithes_0 : decode cX4_payTithes 0 = .ok (.iconst 0, 1) := by decide +kernel
theorem dX4_payTithes_1 : decode cX4_payTithes 1 = .ok (.istore_n 2, 1) := by decide +kernel
theorem dX4_payTithes_2 : decode cX4_payTithes 2 = .ok (.iconst 0, 1) := by decide +kernel
theorem dX4_payTithes_3 : decode cX4_payTithes 3 = .ok (.istore_n 3, 1) := by decide +kernel
theorem dX4_payTithes_4 : decode cX4_payTithes 4 = .ok (.iload_n 3, 1) := by decide +kernel
theorem dX4_payTithes_5 : decode cX4_payTithes 5 = .ok (.bipush 40, 2) := by decide +kernel
theorem dX4_payTithes_7 : decode cX4_payTithes 7 = .ok (.if_icmp .ge 102, 3) := by decide +kernel
theorem dX4_payTithes_10 : decode cX4_payTithes 10 = .ok (.aload_n 0, 1) := by decide +kernel
theorem dX4_payTithes_11 : decode cX4_payTithes 11 = .ok (.getfield 35, 3) := by decide +kernel
theorem dX4_payTithes_14 : decode cX4_payTithes 14 = .ok (.iload_n 1, 1) := by decide +kernel
theorem dX4_payTithes_15 : decode cX4_payTithes 15 = .ok (.invokevirtual 148, 3) := by decide +kernel
theorem dX4_payTithes_18 : decode cX4_payTithes 18 = .ok (.istore 4, 2) := by decide +kernel
theorem dX4_payTithes_20 : decode cX4_payTithes 20 = .ok (.aload_n 0, 1) := by decide +kernel
theorem dX4_payTithes_21 : decode cX4_payTithes 21 = .ok (.getfield 21, 3) := by decide +kernel
theorem dX4_payTithes_24 : decode cX4_payTithes 24 = .ok (.iload_n 1, 1) := by decide +kernel
theorem dX4_payTithes_25 : decode cX4_payTithes 25 = .ok (.aload_n 0, 1) := by decide +kernel
theorem dX4_payTithes_26 : decode cX4_payTithes 26 = .ok (.getfield 28, 3) := by decide +kernel
theorem dX4_payTithes_29 : decode cX4_payTithes 29 = .ok (.iload_n 1, 1) := by decide +kernel
theorem dX4_payTithes_30 : decode cX4_payTithes 30 = .ok (.invokevirtual 78, 3) := by decide +kernel
theorem dX4_payTithes_33 : decode cX4_payTithes 33 = .ok (.aload_n 0, 1) := by decide +kernel
theorem dX4_payTithes_34 : decode cX4_payTithes 34 = .ok (.getfield 28, 3) := by decide +kernel
theorem dX4_payTithes_37 : decode cX4_payTithes 37 = .ok (.iload_n 1, 1) := by decide +kernel
theorem dX4_payTithes_38 : decode cX4_payTithes 38 = .ok (.invokevirtual 81, 3) := by decide +kernel
theorem dX4_payTithes_41 : decode cX4_payTithes 41 = .ok (.aload_n 0, 1) := by decide +kernel
theorem dX4_payTithes_42 : decode cX4_payTithes 42 = .ok (.getfield 28, 3) := by decide +kernel
theorem dX4_payTithes_45 : decode cX4_payTithes 45 = .ok (.iload_n 1, 1) := by decide +kernel
theorem dX4_payTithes_46 : decode cX4_payTithes 46 = .ok (.invokevirtual 84, 3) := by decide +kernel
theorem dX4_payTithes_49 : decode cX4_payTithes 49 = .ok (.aload_n 0, 1) := by decide +kernel
theorem dX4_payTithes_50 : decode cX4_payTithes 50 = .ok (.getfield 28, 3) := by decide +kernel
theorem dX4_payTithes_53 : decode cX4_payTithes 53 = .ok (.iload_n 1, 1) := by decide +kernel
theorem dX4_payTithes_54 : decode cX4_payTithes 54 = .ok (.invokevirtual 87, 3) := by decide +kernel
theorem dX4_payTithes_57 : decode cX4_payTithes 57 = .ok (.invokevirtual 151, 3) := by decide +kernel
theorem dX4_payTithes_60 : decode cX4_payTithes 60 = .ok (.istore 5, 2) := by decide +kernel
theorem dX4_payTithes_62 : decode cX4_payTithes 62 = .ok (.iload 4, 2) := by decide +kernel
theorem dX4_payTithes_64 : decode cX4_payTithes 64 = .ok (.bipush (-9), 2) := by decide +kernel
theorem dX4_payTithes_66 : decode cX4_payTithes 66 = .ok (.if_icmp .eq 10, 3) := by decide +kernel
theorem dX4_payTithes_69 : decode cX4_payTithes 69 = .ok (.iload 5, 2) := by decide +kernel
theorem dX4_payTithes_71 : decode cX4_payTithes 71 = .ok (.bipush (-9), 2) := by decide +kernel
theorem dX4_payTithes_73 : decode cX4_payTithes 73 = .ok (.if_icmp .ne 5, 3) := by decide +kernel
theorem dX4_payTithes_76 : decode cX4_payTithes 76 = .ok (.iload_n 2, 1) := by decide +kernel
theorem dX4_payTithes_77 : decode cX4_payTithes 77 = .ok (.ireturn, 1) := by decide +kernel
theorem dX4_payTithes_78 : decode cX4_payTithes 78 = .ok (.aload_n 0, 1) := by decide +kernel
theorem dX4_payTithes_79 : decode cX4_payTithes 79 = .ok (.getfield 21, 3) := by decide +kernel
theorem dX4_payTithes_82 : decode cX4_payTithes 82 = .ok (.iload 5, 2) := by decide +kernel
theorem dX4_payTithes_84 : decode cX4_payTithes 84 = .ok (.iload 4, 2) := by decide +kernel
theorem dX4_payTithes_86 : decode cX4_payTithes 86 = .ok (.invokevirtual 68, 3) := by decide +kernel
theorem dX4_payTithes_89 : decode cX4_payTithes 89 = .ok (.aload_n 0, 1) := by decide +kernel
theorem dX4_payTithes_90 : decode cX4_payTithes 90 = .ok (.getfield 35, 3) := by decide +kernel
theorem dX4_payTithes_93 : decode cX4_payTithes 93 = .ok (.iload_n 1, 1) := by decide +kernel
theorem dX4_payTithes_94 : decode cX4_payTithes 94 = .ok (.iload 4, 2) := by decide +kernel
theorem dX4_payTithes_96 : decode cX4_payTithes 96 = .ok (.iconst (-1), 1) := by decide +kernel
theorem dX4_payTithes_97 : decode cX4_payTithes 97 = .ok (.invokevirtual 141, 3) := by decide +kernel
theorem dX4_payTithes_100 : decode cX4_payTithes 100 = .ok (.iinc 2 1, 3) := by decide +kernel
theorem dX4_payTithes_103 : decode cX4_payTithes 103 = .ok (.iinc 3 1, 3) := by decide +kernel
theorem dX4_payTithes_106 : decode cX4_payTithes 106 = .ok (.goto (-102), 3) := by decide +kernel
theorem dX4_payTithes_109 : decode cX4_payTithes 109 = .ok (.iload_n 2, 1) := by decide +kernel
theorem dX4_payTithes_110 : decode cX4_payTithes 110 = .ok (.ireturn, 1) := by decide +kernel
theorem dX4_payablePoints_0 : decode cX4_payablePoints 0 = .ok (.iconst 0, 1) := by decide +kernel
theorem dX4_payablePoints_1 : decode cX4_payablePoints 1 = .ok (.istore_n 2, 1) := by decide +kernel
theorem dX4_payablePoints_2 : decode cX4_payablePoints 2 = .ok (.iconst 0, 1) := by decide +kernel
theorem dX4_payablePoints_3 : decode cX4_payablePoints 3 = .ok (.istore_n 3, 1) := by decide +kernel
theorem dX4_payablePoints_4 : decode cX4_payablePoints 4 = .ok (.iload_n 3, 1) := by decide +kernel
theorem dX4_payablePoints_5 : decode cX4_payablePoints 5 = .ok (.bipush 40, 2) := by decide +kernel
theorem dX4_payablePoints_7 : decode cX4_payablePoints 7 = .ok (.if_icmp .ge 33, 3) := by decide +kernel
theorem dX4_payablePoints_10 : decode cX4_payablePoints 10 = .ok (.aload_n 0, 1) := by decide +kernel
theorem dX4_payablePoints_11 : decode cX4_payablePoints 11 = .ok (.getfield 21, 3) := by decide +kernel
theorem dX4_payablePoints_14 : decode cX4_payablePoints 14 = .ok (.iload_n 3, 1) := by decide +kernel
theorem dX4_payablePoints_15 : decode cX4_payablePoints 15 = .ok (.invokevirtual 57, 3) := by decide +kernel
theorem dX4_payablePoints_18 : decode cX4_payablePoints 18 = .ok (.iload_n 1, 1) := by decide +kernel
theorem dX4_payablePoints_19 : decode cX4_payablePoints 19 = .ok (.if_icmp .ne 15, 3) := by decide +kernel
theorem dX4_payablePoints_22 : decode cX4_payablePoints 22 = .ok (.aload_n 0, 1) := by decide +kernel
theorem dX4_payablePoints_23 : decode cX4_payablePoints 23 = .ok (.iload_n 3, 1) := by decide +kernel
theorem dX4_payablePoints_24 : decode cX4_payablePoints 24 = .ok (.invokevirtual 61, 3) := by decide +kernel
theorem dX4_payablePoints_27 : decode cX4_payablePoints 27 = .ok (.iload_n 1, 1) := by decide +kernel
theorem dX4_payablePoints_28 : decode cX4_payablePoints 28 = .ok (.if_icmp .ne 6, 3) := by decide +kernel
theorem dX4_payablePoints_31 : decode cX4_payablePoints 31 = .ok (.iinc 2 1, 3) := by decide +kernel
theorem dX4_payablePoints_34 : decode cX4_payablePoints 34 = .ok (.iinc 3 1, 3) := by decide +kernel
theorem dX4_payablePoints_37 : decode cX4_payablePoints 37 = .ok (.goto (-33), 3) := by decide +kernel
theorem dX4_payablePoints_40 : decode cX4_payablePoints 40 = .ok (.iload_n 2, 1) := by decide +kernel
theorem dX4_payablePoints_41 : decode cX4_payablePoints 41 = .ok (.aload_n 0, 1) := by decide +kernel
theorem dX4_payablePoints_42 : decode cX4_payablePoints 42 = .ok (.getfield 35, 3) := by decide +kernel
theorem dX4_payablePoints_45 : decode cX4_payablePoints 45 = .ok (.iload_n 1, 1) := by decide +kernel
theorem dX4_payablePoints_46 : decode cX4_payablePoints 46 = .ok (.invokevirtual 155, 3) := by decide +kernel
theorem dX4_payablePoints_49 : decode cX4_payablePoints 49 = .ok (.invokestatic 158, 3) := by decide +kernel
theorem dX4_payablePoints_52 : decode cX4_payablePoints 52 = .ok (.ireturn, 1) := by decide +kernel
theorem dX4_canJoin_0 : decode cX4_canJoin 0 = .ok (.aload_n 0, 1) := by decide +kernel
theorem dX4_canJoin_1 : decode cX4_canJoin 1 = .ok (.getfield 28, 3) := by decide +kernel
theorem dX4_canJoin_4 : decode cX4_canJoin 4 = .ok (.iload_n 1, 1) := by decide +kernel
theorem dX4_canJoin_5 : decode cX4_canJoin 5 = .ok (.invokevirtual 109, 3) := by decide +kernel
theorem dX4_canJoin_8 : decode cX4_canJoin 8 = .ok (.istore_n 2, 1) := by decide +kernel
theorem dX4_canJoin_9 : decode cX4_canJoin 9 = .ok (.iload_n 2, 1) := by decide +kernel
theorem dX4_canJoin_10 : decode cX4_canJoin 10 = .ok (.iconst 1, 1) := by decide +kernel
theorem dX4_canJoin_11 : decode cX4_canJoin 11 = .ok (.if_icmp .ge 5, 3) := by decide +kernel
theorem dX4_canJoin_14 : decode cX4_canJoin 14 = .ok (.iconst 0, 1) := by decide +kernel
theorem dX4_canJoin_15 : decode cX4_canJoin 15 = .ok (.ireturn, 1) := by decide +kernel
theorem dX4_canJoin_16 : decode cX4_canJoin 16 = .ok (.aload_n 0, 1) := by decide +kernel
theorem dX4_canJoin_17 : decode cX4_canJoin 17 = .ok (.iload_n 1, 1) := by decide +kernel
theorem dX4_canJoin_18 : decode cX4_canJoin 18 = .ok (.invokevirtual 163, 3) := by decide +kernel
theorem dX4_canJoin_21 : decode cX4_canJoin 21 = .ok (.istore_n 3, 1) := by decide +kernel
theorem dX4_canJoin_22 : decode cX4_canJoin 22 = .ok (.aload_n 0, 1) := by decide +kernel
theorem dX4_canJoin_23 : decode cX4_canJoin 23 = .ok (.iload_n 1, 1) := by decide +kernel
theorem dX4_canJoin_24 : decode cX4_canJoin 24 = .ok (.invokevirtual 166, 3) := by decide +kernel
theorem dX4_canJoin_27 : decode cX4_canJoin 27 = .ok (.istore 4, 2) := by decide +kernel
theorem dX4_canJoin_29 : decode cX4_canJoin 29 = .ok (.iconst 0, 1) := by decide +kernel
theorem dX4_canJoin_30 : decode cX4_canJoin 30 = .ok (.istore 5, 2) := by decide +kernel
theorem dX4_canJoin_32 : decode cX4_canJoin 32 = .ok (.iconst 0, 1) := by decide +kernel
theorem dX4_canJoin_33 : decode cX4_canJoin 33 = .ok (.istore 6, 2) := by decide +kernel
theorem dX4_canJoin_35 : decode cX4_canJoin 35 = .ok (.iload 6, 2) := by decide +kernel
theorem dX4_canJoin_37 : decode cX4_canJoin 37 = .ok (.iconst 4, 1) := by decide +kernel
theorem dX4_canJoin_38 : decode cX4_canJoin 38 = .ok (.if_icmp .ge 47, 3) := by decide +kernel
theorem dX4_canJoin_41 : decode cX4_canJoin 41 = .ok (.aload_n 0, 1) := by decide +kernel
theorem dX4_canJoin_42 : decode cX4_canJoin 42 = .ok (.iload_n 3, 1) := by decide +kernel
theorem dX4_canJoin_43 : decode cX4_canJoin 43 = .ok (.iload 4, 2) := by decide +kernel
theorem dX4_canJoin_45 : decode cX4_canJoin 45 = .ok (.iload_n 2, 1) := by decide +kernel
theorem dX4_canJoin_46 : decode cX4_canJoin 46 = .ok (.iload 6, 2) := by decide +kernel
theorem dX4_canJoin_48 : decode cX4_canJoin 48 = .ok (.invokevirtual 169, 3) := by decide +kernel
theorem dX4_canJoin_51 : decode cX4_canJoin 51 = .ok (.istore 7, 2) := by decide +kernel
theorem dX4_canJoin_53 : decode cX4_canJoin 53 = .ok (.aload_n 0, 1) := by decide +kernel
theorem dX4_canJoin_54 : decode cX4_canJoin 54 = .ok (.getfield 28, 3) := by decide +kernel
theorem dX4_canJoin_57 : decode cX4_canJoin 57 = .ok (.iload 7, 2) := by decide +kernel
theorem dX4_canJoin_59 : decode cX4_canJoin 59 = .ok (.invokevirtual 109, 3) := by decide +kernel
theorem dX4_canJoin_62 : decode cX4_canJoin 62 = .ok (.iload_n 2, 1) := by decide +kernel
theorem dX4_canJoin_63 : decode cX4_canJoin 63 = .ok (.if_icmp .eq 5, 3) := by decide +kernel
theorem dX4_canJoin_66 : decode cX4_canJoin 66 = .ok (.iconst 0, 1) := by decide +kernel
theorem dX4_canJoin_67 : decode cX4_canJoin 67 = .ok (.ireturn, 1) := by decide +kernel
theorem dX4_canJoin_68 : decode cX4_canJoin 68 = .ok (.iload 5, 2) := by decide +kernel
theorem dX4_canJoin_70 : decode cX4_canJoin 70 = .ok (.aload_n 0, 1) := by decide +kernel
theorem dX4_canJoin_71 : decode cX4_canJoin 71 = .ok (.iload 7, 2) := by decide +kernel
theorem dX4_canJoin_73 : decode cX4_canJoin 73 = .ok (.invokevirtual 112, 3) := by decide +kernel
theorem dX4_canJoin_76 : decode cX4_canJoin 76 = .ok (.iadd, 1) := by decide +kernel
theorem dX4_canJoin_77 : decode cX4_canJoin 77 = .ok (.istore 5, 2) := by decide +kernel
theorem dX4_canJoin_79 : decode cX4_canJoin 79 = .ok (.iinc 6 1, 3) := by decide +kernel
theorem dX4_canJoin_82 : decode cX4_canJoin 82 = .ok (.goto (-47), 3) := by decide +kernel
theorem dX4_canJoin_85 : decode cX4_canJoin 85 = .ok (.iload 5, 2) := by decide +kernel
theorem dX4_canJoin_87 : decode cX4_canJoin 87 = .ok (.aload_n 0, 1) := by decide +kernel
theorem dX4_canJoin_88 : decode cX4_canJoin 88 = .ok (.getfield 9, 3) := by decide +kernel
theorem dX4_canJoin_91 : decode cX4_canJoin 91 = .ok (.if_icmp .gt 7, 3) := by decide +kernel
theorem dX4_canJoin_94 : decode cX4_canJoin 94 = .ok (.iconst 1, 1) := by decide +kernel
theorem dX4_canJoin_95 : decode cX4_canJoin 95 = .ok (.goto 4, 3) := by decide +kernel
theorem dX4_canJoin_98 : decode cX4_canJoin 98 = .ok (.iconst 0, 1) := by decide +kernel
theorem dX4_canJoin_99 : decode cX4_canJoin 99 = .ok (.ireturn, 1) := by decide +kernel
theorem dX4_joinQuarters_0 : decode cX4_joinQuarters 0 = .ok (.aload_n 0, 1) := by decide +kernel
theorem dX4_joinQuarters_1 : decode cX4_joinQuarters 1 = .ok (.iload_n 1, 1) := by decide +kernel
theorem dX4_joinQuarters_2 : decode cX4_joinQuarters 2 = .ok (.invokevirtual 163, 3) := by decide +kernel
theorem dX4_joinQuarters_5 : decode cX4_joinQuarters 5 = .ok (.istore_n 2, 1) := by decide +kernel
theorem dX4_joinQuarters_6 : decode cX4_joinQuarters 6 = .ok (.aload_n 0, 1) := by decide +kernel
theorem dX4_joinQuarters_7 : decode cX4_joinQuarters 7 = .ok (.iload_n 1, 1) := by decide +kernel
theorem dX4_joinQuarters_8 : decode cX4_joinQuarters 8 = .ok (.invokevirtual 166, 3) := by decide +kernel
theorem dX4_joinQuarters_11 : decode cX4_joinQuarters 11 = .ok (.istore_n 3, 1) := by decide +kernel
theorem dX4_joinQuarters_12 : decode cX4_joinQuarters 12 = .ok (.aload_n 0, 1) := by decide +kernel
theorem dX4_joinQuarters_13 : decode cX4_joinQuarters 13 = .ok (.getfield 28, 3) := by decide +kernel
theorem dX4_joinQuarters_16 : decode cX4_joinQuarters 16 = .ok (.iload_n 1, 1) := by decide +kernel
theorem dX4_joinQuarters_17 : decode cX4_joinQuarters 17 = .ok (.invokevirtual 109, 3) := by decide +kernel
theorem dX4_joinQuarters_20 : decode cX4_joinQuarters 20 = .ok (.istore 4, 2) := by decide +kernel
theorem dX4_joinQuarters_22 : decode cX4_joinQuarters 22 = .ok (.iload_n 1, 1) := by decide +kernel
theorem dX4_joinQuarters_23 : decode cX4_joinQuarters 23 = .ok (.istore 5, 2) := by decide +kernel
theorem dX4_joinQuarters_25 : decode cX4_joinQuarters 25 = .ok (.iconst 0, 1) := by decide +kernel
theorem dX4_joinQuarters_26 : decode cX4_joinQuarters 26 = .ok (.istore 6, 2) := by decide +kernel
theorem dX4_joinQuarters_28 : decode cX4_joinQuarters 28 = .ok (.iload 6, 2) := by decide +kernel
theorem dX4_joinQuarters_30 : decode cX4_joinQuarters 30 = .ok (.iconst 4, 1) := by decide +kernel
theorem dX4_joinQuarters_31 : decode cX4_joinQuarters 31 = .ok (.if_icmp .ge 26, 3) := by decide +kernel
theorem dX4_joinQuarters_34 : decode cX4_joinQuarters 34 = .ok (.iload 5, 2) := by decide +kernel
theorem dX4_joinQuarters_36 : decode cX4_joinQuarters 36 = .ok (.aload_n 0, 1) := by decide +kernel
theorem dX4_joinQuarters_37 : decode cX4_joinQuarters 37 = .ok (.iload_n 2, 1) := by decide +kernel
theorem dX4_joinQuarters_38 : decode cX4_joinQuarters 38 = .ok (.iload_n 3, 1) := by decide +kernel
theorem dX4_joinQuarters_39 : decode cX4_joinQuarters 39 = .ok (.iload 4, 2) := by decide +kernel
theorem dX4_joinQuarters_41 : decode cX4_joinQuarters 41 = .ok (.iload 6, 2) := by decide +kernel
theorem dX4_joinQuarters_43 : decode cX4_joinQuarters 43 = .ok (.invokevirtual 169, 3) := by decide +kernel
theorem dX4_joinQuarters_46 : decode cX4_joinQuarters 46 = .ok (.invokestatic 158, 3) := by decide +kernel
theorem dX4_joinQuarters_49 : decode cX4_joinQuarters 49 = .ok (.istore 5, 2) := by decide +kernel
theorem dX4_joinQuarters_51 : decode cX4_joinQuarters 51 = .ok (.iinc 6 1, 3) := by decide +kernel
theorem dX4_joinQuarters_54 : decode cX4_joinQuarters 54 = .ok (.goto (-26), 3) := by decide +kernel
theorem dX4_joinQuarters_57 : decode cX4_joinQuarters 57 = .ok (.iconst 0, 1) := by decide +kernel
theorem dX4_joinQuarters_58 : decode cX4_joinQuarters 58 = .ok (.istore 6, 2) := by decide +kernel
theorem dX4_joinQuarters_60 : decode cX4_joinQuarters 60 = .ok (.iload 6, 2) := by decide +kernel
theorem dX4_joinQuarters_62 : decode cX4_joinQuarters 62 = .ok (.iconst 4, 1) := by decide +kernel
theorem dX4_joinQuarters_63 : decode cX4_joinQuarters 63 = .ok (.if_icmp .ge 25, 3) := by decide +kernel
theorem dX4_joinQuarters_66 : decode cX4_joinQuarters 66 = .ok (.aload_n 0, 1) := by decide +kernel
theorem dX4_joinQuarters_67 : decode cX4_joinQuarters 67 = .ok (.aload_n 0, 1) := by decide +kernel
theorem dX4_joinQuarters_68 : decode cX4_joinQuarters 68 = .ok (.iload_n 2, 1) := by decide +kernel
theorem dX4_joinQuarters_69 : decode cX4_joinQuarters 69 = .ok (.iload_n 3, 1) := by decide +kernel
theorem dX4_joinQuarters_70 : decode cX4_joinQuarters 70 = .ok (.iload 4, 2) := by decide +kernel
theorem dX4_joinQuarters_72 : decode cX4_joinQuarters 72 = .ok (.iload 6, 2) := by decide +kernel
theorem dX4_joinQuarters_74 : decode cX4_joinQuarters 74 = .ok (.invokevirtual 169, 3) := by decide +kernel
theorem dX4_joinQuarters_77 : decode cX4_joinQuarters 77 = .ok (.iload 5, 2) := by decide +kernel
theorem dX4_joinQuarters_79 : decode cX4_joinQuarters 79 = .ok (.invokevirtual 172, 3) := by decide +kernel
theorem dX4_joinQuarters_82 : decode cX4_joinQuarters 82 = .ok (.iinc 6 1, 3) := by decide +kernel
theorem dX4_joinQuarters_85 : decode cX4_joinQuarters 85 = .ok (.goto (-25), 3) := by decide +kernel
theorem dX4_joinQuarters_88 : decode cX4_joinQuarters 88 = .ok (.aload_n 0, 1) := by decide +kernel
theorem dX4_joinQuarters_89 : decode cX4_joinQuarters 89 = .ok (.getfield 28, 3) := by decide +kernel
theorem dX4_joinQuarters_92 : decode cX4_joinQuarters 92 = .ok (.iload 5, 2) := by decide +kernel
theorem dX4_joinQuarters_94 : decode cX4_joinQuarters 94 = .ok (.iload_n 2, 1) := by decide +kernel
theorem dX4_joinQuarters_95 : decode cX4_joinQuarters 95 = .ok (.iload_n 3, 1) := by decide +kernel
theorem dX4_joinQuarters_96 : decode cX4_joinQuarters 96 = .ok (.iload 4, 2) := by decide +kernel
theorem dX4_joinQuarters_98 : decode cX4_joinQuarters 98 = .ok (.iconst 1, 1) := by decide +kernel
theorem dX4_joinQuarters_99 : decode cX4_joinQuarters 99 = .ok (.isub, 1) := by decide +kernel
theorem dX4_joinQuarters_100 : decode cX4_joinQuarters 100 = .ok (.invokevirtual 132, 3) := by decide +kernel
theorem dX4_joinQuarters_103 : decode cX4_joinQuarters 103 = .ok (.iload 5, 2) := by decide +kernel
theorem dX4_joinQuarters_105 : decode cX4_joinQuarters 105 = .ok (.ireturn, 1) := by decide +kernel
theorem dX4_absorb_0 : decode cX4_absorb 0 = .ok (.iload_n 1, 1) := by decide +kernel
theorem dX4_absorb_1 : decode cX4_absorb 1 = .ok (.iload_n 2, 1) := by decide +kernel
theorem dX4_absorb_2 : decode cX4_absorb 2 = .ok (.if_icmp .eq 35, 3) := by decide +kernel
theorem dX4_absorb_5 : decode cX4_absorb 5 = .ok (.aload_n 0, 1) := by decide +kernel
theorem dX4_absorb_6 : decode cX4_absorb 6 = .ok (.getfield 21, 3) := by decide +kernel
theorem dX4_absorb_9 : decode cX4_absorb 9 = .ok (.iload_n 1, 1) := by decide +kernel
theorem dX4_absorb_10 : decode cX4_absorb 10 = .ok (.iload_n 2, 1) := by decide +kernel
theorem dX4_absorb_11 : decode cX4_absorb 11 = .ok (.iconst 0, 1) := by decide +kernel
theorem dX4_absorb_12 : decode cX4_absorb 12 = .ok (.iconst 0, 1) := by decide +kernel
theorem dX4_absorb_13 : decode cX4_absorb 13 = .ok (.bipush 63, 2) := by decide +kernel
theorem dX4_absorb_15 : decode cX4_absorb 15 = .ok (.bipush 63, 2) := by decide +kernel
theorem dX4_absorb_17 : decode cX4_absorb 17 = .ok (.invokevirtual 144, 3) := by decide +kernel
theorem dX4_absorb_20 : decode cX4_absorb 20 = .ok (.aload_n 0, 1) := by decide +kernel
theorem dX4_absorb_21 : decode cX4_absorb 21 = .ok (.getfield 35, 3) := by decide +kernel
theorem dX4_absorb_24 : decode cX4_absorb 24 = .ok (.iload_n 1, 1) := by decide +kernel
theorem dX4_absorb_25 : decode cX4_absorb 25 = .ok (.iload_n 2, 1) := by decide +kernel
theorem dX4_absorb_26 : decode cX4_absorb 26 = .ok (.invokevirtual 175, 3) := by decide +kernel
theorem dX4_absorb_29 : decode cX4_absorb 29 = .ok (.aload_n 0, 1) := by decide +kernel
theorem dX4_absorb_30 : decode cX4_absorb 30 = .ok (.getfield 28, 3) := by decide +kernel
theorem dX4_absorb_33 : decode cX4_absorb 33 = .ok (.iload_n 1, 1) := by decide +kernel
theorem dX4_absorb_34 : decode cX4_absorb 34 = .ok (.invokevirtual 178, 3) := by decide +kernel
theorem dX4_absorb_37 : decode cX4_absorb 37 = .ok (.return_, 1) := by decide +kernel
theorem dX4_parishOfQuarter_0 : decode cX4_parishOfQuarter 0 = .ok (.iload_n 3, 1) := by decide +kernel
theorem dX4_parishOfQuarter_1 : decode cX4_parishOfQuarter 1 = .ok (.invokestatic 115, 3) := by decide +kernel
theorem dX4_parishOfQuarter_4 : decode cX4_parishOfQuarter 4 = .ok (.istore 5, 2) := by decide +kernel
theorem dX4_parishOfQuarter_6 : decode cX4_parishOfQuarter 6 = .ok (.aload_n 0, 1) := by decide +kernel
theorem dX4_parishOfQuarter_7 : decode cX4_parishOfQuarter 7 = .ok (.getfield 28, 3) := by decide +kernel
theorem dX4_parishOfQuarter_10 : decode cX4_parishOfQuarter 10 = .ok (.iload_n 1, 1) := by decide +kernel
theorem dX4_parishOfQuarter_11 : decode cX4_parishOfQuarter 11 = .ok (.iload 5, 2) := by decide +kernel
theorem dX4_parishOfQuarter_13 : decode cX4_parishOfQuarter 13 = .ok (.iload 4, 2) := by decide +kernel
theorem dX4_parishOfQuarter_15 : decode cX4_parishOfQuarter 15 = .ok (.invokestatic 122, 3) := by decide +kernel
theorem dX4_parishOfQuarter_18 : decode cX4_parishOfQuarter 18 = .ok (.iload_n 2, 1) := by decide +kernel
theorem dX4_parishOfQuarter_19 : decode cX4_parishOfQuarter 19 = .ok (.iload 5, 2) := by decide +kernel
theorem dX4_parishOfQuarter_21 : decode cX4_parishOfQuarter 21 = .ok (.iload 4, 2) := by decide +kernel
theorem dX4_parishOfQuarter_23 : decode cX4_parishOfQuarter 23 = .ok (.invokestatic 125, 3) := by decide +kernel
theorem dX4_parishOfQuarter_26 : decode cX4_parishOfQuarter 26 = .ok (.invokevirtual 49, 3) := by decide +kernel
theorem dX4_parishOfQuarter_29 : decode cX4_parishOfQuarter 29 = .ok (.ireturn, 1) := by decide +kernel
theorem dX4_leftAround_0 : decode cX4_leftAround 0 = .ok (.aload_n 0, 1) := by decide +kernel
theorem dX4_leftAround_1 : decode cX4_leftAround 1 = .ok (.getfield 28, 3) := by decide +kernel
theorem dX4_leftAround_4 : decode cX4_leftAround 4 = .ok (.iload_n 1, 1) := by decide +kernel
theorem dX4_leftAround_5 : decode cX4_leftAround 5 = .ok (.invokevirtual 78, 3) := by decide +kernel
theorem dX4_leftAround_8 : decode cX4_leftAround 8 = .ok (.aload_n 0, 1) := by decide +kernel
theorem dX4_leftAround_9 : decode cX4_leftAround 9 = .ok (.getfield 28, 3) := by decide +kernel
theorem dX4_leftAround_12 : decode cX4_leftAround 12 = .ok (.iload_n 1, 1) := by decide +kernel
theorem dX4_leftAround_13 : decode cX4_leftAround 13 = .ok (.invokevirtual 109, 3) := by decide +kernel
theorem dX4_leftAround_16 : decode cX4_leftAround 16 = .ok (.invokestatic 115, 3) := by decide +kernel
theorem dX4_leftAround_19 : decode cX4_leftAround 19 = .ok (.iconst (-1), 1) := by decide +kernel
theorem dX4_leftAround_20 : decode cX4_leftAround 20 = .ok (.ixor, 1) := by decide +kernel
theorem dX4_leftAround_21 : decode cX4_leftAround 21 = .ok (.iand, 1) := by decide +kernel
theorem dX4_leftAround_22 : decode cX4_leftAround 22 = .ok (.ireturn, 1) := by decide +kernel
theorem dX4_topAround_0 : decode cX4_topAround 0 = .ok (.aload_n 0, 1) := by decide +kernel
theorem dX4_topAround_1 : decode cX4_topAround 1 = .ok (.getfield 28, 3) := by decide +kernel
theorem dX4_topAround_4 : decode cX4_topAround 4 = .ok (.iload_n 1, 1) := by decide +kernel
theorem dX4_topAround_5 : decode cX4_topAround 5 = .ok (.invokevirtual 81, 3) := by decide +kernel
theorem dX4_topAround_8 : decode cX4_topAround 8 = .ok (.aload_n 0, 1) := by decide +kernel
theorem dX4_topAround_9 : decode cX4_topAround 9 = .ok (.getfield 28, 3) := by decide +kernel
theorem dX4_topAround_12 : decode cX4_topAround 12 = .ok (.iload_n 1, 1) := by decide +kernel
theorem dX4_topAround_13 : decode cX4_topAround 13 = .ok (.invokevirtual 109, 3) := by decide +kernel
theorem dX4_topAround_16 : decode cX4_topAround 16 = .ok (.invokestatic 115, 3) := by decide +kernel
theorem dX4_topAround_19 : decode cX4_topAround 19 = .ok (.iconst (-1), 1) := by decide +kernel
theorem dX4_topAround_20 : decode cX4_topAround 20 = .ok (.ixor, 1) := by decide +kernel
theorem dX4_topAround_21 : decode cX4_topAround 21 = .ok (.iand, 1) := by decide +kernel
theorem dX4_topAround_22 : decode cX4_topAround 22 = .ok (.ireturn, 1) := by decide +kernel
theorem dX5_init_0 : decode cX5_init 0 = .ok (.aload_n 0, 1) := by decide +kernel
theorem dX5_init_1 : decode cX5_init 1 = .ok (.invokespecial 1, 3) := by decide +kernel
theorem dX5_init_4 : decode cX5_init 4 = .ok (.aload_n 0, 1) := by decide +kernel
theorem dX5_init_5 : decode cX5_init 5 = .ok (.new 7, 3) := by decide +kernel
theorem dX5_init_8 : decode cX5_init 8 = .ok (.dup, 1) := by decide +kernel
theorem dX5_init_9 : decode cX5_init 9 = .ok (.invokespecial 9, 3) := by decide +kernel
theorem dX5_init_12 : decode cX5_init 12 = .ok (.putfield 10, 3) := by decide +kernel
theorem dX5_init_15 : decode cX5_init 15 = .ok (.aload_n 0, 1) := by decide +kernel
theorem dX5_init_16 : decode cX5_init 16 = .ok (.new 16, 3) := by decide +kernel
theorem dX5_init_19 : decode cX5_init 19 = .ok (.dup, 1) := by decide +kernel
theorem dX5_init_20 : decode cX5_init 20 = .ok (.invokespecial 18, 3) := by decide +kernel
theorem dX5_init_23 : decode cX5_init 23 = .ok (.putfield 19, 3) := by decide +kernel
theorem dX5_init_26 : decode cX5_init 26 = .ok (.return_, 1) := by decide +kernel
theorem dX5_add_0 : decode cX5_add 0 = .ok (.iload_n 1, 1) := by decide +kernel
theorem dX5_add_1 : decode cX5_add 1 = .ok (.iload_n 2, 1) := by decide +kernel
theorem dX5_add_2 : decode cX5_add 2 = .ok (.invokestatic 23, 3) := by decide +kernel
theorem dX5_add_5 : decode cX5_add 5 = .ok (.ifCond .eq 13, 3) := by decide +kernel
theorem dX5_add_8 : decode cX5_add 8 = .ok (.iload_n 3, 1) := by decide +kernel
theorem dX5_add_9 : decode cX5_add 9 = .ok (.iconst 1, 1) := by decide +kernel
theorem dX5_add_10 : decode cX5_add 10 = .ok (.bipush 100, 2) := by decide +kernel
theorem dX5_add_12 : decode cX5_add 12 = .ok (.invokestatic 27, 3) := by decide +kernel
theorem dX5_add_15 : decode cX5_add 15 = .ok (.ifCond .ne 5, 3) := by decide +kernel
theorem dX5_add_18 : decode cX5_add 18 = .ok (.iconst (-1), 1) := by decide +kernel
theorem dX5_add_19 : decode cX5_add 19 = .ok (.ireturn, 1) := by decide +kernel
theorem dX5_add_20 : decode cX5_add 20 = .ok (.aload_n 0, 1) := by decide +kernel
theorem dX5_add_21 : decode cX5_add 21 = .ok (.getfield 10, 3) := by decide +kernel
theorem dX5_add_24 : decode cX5_add 24 = .ok (.getfield 31, 3) := by decide +kernel
theorem dX5_add_27 : decode cX5_add 27 = .ok (.invokevirtual 35, 3) := by decide +kernel
theorem dX5_add_30 : decode cX5_add 30 = .ok (.ifCond .eq 6, 3) := by decide +kernel
theorem dX5_add_33 : decode cX5_add 33 = .ok (.bipush (-3), 2) := by decide +kernel
theorem dX5_add_35 : decode cX5_add 35 = .ok (.ireturn, 1) := by decide +kernel
theorem dX5_add_36 : decode cX5_add 36 = .ok (.aload_n 0, 1) := by decide +kernel
theorem dX5_add_37 : decode cX5_add 37 = .ok (.getfield 19, 3) := by decide +kernel
theorem dX5_add_40 : decode cX5_add 40 = .ok (.aload_n 0, 1) := by decide +kernel
theorem dX5_add_41 : decode cX5_add 41 = .ok (.getfield 10, 3) := by decide +kernel
theorem dX5_add_44 : decode cX5_add 44 = .ok (.invokevirtual 41, 3) := by decide +kernel
theorem dX5_add_47 : decode cX5_add 47 = .ok (.aload_n 0, 1) := by decide +kernel
theorem dX5_add_48 : decode cX5_add 48 = .ok (.getfield 10, 3) := by decide +kernel
theorem dX5_add_51 : decode cX5_add 51 = .ok (.iload_n 1, 1) := by decide +kernel
theorem dX5_add_52 : decode cX5_add 52 = .ok (.iload_n 2, 1) := by decide +kernel
theorem dX5_add_53 : decode cX5_add 53 = .ok (.iload_n 3, 1) := by decide +kernel
theorem dX5_add_54 : decode cX5_add 54 = .ok (.invokevirtual 45, 3) := by decide +kernel
theorem dX5_add_57 : decode cX5_add 57 = .ok (.istore 4, 2) := by decide +kernel
theorem dX5_add_59 : decode cX5_add 59 = .ok (.aload_n 0, 1) := by decide +kernel
theorem dX5_add_60 : decode cX5_add 60 = .ok (.getfield 10, 3) := by decide +kernel
theorem dX5_add_63 : decode cX5_add 63 = .ok (.invokevirtual 49, 3) := by decide +kernel
theorem dX5_add_66 : decode cX5_add 66 = .ok (.iload 4, 2) := by decide +kernel
theorem dX5_add_68 : decode cX5_add 68 = .ok (.ireturn, 1) := by decide +kernel
theorem dX5_remove_0 : decode cX5_remove 0 = .ok (.aload_n 0, 1) := by decide +kernel
theorem dX5_remove_1 : decode cX5_remove 1 = .ok (.getfield 10, 3) := by decide +kernel
theorem dX5_remove_4 : decode cX5_remove 4 = .ok (.getfield 31, 3) := by decide +kernel
theorem dX5_remove_7 : decode cX5_remove 7 = .ok (.iload_n 1, 1) := by decide +kernel
theorem dX5_remove_8 : decode cX5_remove 8 = .ok (.invokevirtual 52, 3) := by decide +kernel
theorem dX5_remove_11 : decode cX5_remove 11 = .ok (.ifCond .ne 5, 3) := by decide +kernel
theorem dX5_remove_14 : decode cX5_remove 14 = .ok (.iconst (-1), 1) := by decide +kernel
theorem dX5_remove_15 : decode cX5_remove 15 = .ok (.ireturn, 1) := by decide +kernel
theorem dX5_remove_16 : decode cX5_remove 16 = .ok (.aload_n 0, 1) := by decide +kernel
theorem dX5_remove_17 : decode cX5_remove 17 = .ok (.getfield 19, 3) := by decide +kernel
theorem dX5_remove_20 : decode cX5_remove 20 = .ok (.aload_n 0, 1) := by decide +kernel
theorem dX5_remove_21 : decode cX5_remove 21 = .ok (.getfield 10, 3) := by decide +kernel
theorem dX5_remove_24 : decode cX5_remove 24 = .ok (.invokevirtual 41, 3) := by decide +kernel
theorem dX5_remove_27 : decode cX5_remove 27 = .ok (.aload_n 0, 1) := by decide +kernel
theorem dX5_remove_28 : decode cX5_remove 28 = .ok (.getfield 10, 3) := by decide +kernel
theorem dX5_remove_31 : decode cX5_remove 31 = .ok (.getfield 31, 3) := by decide +kernel
theorem dX5_remove_34 : decode cX5_remove 34 = .ok (.iload_n 1, 1) := by decide +kernel
theorem dX5_remove_35 : decode cX5_remove 35 = .ok (.invokevirtual 56, 3) := by decide +kernel
theorem dX5_remove_38 : decode cX5_remove 38 = .ok (.aload_n 0, 1) := by decide +kernel
theorem dX5_remove_39 : decode cX5_remove 39 = .ok (.getfield 10, 3) := by decide +kernel
theorem dX5_remove_42 : decode cX5_remove 42 = .ok (.invokevirtual 49, 3) := by decide +kernel
theorem dX5_remove_45 : decode cX5_remove 45 = .ok (.aload_n 0, 1) := by decide +kernel
theorem dX5_remove_46 : decode cX5_remove 46 = .ok (.getfield 10, 3) := by decide +kernel
theorem dX5_remove_49 : decode cX5_remove 49 = .ok (.getfield 31, 3) := by decide +kernel
theorem dX5_remove_52 : decode cX5_remove 52 = .ok (.invokevirtual 60, 3) := by decide +kernel
theorem dX5_remove_55 : decode cX5_remove 55 = .ok (.ireturn, 1) := by decide +kernel
theorem dX5_move_0 : decode cX5_move 0 = .ok (.aload_n 0, 1) := by decide +kernel
theorem dX5_move_1 : decode cX5_move 1 = .ok (.getfield 10, 3) := by decide +kernel
theorem dX5_move_4 : decode cX5_move 4 = .ok (.getfield 31, 3) := by decide +kernel
theorem dX5_move_7 : decode cX5_move 7 = .ok (.iload_n 1, 1) := by decide +kernel
theorem dX5_move_8 : decode cX5_move 8 = .ok (.invokevirtual 52, 3) := by decide +kernel
theorem dX5_move_11 : decode cX5_move 11 = .ok (.ifCond .eq 11, 3) := by decide +kernel
theorem dX5_move_14 : decode cX5_move 14 = .ok (.iload_n 2, 1) := by decide +kernel
theorem dX5_move_15 : decode cX5_move 15 = .ok (.iload_n 3, 1) := by decide +kernel
theorem dX5_move_16 : decode cX5_move 16 = .ok (.invokestatic 23, 3) := by decide +kernel
theorem dX5_move_19 : decode cX5_move 19 = .ok (.ifCond .ne 5, 3) := by decide +kernel
theorem dX5_move_22 : decode cX5_move 22 = .ok (.iconst (-1), 1) := by decide +kernel
theorem dX5_move_23 : decode cX5_move 23 = .ok (.ireturn, 1) := by decide +kernel
theorem dX5_move_24 : decode cX5_move 24 = .ok (.aload_n 0, 1) := by decide +kernel
theorem dX5_move_25 : decode cX5_move 25 = .ok (.getfield 19, 3) := by decide +kernel
theorem dX5_move_28 : decode cX5_move 28 = .ok (.aload_n 0, 1) := by decide +kernel
theorem dX5_move_29 : decode cX5_move 29 = .ok (.getfield 10, 3) := by decide +kernel
theorem dX5_move_32 : decode cX5_move 32 = .ok (.invokevirtual 41, 3) := by decide +kernel
theorem dX5_move_35 : decode cX5_move 35 = .ok (.aload_n 0, 1) := by decide +kernel
theorem dX5_move_36 : decode cX5_move 36 = .ok (.getfield 10, 3) := by decide +kernel
theorem dX5_move_39 : decode cX5_move 39 = .ok (.iload_n 1, 1) := by decide +kernel
theorem dX5_move_40 : decode cX5_move 40 = .ok (.iload_n 2, 1) := by decide +kernel
theorem dX5_move_41 : decode cX5_move 41 = .ok (.iload_n 3, 1) := by decide +kernel
theorem dX5_move_42 : decode cX5_move 42 = .ok (.invokevirtual 64, 3) := by decide +kernel
theorem dX5_move_45 : decode cX5_move 45 = .ok (.istore 4, 2) := by decide +kernel
theorem dX5_move_47 : decode cX5_move 47 = .ok (.aload_n 0, 1) := by decide +kernel
theorem dX5_move_48 : decode cX5_move 48 = .ok (.getfield 10, 3) := by decide +kernel
theorem dX5_move_51 : decode cX5_move 51 = .ok (.invokevirtual 49, 3) := by decide +kernel
theorem dX5_move_54 : decode cX5_move 54 = .ok (.iload 4, 2) := by decide +kernel
theorem dX5_move_56 : decode cX5_move 56 = .ok (.ifCond .eq 7, 3) := by decide +kernel
theorem dX5_move_59 : decode cX5_move 59 = .ok (.iconst 1, 1) := by decide +kernel
theorem dX5_move_60 : decode cX5_move 60 = .ok (.goto 4, 3) := by decide +kernel
theorem dX5_move_63 : decode cX5_move 63 = .ok (.iconst 0, 1) := by decide +kernel
theorem dX5_move_64 : decode cX5_move 64 = .ok (.ireturn, 1) := by decide +kernel
theorem dX5_setCrowd_0 : decode cX5_setCrowd 0 = .ok (.iload_n 1, 1) := by decide +kernel
theorem dX5_setCrowd_1 : decode cX5_setCrowd 1 = .ok (.iconst 2, 1) := by decide +kernel
theorem dX5_setCrowd_2 : decode cX5_setCrowd 2 = .ok (.bipush 9, 2) := by decide +kernel
theorem dX5_setCrowd_4 : decode cX5_setCrowd 4 = .ok (.invokestatic 27, 3) := by decide +kernel
theorem dX5_setCrowd_7 : decode cX5_setCrowd 7 = .ok (.ifCond .ne 5, 3) := by decide +kernel
theorem dX5_setCrowd_10 : decode cX5_setCrowd 10 = .ok (.iconst (-1), 1) := by decide +kernel
theorem dX5_setCrowd_11 : decode cX5_setCrowd 11 = .ok (.ireturn, 1) := by decide +kernel
theorem dX5_setCrowd_12 : decode cX5_setCrowd 12 = .ok (.aload_n 0, 1) := by decide +kernel
theorem dX5_setCrowd_13 : decode cX5_setCrowd 13 = .ok (.getfield 19, 3) := by decide +kernel
theorem dX5_setCrowd_16 : decode cX5_setCrowd 16 = .ok (.aload_n 0, 1) := by decide +kernel
theorem dX5_setCrowd_17 : decode cX5_setCrowd 17 = .ok (.getfield 10, 3) := by decide +kernel
theorem dX5_setCrowd_20 : decode cX5_setCrowd 20 = .ok (.invokevirtual 41, 3) := by decide +kernel
theorem dX5_setCrowd_23 : decode cX5_setCrowd 23 = .ok (.aload_n 0, 1) := by decide +kernel
theorem dX5_setCrowd_24 : decode cX5_setCrowd 24 = .ok (.getfield 10, 3) := by decide +kernel
theorem dX5_setCrowd_27 : decode cX5_setCrowd 27 = .ok (.getfield 67, 3) := by decide +kernel
theorem dX5_setCrowd_30 : decode cX5_setCrowd 30 = .ok (.istore_n 2, 1) := by decide +kernel
theorem dX5_setCrowd_31 : decode cX5_setCrowd 31 = .ok (.aload_n 0, 1) := by decide +kernel
theorem dX5_setCrowd_32 : decode cX5_setCrowd 32 = .ok (.getfield 10, 3) := by decide +kernel
theorem dX5_setCrowd_35 : decode cX5_setCrowd 35 = .ok (.iload_n 1, 1) := by decide +kernel
theorem dX5_setCrowd_36 : decode cX5_setCrowd 36 = .ok (.putfield 67, 3) := by decide +kernel
theorem dX5_setCrowd_39 : decode cX5_setCrowd 39 = .ok (.aload_n 0, 1) := by decide +kernel
theorem dX5_setCrowd_40 : decode cX5_setCrowd 40 = .ok (.getfield 10, 3) := by decide +kernel
theorem dX5_setCrowd_43 : decode cX5_setCrowd 43 = .ok (.invokevirtual 49, 3) := by decide +kernel
theorem dX5_setCrowd_46 : decode cX5_setCrowd 46 = .ok (.iload_n 2, 1) := by decide +kernel
theorem dX5_setCrowd_47 : decode cX5_setCrowd 47 = .ok (.ireturn, 1) := by decide +kernel
theorem dX5_setTithe_0 : decode cX5_setTithe 0 = .ok (.iload_n 1, 1) := by decide +kernel
theorem dX5_setTithe_1 : decode cX5_setTithe 1 = .ok (.iconst 1, 1) := by decide +kernel
theorem dX5_setTithe_2 : decode cX5_setTithe 2 = .ok (.bipush 9, 2) := by decide +kernel
theorem dX5_setTithe_4 : decode cX5_setTithe 4 = .ok (.invokestatic 27, 3) := by decide +kernel
theorem dX5_setTithe_7 : decode cX5_setTithe 7 = .ok (.ifCond .ne 5, 3) := by decide +kernel
theorem dX5_setTithe_10 : decode cX5_setTithe 10 = .ok (.iconst (-1), 1) := by decide +kernel
theorem dX5_setTithe_11 : decode cX5_setTithe 11 = .ok (.ireturn, 1) := by decide +kernel
theorem dX5_setTithe_12 : decode cX5_setTithe 12 = .ok (.aload_n 0, 1) := by decide +kernel
theorem dX5_setTithe_13 : decode cX5_setTithe 13 = .ok (.getfield 19, 3) := by decide +kernel
theorem dX5_setTithe_16 : decode cX5_setTithe 16 = .ok (.aload_n 0, 1) := by decide +kernel
theorem dX5_setTithe_17 : decode cX5_setTithe 17 = .ok (.getfield 10, 3) := by decide +kernel
theorem dX5_setTithe_20 : decode cX5_setTithe 20 = .ok (.invokevirtual 41, 3) := by decide +kernel
theorem dX5_setTithe_23 : decode cX5_setTithe 23 = .ok (.aload_n 0, 1) := by decide +kernel
theorem dX5_setTithe_24 : decode cX5_setTithe 24 = .ok (.getfield 10, 3) := by decide +kernel
theorem dX5_setTithe_27 : decode cX5_setTithe 27 = .ok (.getfield 71, 3) := by decide +kernel
theorem dX5_setTithe_30 : decode cX5_setTithe 30 = .ok (.istore_n 2, 1) := by decide +kernel
theorem dX5_setTithe_31 : decode cX5_setTithe 31 = .ok (.aload_n 0, 1) := by decide +kernel
theorem dX5_setTithe_32 : decode cX5_setTithe 32 = .ok (.getfield 10, 3) := by decide +kernel
theorem dX5_setTithe_35 : decode cX5_setTithe 35 = .ok (.iload_n 1, 1) := by decide +kernel
theorem dX5_setTithe_36 : decode cX5_setTithe 36 = .ok (.putfield 71, 3) := by decide +kernel
theorem dX5_setTithe_39 : decode cX5_setTithe 39 = .ok (.aload_n 0, 1) := by decide +kernel
theorem dX5_setTithe_40 : decode cX5_setTithe 40 = .ok (.getfield 10, 3) := by decide +kernel
theorem dX5_setTithe_43 : decode cX5_setTithe 43 = .ok (.invokevirtual 49, 3) := by decide +kernel
theorem dX5_setTithe_46 : decode cX5_setTithe 46 = .ok (.iload_n 2, 1) := by decide +kernel
theorem dX5_setTithe_47 : decode cX5_setTithe 47 = .ok (.ireturn, 1) := by decide +kernel
theorem dX5_pay_0 : decode cX5_pay 0 = .ok (.aload_n 0, 1) := by decide +kernel
theorem dX5_pay_1 : decode cX5_pay 1 = .ok (.getfield 10, 3) := by decide +kernel
theorem dX5_pay_4 : decode cX5_pay 4 = .ok (.getfield 74, 3) := by decide +kernel
theorem dX5_pay_7 : decode cX5_pay 7 = .ok (.iload_n 1, 1) := by decide +kernel
theorem dX5_pay_8 : decode cX5_pay 8 = .ok (.invokevirtual 78, 3) := by decide +kernel
theorem dX5_pay_11 : decode cX5_pay 11 = .ok (.ifCond .ne 5, 3) := by decide +kernel
theorem dX5_pay_14 : decode cX5_pay 14 = .ok (.iconst (-1), 1) := by decide +kernel
theorem dX5_pay_15 : decode cX5_pay 15 = .ok (.ireturn, 1) := by decide +kernel
theorem dX5_pay_16 : decode cX5_pay 16 = .ok (.aload_n 0, 1) := by decide +kernel
theorem dX5_pay_17 : decode cX5_pay 17 = .ok (.getfield 19, 3) := by decide +kernel
theorem dX5_pay_20 : decode cX5_pay 20 = .ok (.aload_n 0, 1) := by decide +kernel
theorem dX5_pay_21 : decode cX5_pay 21 = .ok (.getfield 10, 3) := by decide +kernel
theorem dX5_pay_24 : decode cX5_pay 24 = .ok (.invokevirtual 41, 3) := by decide +kernel
theorem dX5_pay_27 : decode cX5_pay 27 = .ok (.aload_n 0, 1) := by decide +kernel
theorem dX5_pay_28 : decode cX5_pay 28 = .ok (.getfield 10, 3) := by decide +kernel
theorem dX5_pay_31 : decode cX5_pay 31 = .ok (.iload_n 1, 1) := by decide +kernel
theorem dX5_pay_32 : decode cX5_pay 32 = .ok (.invokevirtual 81, 3) := by decide +kernel
theorem dX5_pay_35 : decode cX5_pay 35 = .ok (.istore_n 2, 1) := by decide +kernel
theorem dX5_pay_36 : decode cX5_pay 36 = .ok (.aload_n 0, 1) := by decide +kernel
theorem dX5_pay_37 : decode cX5_pay 37 = .ok (.getfield 10, 3) := by decide +kernel
theorem dX5_pay_40 : decode cX5_pay 40 = .ok (.invokevirtual 49, 3) := by decide +kernel
theorem dX5_pay_43 : decode cX5_pay 43 = .ok (.iload_n 2, 1) := by decide +kernel
theorem dX5_pay_44 : decode cX5_pay 44 = .ok (.ireturn, 1) := by decide +kernel
theorem dX5_join_0 : decode cX5_join 0 = .ok (.aload_n 0, 1) := by decide +kernel
theorem dX5_join_1 : decode cX5_join 1 = .ok (.getfield 10, 3) := by decide +kernel
theorem dX5_join_4 : decode cX5_join 4 = .ok (.getfield 74, 3) := by decide +kernel
theorem dX5_join_7 : decode cX5_join 7 = .ok (.iload_n 1, 1) := by decide +kernel
theorem dX5_join_8 : decode cX5_join 8 = .ok (.invokevirtual 78, 3) := by decide +kernel
theorem dX5_join_11 : decode cX5_join 11 = .ok (.ifCond .ne 5, 3) := by decide +kernel
theorem dX5_join_14 : decode cX5_join 14 = .ok (.iconst (-1), 1) := by decide +kernel
theorem dX5_join_15 : decode cX5_join 15 = .ok (.ireturn, 1) := by decide +kernel
theorem dX5_join_16 : decode cX5_join 16 = .ok (.aload_n 0, 1) := by decide +kernel
theorem dX5_join_17 : decode cX5_join 17 = .ok (.getfield 10, 3) := by decide +kernel
theorem dX5_join_20 : decode cX5_join 20 = .ok (.iload_n 1, 1) := by decide +kernel
theorem dX5_join_21 : decode cX5_join 21 = .ok (.invokevirtual 85, 3) := by decide +kernel
theorem dX5_join_24 : decode cX5_join 24 = .ok (.ifCond .ne 6, 3) := by decide +kernel
theorem dX5_join_27 : decode cX5_join 27 = .ok (.bipush (-2), 2) := by decide +kernel
theorem dX5_join_29 : decode cX5_join 29 = .ok (.ireturn, 1) := by decide +kernel
theorem dX5_join_30 : decode cX5_join 30 = .ok (.aload_n 0, 1) := by decide +kernel
theorem dX5_join_31 : decode cX5_join 31 = .ok (.getfield 19, 3) := by decide +kernel
theorem dX5_join_34 : decode cX5_join 34 = .ok (.aload_n 0, 1) := by decide +kernel
theorem dX5_join_35 : decode cX5_join 35 = .ok (.getfield 10, 3) := by decide +kernel
theorem dX5_join_38 : decode cX5_join 38 = .ok (.invokevirtual 41, 3) := by decide +kernel
theorem dX5_join_41 : decode cX5_join 41 = .ok (.aload_n 0, 1) := by decide +kernel
theorem dX5_join_42 : decode cX5_join 42 = .ok (.getfield 10, 3) := by decide +kernel
theorem dX5_join_45 : decode cX5_join 45 = .ok (.iload_n 1, 1) := by decide +kernel
theorem dX5_join_46 : decode cX5_join 46 = .ok (.invokevirtual 88, 3) := by decide +kernel
theorem dX5_join_49 : decode cX5_join 49 = .ok (.istore_n 2, 1) := by decide +kernel
theorem dX5_join_50 : decode cX5_join 50 = .ok (.aload_n 0, 1) := by decide +kernel
theorem dX5_join_51 : decode cX5_join 51 = .ok (.getfield 10, 3) := by decide +kernel
theorem dX5_join_54 : decode cX5_join 54 = .ok (.invokevirtual 49, 3) := by decide +kernel
theorem dX5_join_57 : decode cX5_join 57 = .ok (.iload_n 2, 1) := by decide +kernel
theorem dX5_join_58 : decode cX5_join 58 = .ok (.ireturn, 1) := by decide +kernel
theorem dX5_undo_0 : decode cX5_undo 0 = .ok (.aload_n 0, 1) := by decide +kernel
theorem dX5_undo_1 : decode cX5_undo 1 = .ok (.getfield 19, 3) := by decide +kernel
theorem dX5_undo_4 : decode cX5_undo 4 = .ok (.invokevirtual 91, 3) := by decide +kernel
theorem dX5_undo_7 : decode cX5_undo 7 = .ok (.ifCond .eq 6, 3) := by decide +kernel
theorem dX5_undo_10 : decode cX5_undo 10 = .ok (.bipush (-2), 2) := by decide +kernel
theorem dX5_undo_12 : decode cX5_undo 12 = .ok (.ireturn, 1) := by decide +kernel
theorem dX5_undo_13 : decode cX5_undo 13 = .ok (.aload_n 0, 1) := by decide +kernel
theorem dX5_undo_14 : decode cX5_undo 14 = .ok (.getfield 19, 3) := by decide +kernel
theorem dX5_undo_17 : decode cX5_undo 17 = .ok (.aload_n 0, 1) := by decide +kernel
theorem dX5_undo_18 : decode cX5_undo 18 = .ok (.getfield 10, 3) := by decide +kernel
theorem dX5_undo_21 : decode cX5_undo 21 = .ok (.invokevirtual 94, 3) := by decide +kernel
theorem dX5_undo_24 : decode cX5_undo 24 = .ok (.aload_n 0, 1) := by decide +kernel
theorem dX5_undo_25 : decode cX5_undo 25 = .ok (.getfield 19, 3) := by decide +kernel
theorem dX5_undo_28 : decode cX5_undo 28 = .ok (.invokevirtual 97, 3) := by decide +kernel
theorem dX5_undo_31 : decode cX5_undo 31 = .ok (.ireturn, 1) := by decide +kernel
theorem dX5_count_0 : decode cX5_count 0 = .ok (.iload_n 1, 1) := by decide +kernel
theorem dX5_count_1 : decode cX5_count 1 = .ok (.tableswitch 174 0 10 #[59, 70, 81, 92, 103, 111, 119, 130, 138, 149, 166], 59) := by decide +kernel
theorem dX5_count_60 : decode cX5_count 60 = .ok (.aload_n 0, 1) := by decide +kernel
theorem dX5_count_61 : decode cX5_count 61 = .ok (.getfield 10, 3) := by decide +kernel
theorem dX5_count_64 : decode cX5_count 64 = .ok (.getfield 31, 3) := by decide +kernel
theorem dX5_count_67 : decode cX5_count 67 = .ok (.invokevirtual 60, 3) := by decide +kernel
theorem dX5_count_70 : decode cX5_count 70 = .ok (.ireturn, 1) := by decide +kernel
theorem dX5_count_71 : decode cX5_count 71 = .ok (.aload_n 0, 1) := by decide +kernel
theorem dX5_count_72 : decode cX5_count 72 = .ok (.getfield 10, 3) := by decide +kernel
theorem dX5_count_75 : decode cX5_count 75 = .ok (.getfield 31, 3) := by decide +kernel
theorem dX5_count_78 : decode cX5_count 78 = .ok (.invokevirtual 98, 3) := by decide +kernel
theorem dX5_count_81 : decode cX5_count 81 = .ok (.ireturn, 1) := by decide +kernel
theorem dX5_count_82 : decode cX5_count 82 = .ok (.aload_n 0, 1) := by decide +kernel
theorem dX5_count_83 : decode cX5_count 83 = .ok (.getfield 10, 3) := by decide +kernel
theorem dX5_count_86 : decode cX5_count 86 = .ok (.getfield 74, 3) := by decide +kernel
theorem dX5_count_89 : decode cX5_count 89 = .ok (.invokevirtual 101, 3) := by decide +kernel
theorem dX5_count_92 : decode cX5_count 92 = .ok (.ireturn, 1) := by decide +kernel
theorem dX5_count_93 : decode cX5_count 93 = .ok (.aload_n 0, 1) := by decide +kernel
theorem dX5_count_94 : decode cX5_count 94 = .ok (.getfield 10, 3) := by decide +kernel
theorem dX5_count_97 : decode cX5_count 97 = .ok (.getfield 74, 3) := by decide +kernel
theorem dX5_count_100 : decode cX5_count 100 = .ok (.invokevirtual 102, 3) := by decide +kernel
theorem dX5_count_103 : decode cX5_count 103 = .ok (.ireturn, 1) := by decide +kernel
theorem dX5_count_104 : decode cX5_count 104 = .ok (.aload_n 0, 1) := by decide +kernel
theorem dX5_count_105 : decode cX5_count 105 = .ok (.getfield 10, 3) := by decide +kernel
theorem dX5_count_108 : decode cX5_count 108 = .ok (.getfield 67, 3) := by decide +kernel
theorem dX5_count_111 : decode cX5_count 111 = .ok (.ireturn, 1) := by decide +kernel
theorem dX5_count_112 : decode cX5_count 112 = .ok (.aload_n 0, 1) := by decide +kernel
theorem dX5_count_113 : decode cX5_count 113 = .ok (.getfield 10, 3) := by decide +kernel
theorem dX5_count_116 : decode cX5_count 116 = .ok (.getfield 71, 3) := by decide +kernel
theorem dX5_count_119 : decode cX5_count 119 = .ok (.ireturn, 1) := by decide +kernel
theorem dX5_count_120 : decode cX5_count 120 = .ok (.aload_n 0, 1) := by decide +kernel
theorem dX5_count_121 : decode cX5_count 121 = .ok (.getfield 10, 3) := by decide +kernel
theorem dX5_count_124 : decode cX5_count 124 = .ok (.getfield 105, 3) := by decide +kernel
theorem dX5_count_127 : decode cX5_count 127 = .ok (.invokevirtual 109, 3) := by decide +kernel
theorem dX5_count_130 : decode cX5_count 130 = .ok (.ireturn, 1) := by decide +kernel
theorem dX5_count_131 : decode cX5_count 131 = .ok (.aload_n 0, 1) := by decide +kernel
theorem dX5_count_132 : decode cX5_count 132 = .ok (.getfield 10, 3) := by decide +kernel
theorem dX5_count_135 : decode cX5_count 135 = .ok (.invokevirtual 114, 3) := by decide +kernel
theorem dX5_count_138 : decode cX5_count 138 = .ok (.ireturn, 1) := by decide +kernel
theorem dX5_count_139 : decode cX5_count 139 = .ok (.aload_n 0, 1) := by decide +kernel
theorem dX5_count_140 : decode cX5_count 140 = .ok (.getfield 10, 3) := by decide +kernel
theorem dX5_count_143 : decode cX5_count 143 = .ok (.getfield 74, 3) := by decide +kernel
theorem dX5_count_146 : decode cX5_count 146 = .ok (.invokevirtual 117, 3) := by decide +kernel
theorem dX5_count_149 : decode cX5_count 149 = .ok (.ireturn, 1) := by decide +kernel
theorem dX5_count_150 : decode cX5_count 150 = .ok (.aload_n 0, 1) := by decide +kernel
theorem dX5_count_151 : decode cX5_count 151 = .ok (.getfield 10, 3) := by decide +kernel
theorem dX5_count_154 : decode cX5_count 154 = .ok (.getfield 31, 3) := by decide +kernel
theorem dX5_count_157 : decode cX5_count 157 = .ok (.iconst 0, 1) := by decide +kernel
theorem dX5_count_158 : decode cX5_count 158 = .ok (.iconst 0, 1) := by decide +kernel
theorem dX5_count_159 : decode cX5_count 159 = .ok (.bipush 63, 2) := by decide +kernel
theorem dX5_count_161 : decode cX5_count 161 = .ok (.bipush 63, 2) := by decide +kernel
theorem dX5_count_163 : decode cX5_count 163 = .ok (.invokevirtual 120, 3) := by decide +kernel
theorem dX5_count_166 : decode cX5_count 166 = .ok (.ireturn, 1) := by decide +kernel
theorem dX5_count_167 : decode cX5_count 167 = .ok (.aload_n 0, 1) := by decide +kernel
theorem dX5_count_168 : decode cX5_count 168 = .ok (.getfield 19, 3) := by decide +kernel
theorem dX5_count_171 : decode cX5_count 171 = .ok (.invokevirtual 97, 3) := by decide +kernel
theorem dX5_count_174 : decode cX5_count 174 = .ok (.ireturn, 1) := by decide +kernel
theorem dX5_count_175 : decode cX5_count 175 = .ok (.iconst (-1), 1) := by decide +kernel
theorem dX5_count_176 : decode cX5_count 176 = .ok (.ireturn, 1) := by decide +kernel
theorem dX5_point_0 : decode cX5_point 0 = .ok (.aload_n 0, 1) := by decide +kernel
theorem dX5_point_1 : decode cX5_point 1 = .ok (.getfield 10, 3) := by decide +kernel
theorem dX5_point_4 : decode cX5_point 4 = .ok (.getfield 31, 3) := by decide +kernel
theorem dX5_point_7 : decode cX5_point 7 = .ok (.iload_n 1, 1) := by decide +kernel
theorem dX5_point_8 : decode cX5_point 8 = .ok (.invokevirtual 52, 3) := by decide +kernel
theorem dX5_point_11 : decode cX5_point 11 = .ok (.ifCond .ne 5, 3) := by decide +kernel
theorem dX5_point_14 : decode cX5_point 14 = .ok (.iconst (-1), 1) := by decide +kernel
theorem dX5_point_15 : decode cX5_point 15 = .ok (.ireturn, 1) := by decide +kernel
theorem dX5_point_16 : decode cX5_point 16 = .ok (.iload_n 2, 1) := by decide +kernel
theorem dX5_point_17 : decode cX5_point 17 = .ok (.tableswitch 92 0 4 #[35, 47, 59, 71, 80], 35) := by decide +kernel
theorem dX5_point_52 : decode cX5_point 52 = .ok (.aload_n 0, 1) := by decide +kernel
theorem dX5_point_53 : decode cX5_point 53 = .ok (.getfield 10, 3) := by decide +kernel
theorem dX5_point_56 : decode cX5_point 56 = .ok (.getfield 31, 3) := by decide +kernel
theorem dX5_point_59 : decode cX5_point 59 = .ok (.iload_n 1, 1) := by decide +kernel
theorem dX5_point_60 : decode cX5_point 60 = .ok (.invokevirtual 124, 3) := by decide +kernel
theorem dX5_point_63 : decode cX5_point 63 = .ok (.ireturn, 1) := by decide +kernel
theorem dX5_point_64 : decode cX5_point 64 = .ok (.aload_n 0, 1) := by decide +kernel
theorem dX5_point_65 : decode cX5_point 65 = .ok (.getfield 10, 3) := by decide +kernel
theorem dX5_point_68 : decode cX5_point 68 = .ok (.getfield 31, 3) := by decide +kernel
theorem dX5_point_71 : decode cX5_point 71 = .ok (.iload_n 1, 1) := by decide +kernel
theorem dX5_point_72 : decode cX5_point 72 = .ok (.invokevirtual 127, 3) := by decide +kernel
theorem dX5_point_75 : decode cX5_point 75 = .ok (.ireturn, 1) := by decide +kernel
theorem dX5_point_76 : decode cX5_point 76 = .ok (.aload_n 0, 1) := by decide +kernel
theorem dX5_point_77 : decode cX5_point 77 = .ok (.getfield 10, 3) := by decide +kernel
theorem dX5_point_80 : decode cX5_point 80 = .ok (.getfield 31, 3) := by decide +kernel
theorem dX5_point_83 : decode cX5_point 83 = .ok (.iload_n 1, 1) := by decide +kernel
theorem dX5_point_84 : decode cX5_point 84 = .ok (.invokevirtual 130, 3) := by decide +kernel
theorem dX5_point_87 : decode cX5_point 87 = .ok (.ireturn, 1) := by decide +kernel
theorem dX5_point_88 : decode cX5_point 88 = .ok (.aload_n 0, 1) := by decide +kernel
theorem dX5_point_89 : decode cX5_point 89 = .ok (.getfield 10, 3) := by decide +kernel
theorem dX5_point_92 : decode cX5_point 92 = .ok (.iload_n 1, 1) := by decide +kernel
theorem dX5_point_93 : decode cX5_point 93 = .ok (.invokevirtual 133, 3) := by decide +kernel
theorem dX5_point_96 : decode cX5_point 96 = .ok (.ireturn, 1) := by decide +kernel
theorem dX5_point_97 : decode cX5_point 97 = .ok (.aload_n 0, 1) := by decide +kernel
theorem dX5_point_98 : decode cX5_point 98 = .ok (.getfield 10, 3) := by decide +kernel
theorem dX5_point_101 : decode cX5_point 101 = .ok (.getfield 31, 3) := by decide +kernel
theorem dX5_point_104 : decode cX5_point 104 = .ok (.iload_n 1, 1) := by decide +kernel
theorem dX5_point_105 : decode cX5_point 105 = .ok (.invokevirtual 136, 3) := by decide +kernel
theorem dX5_point_108 : decode cX5_point 108 = .ok (.ireturn, 1) := by decide +kernel
theorem dX5_point_109 : decode cX5_point 109 = .ok (.iconst (-1), 1) := by decide +kernel
theorem dX5_point_110 : decode cX5_point 110 = .ok (.ireturn, 1) := by decide +kernel
theorem dX5_parish_0 : decode cX5_parish 0 = .ok (.aload_n 0, 1) := by decide +kernel
theorem dX5_parish_1 : decode cX5_parish 1 = .ok (.getfield 10, 3) := by decide +kernel
theorem dX5_parish_4 : decode cX5_parish 4 = .ok (.getfield 74, 3) := by decide +kernel
theorem dX5_parish_7 : decode cX5_parish 7 = .ok (.iload_n 1, 1) := by decide +kernel
theorem dX5_parish_8 : decode cX5_parish 8 = .ok (.invokevirtual 78, 3) := by decide +kernel
theorem dX5_parish_11 : decode cX5_parish 11 = .ok (.ifCond .ne 5, 3) := by decide +kernel
theorem dX5_parish_14 : decode cX5_parish 14 = .ok (.iconst (-1), 1) := by decide +kernel
theorem dX5_parish_15 : decode cX5_parish 15 = .ok (.ireturn, 1) := by decide +kernel
theorem dX5_parish_16 : decode cX5_parish 16 = .ok (.iload_n 2, 1) := by decide +kernel
theorem dX5_parish_17 : decode cX5_parish 17 = .ok (.tableswitch 140 0 7 #[47, 59, 71, 83, 92, 104, 116, 128], 47) := by decide +kernel
theorem dX5_parish_64 : decode cX5_parish 64 = .ok (.aload_n 0, 1) := by decide +kernel
theorem dX5_parish_65 : decode cX5_parish 65 = .ok (.getfield 10, 3) := by decide +kernel
theorem dX5_parish_68 : decode cX5_parish 68 = .ok (.getfield 74, 3) := by decide +kernel
theorem dX5_parish_71 : decode cX5_parish 71 = .ok (.iload_n 1, 1) := by decide +kernel
theorem dX5_parish_72 : decode cX5_parish 72 = .ok (.invokevirtual 139, 3) := by decide +kernel
theorem dX5_parish_75 : decode cX5_parish 75 = .ok (.ireturn, 1) := by decide +kernel
theorem dX5_parish_76 : decode cX5_parish 76 = .ok (.aload_n 0, 1) := by decide +kernel
theorem dX5_parish_77 : decode cX5_parish 77 = .ok (.getfield 10, 3) := by decide +kernel
theorem dX5_parish_80 : decode cX5_parish 80 = .ok (.getfield 74, 3) := by decide +kernel
theorem dX5_parish_83 : decode cX5_parish 83 = .ok (.iload_n 1, 1) := by decide +kernel
theorem dX5_parish_84 : decode cX5_parish 84 = .ok (.invokevirtual 142, 3) := by decide +kernel
theorem dX5_parish_87 : decode cX5_parish 87 = .ok (.ireturn, 1) := by decide +kernel
theorem dX5_parish_88 : decode cX5_parish 88 = .ok (.aload_n 0, 1) := by decide +kernel
theorem dX5_parish_89 : decode cX5_parish 89 = .ok (.getfield 10, 3) := by decide +kernel
theorem dX5_parish_92 : decode cX5_parish 92 = .ok (.getfield 74, 3) := by decide +kernel
theorem dX5_parish_95 : decode cX5_parish 95 = .ok (.iload_n 1, 1) := by decide +kernel
theorem dX5_parish_96 : decode cX5_parish 96 = .ok (.invokevirtual 145, 3) := by decide +kernel
theorem dX5_parish_99 : decode cX5_parish 99 = .ok (.ireturn, 1) := by decide +kernel
theorem dX5_parish_100 : decode cX5_parish 100 = .ok (.aload_n 0, 1) := by decide +kernel
theorem dX5_parish_101 : decode cX5_parish 101 = .ok (.getfield 10, 3) := by decide +kernel
theorem dX5_parish_104 : decode cX5_parish 104 = .ok (.iload_n 1, 1) := by decide +kernel
theorem dX5_parish_105 : decode cX5_parish 105 = .ok (.invokevirtual 148, 3) := by decide +kernel
theorem dX5_parish_108 : decode cX5_parish 108 = .ok (.ireturn, 1) := by decide +kernel
theorem dX5_parish_109 : decode cX5_parish 109 = .ok (.aload_n 0, 1) := by decide +kernel
theorem dX5_parish_110 : decode cX5_parish 110 = .ok (.getfield 10, 3) := by decide +kernel
theorem dX5_parish_113 : decode cX5_parish 113 = .ok (.getfield 31, 3) := by decide +kernel
theorem dX5_parish_116 : decode cX5_parish 116 = .ok (.iload_n 1, 1) := by decide +kernel
theorem dX5_parish_117 : decode cX5_parish 117 = .ok (.invokevirtual 151, 3) := by decide +kernel
theorem dX5_parish_120 : decode cX5_parish 120 = .ok (.ireturn, 1) := by decide +kernel
theorem dX5_parish_121 : decode cX5_parish 121 = .ok (.aload_n 0, 1) := by decide +kernel
theorem dX5_parish_122 : decode cX5_parish 122 = .ok (.getfield 10, 3) := by decide +kernel
theorem dX5_parish_125 : decode cX5_parish 125 = .ok (.getfield 31, 3) := by decide +kernel
theorem dX5_parish_128 : decode cX5_parish 128 = .ok (.iload_n 1, 1) := by decide +kernel
theorem dX5_parish_129 : decode cX5_parish 129 = .ok (.invokevirtual 154, 3) := by decide +kernel
theorem dX5_parish_132 : decode cX5_parish 132 = .ok (.ireturn, 1) := by decide +kernel
theorem dX5_parish_133 : decode cX5_parish 133 = .ok (.aload_n 0, 1) := by decide +kernel
theorem dX5_parish_134 : decode cX5_parish 134 = .ok (.getfield 10, 3) := by decide +kernel
theorem dX5_parish_137 : decode cX5_parish 137 = .ok (.getfield 105, 3) := by decide +kernel
theorem dX5_parish_140 : decode cX5_parish 140 = .ok (.iload_n 1, 1) := by decide +kernel
theorem dX5_parish_141 : decode cX5_parish 141 = .ok (.invokevirtual 157, 3) := by decide +kernel
theorem dX5_parish_144 : decode cX5_parish 144 = .ok (.ireturn, 1) := by decide +kernel
theorem dX5_parish_145 : decode cX5_parish 145 = .ok (.aload_n 0, 1) := by decide +kernel
theorem dX5_parish_146 : decode cX5_parish 146 = .ok (.getfield 10, 3) := by decide +kernel
theorem dX5_parish_149 : decode cX5_parish 149 = .ok (.getfield 105, 3) := by decide +kernel
theorem dX5_parish_152 : decode cX5_parish 152 = .ok (.iload_n 1, 1) := by decide +kernel
theorem dX5_parish_153 : decode cX5_parish 153 = .ok (.invokevirtual 160, 3) := by decide +kernel
theorem dX5_parish_156 : decode cX5_parish 156 = .ok (.ireturn, 1) := by decide +kernel
theorem dX5_parish_157 : decode cX5_parish 157 = .ok (.iconst (-1), 1) := by decide +kernel
theorem dX5_parish_158 : decode cX5_parish 158 = .ok (.ireturn, 1) := by decide +kernel
theorem dX5_debt_0 : decode cX5_debt 0 = .ok (.aload_n 0, 1) := by decide +kernel
theorem dX5_debt_1 : decode cX5_debt 1 = .ok (.getfield 10, 3) := by decide +kernel
theorem dX5_debt_4 : decode cX5_debt 4 = .ok (.getfield 74, 3) := by decide +kernel
theorem dX5_debt_7 : decode cX5_debt 7 = .ok (.iload_n 1, 1) := by decide +kernel
theorem dX5_debt_8 : decode cX5_debt 8 = .ok (.invokevirtual 78, 3) := by decide +kernel
theorem dX5_debt_11 : decode cX5_debt 11 = .ok (.ifCond .eq 17, 3) := by decide +kernel
theorem dX5_debt_14 : decode cX5_debt 14 = .ok (.aload_n 0, 1) := by decide +kernel
theorem dX5_debt_15 : decode cX5_debt 15 = .ok (.getfield 10, 3) := by decide +kernel
theorem dX5_debt_18 : decode cX5_debt 18 = .ok (.getfield 74, 3) := by decide +kernel
theorem dX5_debt_21 : decode cX5_debt 21 = .ok (.iload_n 2, 1) := by decide +kernel
theorem dX5_debt_22 : decode cX5_debt 22 = .ok (.invokevirtual 78, 3) := by decide +kernel
theorem dX5_debt_25 : decode cX5_debt 25 = .ok (.ifCond .ne 5, 3) := by decide +kernel
theorem dX5_debt_28 : decode cX5_debt 28 = .ok (.iconst (-1), 1) := by decide +kernel
theorem dX5_debt_29 : decode cX5_debt 29 = .ok (.ireturn, 1) := by decide +kernel
theorem dX5_debt_30 : decode cX5_debt 30 = .ok (.aload_n 0, 1) := by decide +kernel
theorem dX5_debt_31 : decode cX5_debt 31 = .ok (.getfield 10, 3) := by decide +kernel
theorem dX5_debt_34 : decode cX5_debt 34 = .ok (.getfield 105, 3) := by decide +kernel
theorem dX5_debt_37 : decode cX5_debt 37 = .ok (.iload_n 1, 1) := by decide +kernel
theorem dX5_debt_38 : decode cX5_debt 38 = .ok (.iload_n 2, 1) := by decide +kernel
theorem dX5_debt_39 : decode cX5_debt 39 = .ok (.invokevirtual 163, 3) := by decide +kernel
theorem dX5_debt_42 : decode cX5_debt 42 = .ok (.ireturn, 1) := by decide +kernel
theorem dX5_at_0 : decode cX5_at 0 = .ok (.iload_n 1, 1) := by decide +kernel
theorem dX5_at_1 : decode cX5_at 1 = .ok (.iload_n 2, 1) := by decide +kernel
theorem dX5_at_2 : decode cX5_at 2 = .ok (.invokestatic 23, 3) := by decide +kernel
theorem dX5_at_5 : decode cX5_at 5 = .ok (.ifCond .eq 18, 3) := by decide +kernel
theorem dX5_at_8 : decode cX5_at 8 = .ok (.aload_n 0, 1) := by decide +kernel
theorem dX5_at_9 : decode cX5_at 9 = .ok (.getfield 10, 3) := by decide +kernel
theorem dX5_at_12 : decode cX5_at 12 = .ok (.getfield 74, 3) := by decide +kernel
theorem dX5_at_15 : decode cX5_at 15 = .ok (.iload_n 1, 1) := by decide +kernel
theorem dX5_at_16 : decode cX5_at 16 = .ok (.iload_n 2, 1) := by decide +kernel
theorem dX5_at_17 : decode cX5_at 17 = .ok (.invokevirtual 167, 3) := by decide +kernel
theorem dX5_at_20 : decode cX5_at 20 = .ok (.goto 4, 3) := by decide +kernel
theorem dX5_at_23 : decode cX5_at 23 = .ok (.iconst (-1), 1) := by decide +kernel
theorem dX5_at_24 : decode cX5_at 24 = .ok (.ireturn, 1) := by decide +kernel
theorem dX5_range_0 : decode cX5_range 0 = .ok (.iload_n 1, 1) := by decide +kernel
theorem dX5_range_1 : decode cX5_range 1 = .ok (.iload_n 2, 1) := by decide +kernel
theorem dX5_range_2 : decode cX5_range 2 = .ok (.invokestatic 23, 3) := by decide +kernel
theorem dX5_range_5 : decode cX5_range 5 = .ok (.ifCond .eq 23, 3) := by decide +kernel
theorem dX5_range_8 : decode cX5_range 8 = .ok (.iload_n 3, 1) := by decide +kernel
theorem dX5_range_9 : decode cX5_range 9 = .ok (.iload 4, 2) := by decide +kernel
theorem dX5_range_11 : decode cX5_range 11 = .ok (.invokestatic 23, 3) := by decide +kernel
theorem dX5_range_14 : decode cX5_range 14 = .ok (.ifCond .eq 14, 3) := by decide +kernel
theorem dX5_range_17 : decode cX5_range 17 = .ok (.iload_n 3, 1) := by decide +kernel
theorem dX5_range_18 : decode cX5_range 18 = .ok (.iload_n 1, 1) := by decide +kernel
theorem dX5_range_19 : decode cX5_range 19 = .ok (.if_icmp .lt 9, 3) := by decide +kernel
theorem dX5_range_22 : decode cX5_range 22 = .ok (.iload 4, 2) := by decide +kernel
theorem dX5_range_24 : decode cX5_range 24 = .ok (.iload_n 2, 1) := by decide +kernel
theorem dX5_range_25 : decode cX5_range 25 = .ok (.if_icmp .ge 5, 3) := by decide +kernel
theorem dX5_range_28 : decode cX5_range 28 = .ok (.iconst (-1), 1) := by decide +kernel
theorem dX5_range_29 : decode cX5_range 29 = .ok (.ireturn, 1) := by decide +kernel
theorem dX5_range_30 : decode cX5_range 30 = .ok (.iload 5, 2) := by decide +kernel
theorem dX5_range_32 : decode cX5_range 32 = .ok (.tableswitch 96 0 3 #[32, 48, 64, 80], 32) := by decide +kernel
theorem dX5_range_64 : decode cX5_range 64 = .ok (.aload_n 0, 1) := by decide +kernel
theorem dX5_range_65 : decode cX5_range 65 = .ok (.getfield 10, 3) := by decide +kernel
theorem dX5_range_68 : decode cX5_range 68 = .ok (.getfield 31, 3) := by decide +kernel
theorem dX5_range_71 : decode cX5_range 71 = .ok (.iload_n 1, 1) := by decide +kernel
theorem dX5_range_72 : decode cX5_range 72 = .ok (.iload_n 2, 1) := by decide +kernel
theorem dX5_range_73 : decode cX5_range 73 = .ok (.iload_n 3, 1) := by decide +kernel
theorem dX5_range_74 : decode cX5_range 74 = .ok (.iload 4, 2) := by decide +kernel
theorem dX5_range_76 : decode cX5_range 76 = .ok (.invokevirtual 170, 3) := by decide +kernel
theorem dX5_range_79 : decode cX5_range 79 = .ok (.ireturn, 1) := by decide +kernel
theorem dX5_range_80 : decode cX5_range 80 = .ok (.aload_n 0, 1) := by decide +kernel
theorem dX5_range_81 : decode cX5_range 81 = .ok (.getfield 10, 3) := by decide +kernel
theorem dX5_range_84 : decode cX5_range 84 = .ok (.getfield 31, 3) := by decide +kernel
theorem dX5_range_87 : decode cX5_range 87 = .ok (.iload_n 1, 1) := by decide +kernel
theorem dX5_range_88 : decode cX5_range 88 = .ok (.iload_n 2, 1) := by decide +kernel
theorem dX5_range_89 : decode cX5_range 89 = .ok (.iload_n 3, 1) := by decide +kernel
theorem dX5_range_90 : decode cX5_range 90 = .ok (.iload 4, 2) := by decide +kernel
theorem dX5_range_92 : decode cX5_range 92 = .ok (.invokevirtual 120, 3) := by decide +kernel
theorem dX5_range_95 : decode cX5_range 95 = .ok (.ireturn, 1) := by decide +kernel
theorem dX5_range_96 : decode cX5_range 96 = .ok (.aload_n 0, 1) := by decide +kernel
theorem dX5_range_97 : decode cX5_range 97 = .ok (.getfield 10, 3) := by decide +kernel
theorem dX5_range_100 : decode cX5_range 100 = .ok (.getfield 74, 3) := by decide +kernel
theorem dX5_range_103 : decode cX5_range 103 = .ok (.iload_n 1, 1) := by decide +kernel
theorem dX5_range_104 : decode cX5_range 104 = .ok (.iload_n 2, 1) := by decide +kernel
theorem dX5_range_105 : decode cX5_range 105 = .ok (.iload_n 3, 1) := by decide +kernel
theorem dX5_range_106 : decode cX5_range 106 = .ok (.iload 4, 2) := by decide +kernel
theorem dX5_range_108 : decode cX5_range 108 = .ok (.invokevirtual 173, 3) := by decide +kernel
theorem dX5_range_111 : decode cX5_range 111 = .ok (.ireturn, 1) := by decide +kernel
theorem dX5_range_112 : decode cX5_range 112 = .ok (.aload_n 0, 1) := by decide +kernel
theorem dX5_range_113 : decode cX5_range 113 = .ok (.getfield 10, 3) := by decide +kernel
theorem dX5_range_116 : decode cX5_range 116 = .ok (.getfield 31, 3) := by decide +kernel
theorem dX5_range_119 : decode cX5_range 119 = .ok (.iload_n 1, 1) := by decide +kernel
theorem dX5_range_120 : decode cX5_range 120 = .ok (.iload_n 2, 1) := by decide +kernel
theorem dX5_range_121 : decode cX5_range 121 = .ok (.iload_n 3, 1) := by decide +kernel
theorem dX5_range_122 : decode cX5_range 122 = .ok (.iload 4, 2) := by decide +kernel
theorem dX5_range_124 : decode cX5_range 124 = .ok (.invokevirtual 176, 3) := by decide +kernel
theorem dX5_range_127 : decode cX5_range 127 = .ok (.ireturn, 1) := by decide +kernel
theorem dX5_range_128 : decode cX5_range 128 = .ok (.iconst (-1), 1) := by decide +kernel
theorem dX5_range_129 : decode cX5_range 129 = .ok (.ireturn, 1) := by decide +kernel
theorem dX5_nearest_0 : decode cX5_nearest 0 = .ok (.iload_n 1, 1) := by decide +kernel
theorem dX5_nearest_1 : decode cX5_nearest 1 = .ok (.iload_n 2, 1) := by decide +kernel
theorem dX5_nearest_2 : decode cX5_nearest 2 = .ok (.invokestatic 23, 3) := by decide +kernel
theorem dX5_nearest_5 : decode cX5_nearest 5 = .ok (.ifCond .eq 18, 3) := by decide +kernel
theorem dX5_nearest_8 : decode cX5_nearest 8 = .ok (.aload_n 0, 1) := by decide +kernel
theorem dX5_nearest_9 : decode cX5_nearest 9 = .ok (.getfield 10, 3) := by decide +kernel
theorem dX5_nearest_12 : decode cX5_nearest 12 = .ok (.getfield 31, 3) := by decide +kernel
theorem dX5_nearest_15 : decode cX5_nearest 15 = .ok (.iload_n 1, 1) := by decide +kernel
theorem dX5_nearest_16 : decode cX5_nearest 16 = .ok (.iload_n 2, 1) := by decide +kernel
theorem dX5_nearest_17 : decode cX5_nearest 17 = .ok (.invokevirtual 179, 3) := by decide +kernel
theorem dX5_nearest_20 : decode cX5_nearest 20 = .ok (.goto 4, 3) := by decide +kernel
theorem dX5_nearest_23 : decode cX5_nearest 23 = .ok (.iconst (-1), 1) := by decide +kernel
theorem dX5_nearest_24 : decode cX5_nearest 24 = .ok (.ireturn, 1) := by decide +kernel
theorem dX5_inOrder_0 : decode cX5_inOrder 0 = .ok (.iload_n 1, 1) := by decide +kernel
theorem dX5_inOrder_1 : decode cX5_inOrder 1 = .ok (.ifCond .ge 7, 3) := by decide +kernel
theorem dX5_inOrder_4 : decode cX5_inOrder 4 = .ok (.iconst (-1), 1) := by decide +kernel
theorem dX5_inOrder_5 : decode cX5_inOrder 5 = .ok (.goto 14, 3) := by decide +kernel
theorem dX5_inOrder_8 : decode cX5_inOrder 8 = .ok (.aload_n 0, 1) := by decide +kernel
theorem dX5_inOrder_9 : decode cX5_inOrder 9 = .ok (.getfield 10, 3) := by decide +kernel
theorem dX5_inOrder_12 : decode cX5_inOrder 12 = .ok (.getfield 74, 3) := by decide +kernel
theorem dX5_inOrder_15 : decode cX5_inOrder 15 = .ok (.iload_n 1, 1) := by decide +kernel
theorem dX5_inOrder_16 : decode cX5_inOrder 16 = .ok (.invokevirtual 182, 3) := by decide +kernel
theorem dX5_inOrder_19 : decode cX5_inOrder 19 = .ok (.ireturn, 1) := by decide +kernel
theorem dX5_payable_0 : decode cX5_payable 0 = .ok (.aload_n 0, 1) := by decide +kernel
theorem dX5_payable_1 : decode cX5_payable 1 = .ok (.getfield 10, 3) := by decide +kernel
theorem dX5_payable_4 : decode cX5_payable 4 = .ok (.getfield 74, 3) := by decide +kernel
theorem dX5_payable_7 : decode cX5_payable 7 = .ok (.iload_n 1, 1) := by decide +kernel
theorem dX5_payable_8 : decode cX5_payable 8 = .ok (.invokevirtual 78, 3) := by decide +kernel
theorem dX5_payable_11 : decode cX5_payable 11 = .ok (.ifCond .eq 14, 3) := by decide +kernel
theorem dX5_payable_14 : decode cX5_payable 14 = .ok (.aload_n 0, 1) := by decide +kernel
theorem dX5_payable_15 : decode cX5_payable 15 = .ok (.getfield 10, 3) := by decide +kernel
theorem dX5_payable_18 : decode cX5_payable 18 = .ok (.iload_n 1, 1) := by decide +kernel
theorem dX5_payable_19 : decode cX5_payable 19 = .ok (.invokevirtual 185, 3) := by decide +kernel
theorem dX5_payable_22 : decode cX5_payable 22 = .ok (.goto 4, 3) := by decide +kernel
theorem dX5_payable_25 : decode cX5_payable 25 = .ok (.iconst (-1), 1) := by decide +kernel
theorem dX5_payable_26 : decode cX5_payable 26 = .ok (.ireturn, 1) := by decide +kernel
theorem dX5_cellsWith_0 : decode cX5_cellsWith 0 = .ok (.iload_n 1, 1) := by decide +kernel
theorem dX5_cellsWith_1 : decode cX5_cellsWith 1 = .ok (.iconst 2, 1) := by decide +kernel
theorem dX5_cellsWith_2 : decode cX5_cellsWith 2 = .ok (.bipush 9, 2) := by decide +kernel
theorem dX5_cellsWith_4 : decode cX5_cellsWith 4 = .ok (.invokestatic 27, 3) := by decide +kernel
theorem dX5_cellsWith_7 : decode cX5_cellsWith 7 = .ok (.ifCond .ne 5, 3) := by decide +kernel
theorem dX5_cellsWith_10 : decode cX5_cellsWith 10 = .ok (.iconst (-1), 1) := by decide +kernel
theorem dX5_cellsWith_11 : decode cX5_cellsWith 11 = .ok (.ireturn, 1) := by decide +kernel
theorem dX5_cellsWith_12 : decode cX5_cellsWith 12 = .ok (.aload_n 0, 1) := by decide +kernel
theorem dX5_cellsWith_13 : decode cX5_cellsWith 13 = .ok (.getfield 10, 3) := by decide +kernel
theorem dX5_cellsWith_16 : decode cX5_cellsWith 16 = .ok (.getfield 31, 3) := by decide +kernel
theorem dX5_cellsWith_19 : decode cX5_cellsWith 19 = .ok (.iload_n 1, 1) := by decide +kernel
theorem dX5_cellsWith_20 : decode cX5_cellsWith 20 = .ok (.invokevirtual 188, 3) := by decide +kernel
theorem dX5_cellsWith_23 : decode cX5_cellsWith 23 = .ok (.ireturn, 1) := by decide +kernel
theorem dX5_joinable_0 : decode cX5_joinable 0 = .ok (.iconst 0, 1) := by decide +kernel
theorem dX5_joinable_1 : decode cX5_joinable 1 = .ok (.istore_n 1, 1) := by decide +kernel
theorem dX5_joinable_2 : decode cX5_joinable 2 = .ok (.iload_n 1, 1) := by decide +kernel
theorem dX5_joinable_3 : decode cX5_joinable 3 = .ok (.bipush 40, 2) := by decide +kernel
theorem dX5_joinable_5 : decode cX5_joinable 5 = .ok (.if_icmp .ge 22, 3) := by decide +kernel
theorem dX5_joinable_8 : decode cX5_joinable 8 = .ok (.aload_n 0, 1) := by decide +kernel
theorem dX5_joinable_9 : decode cX5_joinable 9 = .ok (.getfield 10, 3) := by decide +kernel
theorem dX5_joinable_12 : decode cX5_joinable 12 = .ok (.iload_n 1, 1) := by decide +kernel
theorem dX5_joinable_13 : decode cX5_joinable 13 = .ok (.invokevirtual 85, 3) := by decide +kernel
theorem dX5_joinable_16 : decode cX5_joinable 16 = .ok (.ifCond .eq 5, 3) := by decide +kernel
theorem dX5_joinable_19 : decode cX5_joinable 19 = .ok (.iload_n 1, 1) := by decide +kernel
theorem dX5_joinable_20 : decode cX5_joinable 20 = .ok (.ireturn, 1) := by decide +kernel
theorem dX5_joinable_21 : decode cX5_joinable 21 = .ok (.iinc 1 1, 3) := by decide +kernel
theorem dX5_joinable_24 : decode cX5_joinable 24 = .ok (.goto (-22), 3) := by decide +kernel
theorem dX5_joinable_27 : decode cX5_joinable 27 = .ok (.bipush (-9), 2) := by decide +kernel
theorem dX5_joinable_29 : decode cX5_joinable 29 = .ok (.ireturn, 1) := by decide +kernel
theorem dX5_isBetween_0 : decode cX5_isBetween 0 = .ok (.iload_n 0, 1) := by decide +kernel
theorem dX5_isBetween_1 : decode cX5_isBetween 1 = .ok (.iload_n 1, 1) := by decide +kernel
theorem dX5_isBetween_2 : decode cX5_isBetween 2 = .ok (.if_icmp .lt 12, 3) := by decide +kernel
theorem dX5_isBetween_5 : decode cX5_isBetween 5 = .ok (.iload_n 0, 1) := by decide +kernel
theorem dX5_isBetween_6 : decode cX5_isBetween 6 = .ok (.iload_n 2, 1) := by decide +kernel
theorem dX5_isBetween_7 : decode cX5_isBetween 7 = .ok (.if_icmp .gt 7, 3) := by decide +kernel
theorem dX5_isBetween_10 : decode cX5_isBetween 10 = .ok (.iconst 1, 1) := by decide +kernel
theorem dX5_isBetween_11 : decode cX5_isBetween 11 = .ok (.goto 4, 3) := by decide +kernel
theorem dX5_isBetween_14 : decode cX5_isBetween 14 = .ok (.iconst 0, 1) := by decide +kernel
theorem dX5_isBetween_15 : decode cX5_isBetween 15 = .ok (.ireturn, 1) := by decide +kernel
theorem dX5_isOnMap_0 : decode cX5_isOnMap 0 = .ok (.iload_n 0, 1) := by decide +kernel
theorem dX5_isOnMap_1 : decode cX5_isOnMap 1 = .ok (.iconst 0, 1) := by decide +kernel
theorem dX5_isOnMap_2 : decode cX5_isOnMap 2 = .ok (.bipush 63, 2) := by decide +kernel
theorem dX5_isOnMap_4 : decode cX5_isOnMap 4 = .ok (.invokestatic 27, 3) := by decide +kernel
theorem dX5_isOnMap_7 : decode cX5_isOnMap 7 = .ok (.ifCond .eq 17, 3) := by decide +kernel
theorem dX5_isOnMap_10 : decode cX5_isOnMap 10 = .ok (.iload_n 1, 1) := by decide +kernel
theorem dX5_isOnMap_11 : decode cX5_isOnMap 11 = .ok (.iconst 0, 1) := by decide +kernel
theorem dX5_isOnMap_12 : decode cX5_isOnMap 12 = .ok (.bipush 63, 2) := by decide +kernel
theorem dX5_isOnMap_14 : decode cX5_isOnMap 14 = .ok (.invokestatic 27, 3) := by decide +kernel
theorem dX5_isOnMap_17 : decode cX5_isOnMap 17 = .ok (.ifCond .eq 7, 3) := by decide +kernel
theorem dX5_isOnMap_20 : decode cX5_isOnMap 20 = .ok (.iconst 1, 1) := by decide +kernel
theorem dX5_isOnMap_21 : decode cX5_isOnMap 21 = .ok (.goto 4, 3) := by decide +kernel
theorem dX5_isOnMap_24 : decode cX5_isOnMap 24 = .ok (.iconst 0, 1) := by decide +kernel
theorem dX5_isOnMap_25 : decode cX5_isOnMap 25 = .ok (.ireturn, 1) := by decide +kernel
theorem dX5_sideOf_0 : decode cX5_sideOf 0 = .ok (.iload_n 0, 1) := by decide +kernel
theorem dX5_sideOf_1 : decode cX5_sideOf 1 = .ok (.ifCond .lt 15, 3) := by decide +kernel
theorem dX5_sideOf_4 : decode cX5_sideOf 4 = .ok (.iload_n 0, 1) := by decide +kernel
theorem dX5_sideOf_5 : decode cX5_sideOf 5 = .ok (.iconst 4, 1) := by decide +kernel
theorem dX5_sideOf_6 : decode cX5_sideOf 6 = .ok (.if_icmp .gt 10, 3) := by decide +kernel
theorem dX5_sideOf_9 : decode cX5_sideOf 9 = .ok (.bipush 64, 2) := by decide +kernel
theorem dX5_sideOf_11 : decode cX5_sideOf 11 = .ok (.iload_n 0, 1) := by decide +kernel
theorem dX5_sideOf_12 : decode cX5_sideOf 12 = .ok (.ishr, 1) := by decide +kernel
theorem dX5_sideOf_13 : decode cX5_sideOf 13 = .ok (.goto 4, 3) := by decide +kernel
theorem dX5_sideOf_16 : decode cX5_sideOf 16 = .ok (.iconst 0, 1) := by decide +kernel
theorem dX5_sideOf_17 : decode cX5_sideOf 17 = .ok (.ireturn, 1) := by decide +kernel
theorem dX5_quarterLeft_0 : decode cX5_quarterLeft 0 = .ok (.iload_n 0, 1) := by decide +kernel
theorem dX5_quarterLeft_1 : decode cX5_quarterLeft 1 = .ok (.iload_n 2, 1) := by decide +kernel
theorem dX5_quarterLeft_2 : decode cX5_quarterLeft 2 = .ok (.iconst 1, 1) := by decide +kernel
theorem dX5_quarterLeft_3 : decode cX5_quarterLeft 3 = .ok (.iand, 1) := by decide +kernel
theorem dX5_quarterLeft_4 : decode cX5_quarterLeft 4 = .ok (.iload_n 1, 1) := by decide +kernel
theorem dX5_quarterLeft_5 : decode cX5_quarterLeft 5 = .ok (.imul, 1) := by decide +kernel
theorem dX5_quarterLeft_6 : decode cX5_quarterLeft 6 = .ok (.iadd, 1) := by decide +kernel
theorem dX5_quarterLeft_7 : decode cX5_quarterLeft 7 = .ok (.ireturn, 1) := by decide +kernel
theorem dX5_quarterTop_0 : decode cX5_quarterTop 0 = .ok (.iload_n 0, 1) := by decide +kernel
theorem dX5_quarterTop_1 : decode cX5_quarterTop 1 = .ok (.iload_n 2, 1) := by decide +kernel
theorem dX5_quarterTop_2 : decode cX5_quarterTop 2 = .ok (.iconst 1, 1) := by decide +kernel
theorem dX5_quarterTop_3 : decode cX5_quarterTop 3 = .ok (.ishr, 1) := by decide +kernel
theorem dX5_quarterTop_4 : decode cX5_quarterTop 4 = .ok (.iload_n 1, 1) := by decide +kernel
theorem dX5_quarterTop_5 : decode cX5_quarterTop 5 = .ok (.imul, 1) := by decide +kernel
theorem dX5_quarterTop_6 : decode cX5_quarterTop 6 = .ok (.iadd, 1) := by decide +kernel
theorem dX5_quarterTop_7 : decode cX5_quarterTop 7 = .ok (.ireturn, 1) := by decide +kernel
