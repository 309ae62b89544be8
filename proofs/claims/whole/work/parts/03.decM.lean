theorem dX6_init_0 : decode cX6_init 0 = .ok (.aload_n 0, 1) := by decide +kernel
theorem dX6_init_1 : decode cX6_init 1 = .ok (.invokespecial 1, 3) := by decide +kernel
theorem dX6_init_4 : decode cX6_init 4 = .ok (.aload_n 0, 1) := by decide +kernel
theorem dX6_init_5 : decode cX6_init 5 = .ok (.sipush 11784, 3) := by decide +kernel
theorem dX6_init_8 : decode cX6_init 8 = .ok (.newarray .int, 2) := by decide +kernel
theorem dX6_init_10 : decode cX6_init 10 = .ok (.putfield 7, 3) := by decide +kernel
theorem dX6_init_13 : decode cX6_init 13 = .ok (.aload_n 0, 1) := by decide +kernel
theorem dX6_init_14 : decode cX6_init 14 = .ok (.iconst 4, 1) := by decide +kernel
theorem dX6_init_15 : decode cX6_init 15 = .ok (.newarray .int, 2) := by decide +kernel
theorem dX6_init_17 : decode cX6_init 17 = .ok (.putfield 13, 3) := by decide +kernel
theorem dX6_init_20 : decode cX6_init 20 = .ok (.aload_n 0, 1) := by decide +kernel
theorem dX6_init_21 : decode cX6_init 21 = .ok (.getfield 7, 3) := by decide +kernel
theorem dX6_init_24 : decode cX6_init 24 = .ok (.iconst 0, 1) := by decide +kernel
theorem dX6_init_25 : decode cX6_init 25 = .ok (.iconst 4, 1) := by decide +kernel
theorem dX6_init_26 : decode cX6_init 26 = .ok (.iastore, 1) := by decide +kernel
theorem dX6_init_27 : decode cX6_init 27 = .ok (.aload_n 0, 1) := by decide +kernel
theorem dX6_init_28 : decode cX6_init 28 = .ok (.getfield 7, 3) := by decide +kernel
theorem dX6_init_31 : decode cX6_init 31 = .ok (.iconst 1, 1) := by decide +kernel
theorem dX6_init_32 : decode cX6_init 32 = .ok (.iconst 3, 1) := by decide +kernel
theorem dX6_init_33 : decode cX6_init 33 = .ok (.iastore, 1) := by decide +kernel
theorem dX6_init_34 : decode cX6_init 34 = .ok (.aload_n 0, 1) := by decide +kernel
theorem dX6_init_35 : decode cX6_init 35 = .ok (.getfield 7, 3) := by decide +kernel
theorem dX6_init_38 : decode cX6_init 38 = .ok (.iconst 3, 1) := by decide +kernel
theorem dX6_init_39 : decode cX6_init 39 = .ok (.iconst 1, 1) := by decide +kernel
theorem dX6_init_40 : decode cX6_init 40 = .ok (.iastore, 1) := by decide +kernel
theorem dX6_init_41 : decode cX6_init 41 = .ok (.aload_n 0, 1) := by decide +kernel
theorem dX6_init_42 : decode cX6_init 42 = .ok (.getfield 7, 3) := by decide +kernel
theorem dX6_init_45 : decode cX6_init 45 = .ok (.sipush 204, 3) := by decide +kernel
theorem dX6_init_48 : decode cX6_init 48 = .ok (.iconst 1, 1) := by decide +kernel
theorem dX6_init_49 : decode cX6_init 49 = .ok (.iastore, 1) := by decide +kernel
theorem dX6_init_50 : decode cX6_init 50 = .ok (.return_, 1) := by decide +kernel
theorem dX6_in_0 : decode cX6_in 0 = .ok (.iload_n 0, 1) := by decide +kernel
theorem dX6_in_1 : decode cX6_in 1 = .ok (.iload_n 1, 1) := by decide +kernel
theorem dX6_in_2 : decode cX6_in 2 = .ok (.if_icmp .lt 12, 3) := by decide +kernel
theorem dX6_in_5 : decode cX6_in 5 = .ok (.iload_n 0, 1) := by decide +kernel
theorem dX6_in_6 : decode cX6_in 6 = .ok (.iload_n 2, 1) := by decide +kernel
theorem dX6_in_7 : decode cX6_in 7 = .ok (.if_icmp .gt 7, 3) := by decide +kernel
theorem dX6_in_10 : decode cX6_in 10 = .ok (.iconst 1, 1) := by decide +kernel
theorem dX6_in_11 : decode cX6_in 11 = .ok (.goto 4, 3) := by decide +kernel
theorem dX6_in_14 : decode cX6_in 14 = .ok (.iconst 0, 1) := by decide +kernel
theorem dX6_in_15 : decode cX6_in 15 = .ok (.ireturn, 1) := by decide +kernel
theorem dX6_copies_0 : decode cX6_copies 0 = .ok (.iconst 0, 1) := by decide +kernel
theorem dX6_copies_1 : decode cX6_copies 1 = .ok (.istore_n 3, 1) := by decide +kernel
theorem dX6_copies_2 : decode cX6_copies 2 = .ok (.iload_n 3, 1) := by decide +kernel
theorem dX6_copies_3 : decode cX6_copies 3 = .ok (.sipush 1964, 3) := by decide +kernel
theorem dX6_copies_6 : decode cX6_copies 6 = .ok (.if_icmp .ge 25, 3) := by decide +kernel
theorem dX6_copies_9 : decode cX6_copies 9 = .ok (.aload_n 0, 1) := by decide +kernel
theorem dX6_copies_10 : decode cX6_copies 10 = .ok (.getfield 7, 3) := by decide +kernel
theorem dX6_copies_13 : decode cX6_copies 13 = .ok (.iload_n 2, 1) := by decide +kernel
theorem dX6_copies_14 : decode cX6_copies 14 = .ok (.iload_n 3, 1) := by decide +kernel
theorem dX6_copies_15 : decode cX6_copies 15 = .ok (.iadd, 1) := by decide +kernel
theorem dX6_copies_16 : decode cX6_copies 16 = .ok (.aload_n 0, 1) := by decide +kernel
theorem dX6_copies_17 : decode cX6_copies 17 = .ok (.getfield 7, 3) := by decide +kernel
theorem dX6_copies_20 : decode cX6_copies 20 = .ok (.iload_n 1, 1) := by decide +kernel
theorem dX6_copies_21 : decode cX6_copies 21 = .ok (.iload_n 3, 1) := by decide +kernel
theorem dX6_copies_22 : decode cX6_copies 22 = .ok (.iadd, 1) := by decide +kernel
theorem dX6_copies_23 : decode cX6_copies 23 = .ok (.iaload, 1) := by decide +kernel
theorem dX6_copies_24 : decode cX6_copies 24 = .ok (.iastore, 1) := by decide +kernel
theorem dX6_copies_25 : decode cX6_copies 25 = .ok (.iinc 3 1, 3) := by decide +kernel
theorem dX6_copies_28 : decode cX6_copies 28 = .ok (.goto (-26), 3) := by decide +kernel
theorem dX6_copies_31 : decode cX6_copies 31 = .ok (.return_, 1) := by decide +kernel
theorem dX6_records_0 : decode cX6_records 0 = .ok (.aload_n 0, 1) := by decide +kernel
theorem dX6_records_1 : decode cX6_records 1 = .ok (.getfield 16, 3) := by decide +kernel
theorem dX6_records_4 : decode cX6_records 4 = .ok (.iconst 5, 1) := by decide +kernel
theorem dX6_records_5 : decode cX6_records 5 = .ok (.if_icmp .ne 42, 3) := by decide +kernel
theorem dX6_records_8 : decode cX6_records 8 = .ok (.iconst 1, 1) := by decide +kernel
theorem dX6_records_9 : decode cX6_records 9 = .ok (.istore_n 1, 1) := by decide +kernel
theorem dX6_records_10 : decode cX6_records 10 = .ok (.iload_n 1, 1) := by decide +kernel
theorem dX6_records_11 : decode cX6_records 11 = .ok (.iconst 5, 1) := by decide +kernel
theorem dX6_records_12 : decode cX6_records 12 = .ok (.if_icmp .ge 25, 3) := by decide +kernel
theorem dX6_records_15 : decode cX6_records 15 = .ok (.aload_n 0, 1) := by decide +kernel
theorem dX6_records_16 : decode cX6_records 16 = .ok (.sipush 1964, 3) := by decide +kernel
theorem dX6_records_19 : decode cX6_records 19 = .ok (.iload_n 1, 1) := by decide +kernel
theorem dX6_records_20 : decode cX6_records 20 = .ok (.iconst 1, 1) := by decide +kernel
theorem dX6_records_21 : decode cX6_records 21 = .ok (.iadd, 1) := by decide +kernel
theorem dX6_records_22 : decode cX6_records 22 = .ok (.imul, 1) := by decide +kernel
theorem dX6_records_23 : decode cX6_records 23 = .ok (.sipush 1964, 3) := by decide +kernel
theorem dX6_records_26 : decode cX6_records 26 = .ok (.iload_n 1, 1) := by decide +kernel
theorem dX6_records_27 : decode cX6_records 27 = .ok (.imul, 1) := by decide +kernel
theorem dX6_records_28 : decode cX6_records 28 = .ok (.invokevirtual 20, 3) := by decide +kernel
theorem dX6_records_31 : decode cX6_records 31 = .ok (.iinc 1 1, 3) := by decide +kernel
theorem dX6_records_34 : decode cX6_records 34 = .ok (.goto (-24), 3) := by decide +kernel
theorem dX6_records_37 : decode cX6_records 37 = .ok (.aload_n 0, 1) := by decide +kernel
theorem dX6_records_38 : decode cX6_records 38 = .ok (.dup, 1) := by decide +kernel
theorem dX6_records_39 : decode cX6_records 39 = .ok (.getfield 16, 3) := by decide +kernel
theorem dX6_records_42 : decode cX6_records 42 = .ok (.iconst 1, 1) := by decide +kernel
theorem dX6_records_43 : decode cX6_records 43 = .ok (.isub, 1) := by decide +kernel
theorem dX6_records_44 : decode cX6_records 44 = .ok (.putfield 16, 3) := by decide +kernel
theorem dX6_records_47 : decode cX6_records 47 = .ok (.aload_n 0, 1) := by decide +kernel
theorem dX6_records_48 : decode cX6_records 48 = .ok (.dup, 1) := by decide +kernel
theorem dX6_records_49 : decode cX6_records 49 = .ok (.getfield 16, 3) := by decide +kernel
theorem dX6_records_52 : decode cX6_records 52 = .ok (.iconst 1, 1) := by decide +kernel
theorem dX6_records_53 : decode cX6_records 53 = .ok (.iadd, 1) := by decide +kernel
theorem dX6_records_54 : decode cX6_records 54 = .ok (.putfield 16, 3) := by decide +kernel
theorem dX6_records_57 : decode cX6_records 57 = .ok (.aload_n 0, 1) := by decide +kernel
theorem dX6_records_58 : decode cX6_records 58 = .ok (.iconst 0, 1) := by decide +kernel
theorem dX6_records_59 : decode cX6_records 59 = .ok (.sipush 1964, 3) := by decide +kernel
theorem dX6_records_62 : decode cX6_records 62 = .ok (.aload_n 0, 1) := by decide +kernel
theorem dX6_records_63 : decode cX6_records 63 = .ok (.getfield 16, 3) := by decide +kernel
theorem dX6_records_66 : decode cX6_records 66 = .ok (.imul, 1) := by decide +kernel
theorem dX6_records_67 : decode cX6_records 67 = .ok (.invokevirtual 20, 3) := by decide +kernel
theorem dX6_records_70 : decode cX6_records 70 = .ok (.return_, 1) := by decide +kernel
theorem dX6_ofPoint_0 : decode cX6_ofPoint 0 = .ok (.aload_n 0, 1) := by decide +kernel
theorem dX6_ofPoint_1 : decode cX6_ofPoint 1 = .ok (.getfield 7, 3) := by decide +kernel
theorem dX6_ofPoint_4 : decode cX6_ofPoint 4 = .ok (.iconst 4, 1) := by decide +kernel
theorem dX6_ofPoint_5 : decode cX6_ofPoint 5 = .ok (.iconst 5, 1) := by decide +kernel
theorem dX6_ofPoint_6 : decode cX6_ofPoint 6 = .ok (.iload_n 1, 1) := by decide +kernel
theorem dX6_ofPoint_7 : decode cX6_ofPoint 7 = .ok (.imul, 1) := by decide +kernel
theorem dX6_ofPoint_8 : decode cX6_ofPoint 8 = .ok (.iadd, 1) := by decide +kernel
theorem dX6_ofPoint_9 : decode cX6_ofPoint 9 = .ok (.iload_n 2, 1) := by decide +kernel
theorem dX6_ofPoint_10 : decode cX6_ofPoint 10 = .ok (.iadd, 1) := by decide +kernel
theorem dX6_ofPoint_11 : decode cX6_ofPoint 11 = .ok (.iaload, 1) := by decide +kernel
theorem dX6_ofPoint_12 : decode cX6_ofPoint 12 = .ok (.ireturn, 1) := by decide +kernel
theorem dX6_isPoint_0 : decode cX6_isPoint 0 = .ok (.iload_n 1, 1) := by decide +kernel
theorem dX6_isPoint_1 : decode cX6_isPoint 1 = .ok (.iconst 0, 1) := by decide +kernel
theorem dX6_isPoint_2 : decode cX6_isPoint 2 = .ok (.aload_n 0, 1) := by decide +kernel
theorem dX6_isPoint_3 : decode cX6_isPoint 3 = .ok (.getfield 7, 3) := by decide +kernel
theorem dX6_isPoint_6 : decode cX6_isPoint 6 = .ok (.iconst 2, 1) := by decide +kernel
theorem dX6_isPoint_7 : decode cX6_isPoint 7 = .ok (.iaload, 1) := by decide +kernel
theorem dX6_isPoint_8 : decode cX6_isPoint 8 = .ok (.iconst 1, 1) := by decide +kernel
theorem dX6_isPoint_9 : decode cX6_isPoint 9 = .ok (.isub, 1) := by decide +kernel
theorem dX6_isPoint_10 : decode cX6_isPoint 10 = .ok (.invokestatic 24, 3) := by decide +kernel
theorem dX6_isPoint_13 : decode cX6_isPoint 13 = .ok (.ifCond .eq 17, 3) := by decide +kernel
theorem dX6_isPoint_16 : decode cX6_isPoint 16 = .ok (.aload_n 0, 1) := by decide +kernel
theorem dX6_isPoint_17 : decode cX6_isPoint 17 = .ok (.iload_n 1, 1) := by decide +kernel
theorem dX6_isPoint_18 : decode cX6_isPoint 18 = .ok (.iconst 3, 1) := by decide +kernel
theorem dX6_isPoint_19 : decode cX6_isPoint 19 = .ok (.invokevirtual 28, 3) := by decide +kernel
theorem dX6_isPoint_22 : decode cX6_isPoint 22 = .ok (.iconst 1, 1) := by decide +kernel
theorem dX6_isPoint_23 : decode cX6_isPoint 23 = .ok (.if_icmp .ne 7, 3) := by decide +kernel
theorem dX6_isPoint_26 : decode cX6_isPoint 26 = .ok (.iconst 1, 1) := by decide +kernel
theorem dX6_isPoint_27 : decode cX6_isPoint 27 = .ok (.goto 4, 3) := by decide +kernel
theorem dX6_isPoint_30 : decode cX6_isPoint 30 = .ok (.iconst 0, 1) := by decide +kernel
theorem dX6_isPoint_31 : decode cX6_isPoint 31 = .ok (.ireturn, 1) := by decide +kernel
theorem dX6_ofParish_0 : decode cX6_ofParish 0 = .ok (.aload_n 0, 1) := by decide +kernel
theorem dX6_ofParish_1 : decode cX6_ofParish 1 = .ok (.getfield 7, 3) := by decide +kernel
theorem dX6_ofParish_4 : decode cX6_ofParish 4 = .ok (.sipush 204, 3) := by decide +kernel
theorem dX6_ofParish_7 : decode cX6_ofParish 7 = .ok (.iconst 4, 1) := by decide +kernel
theorem dX6_ofParish_8 : decode cX6_ofParish 8 = .ok (.iload_n 1, 1) := by decide +kernel
theorem dX6_ofParish_9 : decode cX6_ofParish 9 = .ok (.imul, 1) := by decide +kernel
theorem dX6_ofParish_10 : decode cX6_ofParish 10 = .ok (.iadd, 1) := by decide +kernel
theorem dX6_ofParish_11 : decode cX6_ofParish 11 = .ok (.iload_n 2, 1) := by decide +kernel
theorem dX6_ofParish_12 : decode cX6_ofParish 12 = .ok (.iadd, 1) := by decide +kernel
theorem dX6_ofParish_13 : decode cX6_ofParish 13 = .ok (.iaload, 1) := by decide +kernel
theorem dX6_ofParish_14 : decode cX6_ofParish 14 = .ok (.ireturn, 1) := by decide +kernel
theorem dX6_isParish_0 : decode cX6_isParish 0 = .ok (.iload_n 1, 1) := by decide +kernel
theorem dX6_isParish_1 : decode cX6_isParish 1 = .ok (.iconst 0, 1) := by decide +kernel
theorem dX6_isParish_2 : decode cX6_isParish 2 = .ok (.aload_n 0, 1) := by decide +kernel
theorem dX6_isParish_3 : decode cX6_isParish 3 = .ok (.getfield 7, 3) := by decide +kernel
theorem dX6_isParish_6 : decode cX6_isParish 6 = .ok (.iconst 3, 1) := by decide +kernel
theorem dX6_isParish_7 : decode cX6_isParish 7 = .ok (.iaload, 1) := by decide +kernel
theorem dX6_isParish_8 : decode cX6_isParish 8 = .ok (.iconst 1, 1) := by decide +kernel
theorem dX6_isParish_9 : decode cX6_isParish 9 = .ok (.isub, 1) := by decide +kernel
theorem dX6_isParish_10 : decode cX6_isParish 10 = .ok (.invokestatic 24, 3) := by decide +kernel
theorem dX6_isParish_13 : decode cX6_isParish 13 = .ok (.ifCond .eq 17, 3) := by decide +kernel
theorem dX6_isParish_16 : decode cX6_isParish 16 = .ok (.aload_n 0, 1) := by decide +kernel
theorem dX6_isParish_17 : decode cX6_isParish 17 = .ok (.iload_n 1, 1) := by decide +kernel
theorem dX6_isParish_18 : decode cX6_isParish 18 = .ok (.iconst 0, 1) := by decide +kernel
theorem dX6_isParish_19 : decode cX6_isParish 19 = .ok (.invokevirtual 32, 3) := by decide +kernel
theorem dX6_isParish_22 : decode cX6_isParish 22 = .ok (.iconst 1, 1) := by decide +kernel
theorem dX6_isParish_23 : decode cX6_isParish 23 = .ok (.if_icmp .ne 7, 3) := by decide +kernel
theorem dX6_isParish_26 : decode cX6_isParish 26 = .ok (.iconst 1, 1) := by decide +kernel
theorem dX6_isParish_27 : decode cX6_isParish 27 = .ok (.goto 4, 3) := by decide +kernel
theorem dX6_isParish_30 : decode cX6_isParish 30 = .ok (.iconst 0, 1) := by decide +kernel
theorem dX6_isParish_31 : decode cX6_isParish 31 = .ok (.ireturn, 1) := by decide +kernel
theorem dX6_isPlace_0 : decode cX6_isPlace 0 = .ok (.iload_n 0, 1) := by decide +kernel
theorem dX6_isPlace_1 : decode cX6_isPlace 1 = .ok (.iconst 0, 1) := by decide +kernel
theorem dX6_isPlace_2 : decode cX6_isPlace 2 = .ok (.bipush 63, 2) := by decide +kernel
theorem dX6_isPlace_4 : decode cX6_isPlace 4 = .ok (.invokestatic 24, 3) := by decide +kernel
theorem dX6_isPlace_7 : decode cX6_isPlace 7 = .ok (.ifCond .eq 17, 3) := by decide +kernel
theorem dX6_isPlace_10 : decode cX6_isPlace 10 = .ok (.iload_n 1, 1) := by decide +kernel
theorem dX6_isPlace_11 : decode cX6_isPlace 11 = .ok (.iconst 0, 1) := by decide +kernel
theorem dX6_isPlace_12 : decode cX6_isPlace 12 = .ok (.bipush 63, 2) := by decide +kernel
theorem dX6_isPlace_14 : decode cX6_isPlace 14 = .ok (.invokestatic 24, 3) := by decide +kernel
theorem dX6_isPlace_17 : decode cX6_isPlace 17 = .ok (.ifCond .eq 7, 3) := by decide +kernel
theorem dX6_isPlace_20 : decode cX6_isPlace 20 = .ok (.iconst 1, 1) := by decide +kernel
theorem dX6_isPlace_21 : decode cX6_isPlace 21 = .ok (.goto 4, 3) := by decide +kernel
theorem dX6_isPlace_24 : decode cX6_isPlace 24 = .ok (.iconst 0, 1) := by decide +kernel
theorem dX6_isPlace_25 : decode cX6_isPlace 25 = .ok (.ireturn, 1) := by decide +kernel
theorem dX6_sideOf_0 : decode cX6_sideOf 0 = .ok (.bipush 64, 2) := by decide +kernel
theorem dX6_sideOf_2 : decode cX6_sideOf 2 = .ok (.aload_n 0, 1) := by decide +kernel
theorem dX6_sideOf_3 : decode cX6_sideOf 3 = .ok (.iload_n 1, 1) := by decide +kernel
theorem dX6_sideOf_4 : decode cX6_sideOf 4 = .ok (.iconst 3, 1) := by decide +kernel
theorem dX6_sideOf_5 : decode cX6_sideOf 5 = .ok (.invokevirtual 32, 3) := by decide +kernel
theorem dX6_sideOf_8 : decode cX6_sideOf 8 = .ok (.ishr, 1) := by decide +kernel
theorem dX6_sideOf_9 : decode cX6_sideOf 9 = .ok (.ireturn, 1) := by decide +kernel
theorem dX6_parishAt_0 : decode cX6_parishAt 0 = .ok (.iconst 0, 1) := by decide +kernel
theorem dX6_parishAt_1 : decode cX6_parishAt 1 = .ok (.istore_n 3, 1) := by decide +kernel
theorem dX6_parishAt_2 : decode cX6_parishAt 2 = .ok (.iload_n 3, 1) := by decide +kernel
theorem dX6_parishAt_3 : decode cX6_parishAt 3 = .ok (.aload_n 0, 1) := by decide +kernel
theorem dX6_parishAt_4 : decode cX6_parishAt 4 = .ok (.getfield 7, 3) := by decide +kernel
theorem dX6_parishAt_7 : decode cX6_parishAt 7 = .ok (.iconst 3, 1) := by decide +kernel
theorem dX6_parishAt_8 : decode cX6_parishAt 8 = .ok (.iaload, 1) := by decide +kernel
theorem dX6_parishAt_9 : decode cX6_parishAt 9 = .ok (.if_icmp .ge 71, 3) := by decide +kernel
theorem dX6_parishAt_12 : decode cX6_parishAt 12 = .ok (.iload_n 1, 1) := by decide +kernel
theorem dX6_parishAt_13 : decode cX6_parishAt 13 = .ok (.aload_n 0, 1) := by decide +kernel
theorem dX6_parishAt_14 : decode cX6_parishAt 14 = .ok (.iload_n 3, 1) := by decide +kernel
theorem dX6_parishAt_15 : decode cX6_parishAt 15 = .ok (.iconst 1, 1) := by decide +kernel
theorem dX6_parishAt_16 : decode cX6_parishAt 16 = .ok (.invokevirtual 32, 3) := by decide +kernel
theorem dX6_parishAt_19 : decode cX6_parishAt 19 = .ok (.isub, 1) := by decide +kernel
theorem dX6_parishAt_20 : decode cX6_parishAt 20 = .ok (.istore 4, 2) := by decide +kernel
theorem dX6_parishAt_22 : decode cX6_parishAt 22 = .ok (.iload_n 2, 1) := by decide +kernel
theorem dX6_parishAt_23 : decode cX6_parishAt 23 = .ok (.aload_n 0, 1) := by decide +kernel
theorem dX6_parishAt_24 : decode cX6_parishAt 24 = .ok (.iload_n 3, 1) := by decide +kernel
theorem dX6_parishAt_25 : decode cX6_parishAt 25 = .ok (.iconst 2, 1) := by decide +kernel
theorem dX6_parishAt_26 : decode cX6_parishAt 26 = .ok (.invokevirtual 32, 3) := by decide +kernel
theorem dX6_parishAt_29 : decode cX6_parishAt 29 = .ok (.isub, 1) := by decide +kernel
theorem dX6_parishAt_30 : decode cX6_parishAt 30 = .ok (.istore 5, 2) := by decide +kernel
theorem dX6_parishAt_32 : decode cX6_parishAt 32 = .ok (.aload_n 0, 1) := by decide +kernel
theorem dX6_parishAt_33 : decode cX6_parishAt 33 = .ok (.iload_n 3, 1) := by decide +kernel
theorem dX6_parishAt_34 : decode cX6_parishAt 34 = .ok (.invokevirtual 35, 3) := by decide +kernel
theorem dX6_parishAt_37 : decode cX6_parishAt 37 = .ok (.ifCond .eq 37, 3) := by decide +kernel
theorem dX6_parishAt_40 : decode cX6_parishAt 40 = .ok (.iload 4, 2) := by decide +kernel
theorem dX6_parishAt_42 : decode cX6_parishAt 42 = .ok (.iconst 0, 1) := by decide +kernel
theorem dX6_parishAt_43 : decode cX6_parishAt 43 = .ok (.aload_n 0, 1) := by decide +kernel
theorem dX6_parishAt_44 : decode cX6_parishAt 44 = .ok (.iload_n 3, 1) := by decide +kernel
theorem dX6_parishAt_45 : decode cX6_parishAt 45 = .ok (.invokevirtual 39, 3) := by decide +kernel
theorem dX6_parishAt_48 : decode cX6_parishAt 48 = .ok (.iconst 1, 1) := by decide +kernel
theorem dX6_parishAt_49 : decode cX6_parishAt 49 = .ok (.isub, 1) := by decide +kernel
theorem dX6_parishAt_50 : decode cX6_parishAt 50 = .ok (.invokestatic 24, 3) := by decide +kernel
theorem dX6_parishAt_53 : decode cX6_parishAt 53 = .ok (.ifCond .eq 21, 3) := by decide +kernel
theorem dX6_parishAt_56 : decode cX6_parishAt 56 = .ok (.iload 5, 2) := by decide +kernel
theorem dX6_parishAt_58 : decode cX6_parishAt 58 = .ok (.iconst 0, 1) := by decide +kernel
theorem dX6_parishAt_59 : decode cX6_parishAt 59 = .ok (.aload_n 0, 1) := by decide +kernel
theorem dX6_parishAt_60 : decode cX6_parishAt 60 = .ok (.iload_n 3, 1) := by decide +kernel
theorem dX6_parishAt_61 : decode cX6_parishAt 61 = .ok (.invokevirtual 39, 3) := by decide +kernel
theorem dX6_parishAt_64 : decode cX6_parishAt 64 = .ok (.iconst 1, 1) := by decide +kernel
theorem dX6_parishAt_65 : decode cX6_parishAt 65 = .ok (.isub, 1) := by decide +kernel
theorem dX6_parishAt_66 : decode cX6_parishAt 66 = .ok (.invokestatic 24, 3) := by decide +kernel
theorem dX6_parishAt_69 : decode cX6_parishAt 69 = .ok (.ifCond .eq 5, 3) := by decide +kernel
theorem dX6_parishAt_72 : decode cX6_parishAt 72 = .ok (.iload_n 3, 1) := by decide +kernel
theorem dX6_parishAt_73 : decode cX6_parishAt 73 = .ok (.ireturn, 1) := by decide +kernel
theorem dX6_parishAt_74 : decode cX6_parishAt 74 = .ok (.iinc 3 1, 3) := by decide +kernel
theorem dX6_parishAt_77 : decode cX6_parishAt 77 = .ok (.goto (-75), 3) := by decide +kernel
theorem dX6_parishAt_80 : decode cX6_parishAt 80 = .ok (.bipush (-9), 2) := by decide +kernel
theorem dX6_parishAt_82 : decode cX6_parishAt 82 = .ok (.ireturn, 1) := by decide +kernel
theorem dX6_parishOf_0 : decode cX6_parishOf 0 = .ok (.aload_n 0, 1) := by decide +kernel
theorem dX6_parishOf_1 : decode cX6_parishOf 1 = .ok (.aload_n 0, 1) := by decide +kernel
theorem dX6_parishOf_2 : decode cX6_parishOf 2 = .ok (.iload_n 1, 1) := by decide +kernel
theorem dX6_parishOf_3 : decode cX6_parishOf 3 = .ok (.iconst 0, 1) := by decide +kernel
theorem dX6_parishOf_4 : decode cX6_parishOf 4 = .ok (.invokevirtual 28, 3) := by decide +kernel
theorem dX6_parishOf_7 : decode cX6_parishOf 7 = .ok (.aload_n 0, 1) := by decide +kernel
theorem dX6_parishOf_8 : decode cX6_parishOf 8 = .ok (.iload_n 1, 1) := by decide +kernel
theorem dX6_parishOf_9 : decode cX6_parishOf 9 = .ok (.iconst 1, 1) := by decide +kernel
theorem dX6_parishOf_10 : decode cX6_parishOf 10 = .ok (.invokevirtual 28, 3) := by decide +kernel
theorem dX6_parishOf_13 : decode cX6_parishOf 13 = .ok (.invokevirtual 43, 3) := by decide +kernel
theorem dX6_parishOf_16 : decode cX6_parishOf 16 = .ok (.ireturn, 1) := by decide +kernel
theorem dX6_pointsIn_0 : decode cX6_pointsIn 0 = .ok (.iconst 0, 1) := by decide +kernel
theorem dX6_pointsIn_1 : decode cX6_pointsIn 1 = .ok (.istore 5, 2) := by decide +kernel
theorem dX6_pointsIn_3 : decode cX6_pointsIn 3 = .ok (.iconst 0, 1) := by decide +kernel
theorem dX6_pointsIn_4 : decode cX6_pointsIn 4 = .ok (.istore 6, 2) := by decide +kernel
theorem dX6_pointsIn_6 : decode cX6_pointsIn 6 = .ok (.iload 6, 2) := by decide +kernel
theorem dX6_pointsIn_8 : decode cX6_pointsIn 8 = .ok (.aload_n 0, 1) := by decide +kernel
theorem dX6_pointsIn_9 : decode cX6_pointsIn 9 = .ok (.getfield 7, 3) := by decide +kernel
theorem dX6_pointsIn_12 : decode cX6_pointsIn 12 = .ok (.iconst 2, 1) := by decide +kernel
theorem dX6_pointsIn_13 : decode cX6_pointsIn 13 = .ok (.iaload, 1) := by decide +kernel
theorem dX6_pointsIn_14 : decode cX6_pointsIn 14 = .ok (.if_icmp .ge 59, 3) := by decide +kernel
theorem dX6_pointsIn_17 : decode cX6_pointsIn 17 = .ok (.iload 5, 2) := by decide +kernel
theorem dX6_pointsIn_19 : decode cX6_pointsIn 19 = .ok (.aload_n 0, 1) := by decide +kernel
theorem dX6_pointsIn_20 : decode cX6_pointsIn 20 = .ok (.iload 6, 2) := by decide +kernel
theorem dX6_pointsIn_22 : decode cX6_pointsIn 22 = .ok (.invokevirtual 46, 3) := by decide +kernel
theorem dX6_pointsIn_25 : decode cX6_pointsIn 25 = .ok (.ifCond .eq 38, 3) := by decide +kernel
theorem dX6_pointsIn_28 : decode cX6_pointsIn 28 = .ok (.aload_n 0, 1) := by decide +kernel
theorem dX6_pointsIn_29 : decode cX6_pointsIn 29 = .ok (.iload 6, 2) := by decide +kernel
theorem dX6_pointsIn_31 : decode cX6_pointsIn 31 = .ok (.iconst 0, 1) := by decide +kernel
theorem dX6_pointsIn_32 : decode cX6_pointsIn 32 = .ok (.invokevirtual 28, 3) := by decide +kernel
theorem dX6_pointsIn_35 : decode cX6_pointsIn 35 = .ok (.iload_n 1, 1) := by decide +kernel
theorem dX6_pointsIn_36 : decode cX6_pointsIn 36 = .ok (.iload_n 3, 1) := by decide +kernel
theorem dX6_pointsIn_37 : decode cX6_pointsIn 37 = .ok (.invokestatic 24, 3) := by decide +kernel
theorem dX6_pointsIn_40 : decode cX6_pointsIn 40 = .ok (.ifCond .eq 23, 3) := by decide +kernel
theorem dX6_pointsIn_43 : decode cX6_pointsIn 43 = .ok (.aload_n 0, 1) := by decide +kernel
theorem dX6_pointsIn_44 : decode cX6_pointsIn 44 = .ok (.iload 6, 2) := by decide +kernel
theorem dX6_pointsIn_46 : decode cX6_pointsIn 46 = .ok (.iconst 1, 1) := by decide +kernel
theorem dX6_pointsIn_47 : decode cX6_pointsIn 47 = .ok (.invokevirtual 28, 3) := by decide +kernel
theorem dX6_pointsIn_50 : decode cX6_pointsIn 50 = .ok (.iload_n 2, 1) := by decide +kernel
theorem dX6_pointsIn_51 : decode cX6_pointsIn 51 = .ok (.iload 4, 2) := by decide +kernel
theorem dX6_pointsIn_53 : decode cX6_pointsIn 53 = .ok (.invokestatic 24, 3) := by decide +kernel
theorem dX6_pointsIn_56 : decode cX6_pointsIn 56 = .ok (.ifCond .eq 7, 3) := by decide +kernel
theorem dX6_pointsIn_59 : decode cX6_pointsIn 59 = .ok (.iconst 1, 1) := by decide +kernel
theorem dX6_pointsIn_60 : decode cX6_pointsIn 60 = .ok (.goto 4, 3) := by decide +kernel
theorem dX6_pointsIn_63 : decode cX6_pointsIn 63 = .ok (.iconst 0, 1) := by decide +kernel
theorem dX6_pointsIn_64 : decode cX6_pointsIn 64 = .ok (.iadd, 1) := by decide +kernel
theorem dX6_pointsIn_65 : decode cX6_pointsIn 65 = .ok (.istore 5, 2) := by decide +kernel
theorem dX6_pointsIn_67 : decode cX6_pointsIn 67 = .ok (.iinc 6 1, 3) := by decide +kernel
theorem dX6_pointsIn_70 : decode cX6_pointsIn 70 = .ok (.goto (-64), 3) := by decide +kernel
theorem dX6_pointsIn_73 : decode cX6_pointsIn 73 = .ok (.iload 5, 2) := by decide +kernel
theorem dX6_pointsIn_75 : decode cX6_pointsIn 75 = .ok (.ireturn, 1) := by decide +kernel
theorem dX6_pointsInCell_0 : decode cX6_pointsInCell 0 = .ok (.aload_n 0, 1) := by decide +kernel
theorem dX6_pointsInCell_1 : decode cX6_pointsInCell 1 = .ok (.iload_n 1, 1) := by decide +kernel
theorem dX6_pointsInCell_2 : decode cX6_pointsInCell 2 = .ok (.iload_n 2, 1) := by decide +kernel
theorem dX6_pointsInCell_3 : decode cX6_pointsInCell 3 = .ok (.iload_n 1, 1) := by decide +kernel
theorem dX6_pointsInCell_4 : decode cX6_pointsInCell 4 = .ok (.iload_n 3, 1) := by decide +kernel
theorem dX6_pointsInCell_5 : decode cX6_pointsInCell 5 = .ok (.iadd, 1) := by decide +kernel
theorem dX6_pointsInCell_6 : decode cX6_pointsInCell 6 = .ok (.iconst 1, 1) := by decide +kernel
theorem dX6_pointsInCell_7 : decode cX6_pointsInCell 7 = .ok (.isub, 1) := by decide +kernel
theorem dX6_pointsInCell_8 : decode cX6_pointsInCell 8 = .ok (.iload_n 2, 1) := by decide +kernel
theorem dX6_pointsInCell_9 : decode cX6_pointsInCell 9 = .ok (.iload_n 3, 1) := by decide +kernel
theorem dX6_pointsInCell_10 : decode cX6_pointsInCell 10 = .ok (.iadd, 1) := by decide +kernel
theorem dX6_pointsInCell_11 : decode cX6_pointsInCell 11 = .ok (.iconst 1, 1) := by decide +kernel
theorem dX6_pointsInCell_12 : decode cX6_pointsInCell 12 = .ok (.isub, 1) := by decide +kernel
theorem dX6_pointsInCell_13 : decode cX6_pointsInCell 13 = .ok (.invokevirtual 49, 3) := by decide +kernel
theorem dX6_pointsInCell_16 : decode cX6_pointsInCell 16 = .ok (.ireturn, 1) := by decide +kernel
theorem dX6_debtOf_0 : decode cX6_debtOf 0 = .ok (.aload_n 0, 1) := by decide +kernel
theorem dX6_debtOf_1 : decode cX6_debtOf 1 = .ok (.getfield 7, 3) := by decide +kernel
theorem dX6_debtOf_4 : decode cX6_debtOf 4 = .ok (.sipush 364, 3) := by decide +kernel
theorem dX6_debtOf_7 : decode cX6_debtOf 7 = .ok (.bipush 40, 2) := by decide +kernel
theorem dX6_debtOf_9 : decode cX6_debtOf 9 = .ok (.iload_n 1, 1) := by decide +kernel
theorem dX6_debtOf_10 : decode cX6_debtOf 10 = .ok (.imul, 1) := by decide +kernel
theorem dX6_debtOf_11 : decode cX6_debtOf 11 = .ok (.iadd, 1) := by decide +kernel
theorem dX6_debtOf_12 : decode cX6_debtOf 12 = .ok (.iload_n 2, 1) := by decide +kernel
theorem dX6_debtOf_13 : decode cX6_debtOf 13 = .ok (.iadd, 1) := by decide +kernel
theorem dX6_debtOf_14 : decode cX6_debtOf 14 = .ok (.iaload, 1) := by decide +kernel
theorem dX6_debtOf_15 : decode cX6_debtOf 15 = .ok (.ireturn, 1) := by decide +kernel
theorem dX6_owes_0 : decode cX6_owes 0 = .ok (.aload_n 0, 1) := by decide +kernel
theorem dX6_owes_1 : decode cX6_owes 1 = .ok (.getfield 7, 3) := by decide +kernel
theorem dX6_owes_4 : decode cX6_owes 4 = .ok (.sipush 364, 3) := by decide +kernel
theorem dX6_owes_7 : decode cX6_owes 7 = .ok (.bipush 40, 2) := by decide +kernel
theorem dX6_owes_9 : decode cX6_owes 9 = .ok (.iload_n 1, 1) := by decide +kernel
theorem dX6_owes_10 : decode cX6_owes 10 = .ok (.imul, 1) := by decide +kernel
theorem dX6_owes_11 : decode cX6_owes 11 = .ok (.iadd, 1) := by decide +kernel
theorem dX6_owes_12 : decode cX6_owes 12 = .ok (.iload_n 2, 1) := by decide +kernel
theorem dX6_owes_13 : decode cX6_owes 13 = .ok (.iadd, 1) := by decide +kernel
theorem dX6_owes_14 : decode cX6_owes 14 = .ok (.dup2, 1) := by decide +kernel
theorem dX6_owes_15 : decode cX6_owes 15 = .ok (.iaload, 1) := by decide +kernel
theorem dX6_owes_16 : decode cX6_owes 16 = .ok (.iload_n 3, 1) := by decide +kernel
theorem dX6_owes_17 : decode cX6_owes 17 = .ok (.iadd, 1) := by decide +kernel
theorem dX6_owes_18 : decode cX6_owes 18 = .ok (.iastore, 1) := by decide +kernel
theorem dX6_owes_19 : decode cX6_owes 19 = .ok (.return_, 1) := by decide +kernel
theorem dX6_owed_0 : decode cX6_owed 0 = .ok (.iconst 0, 1) := by decide +kernel
theorem dX6_owed_1 : decode cX6_owed 1 = .ok (.istore_n 2, 1) := by decide +kernel
theorem dX6_owed_2 : decode cX6_owed 2 = .ok (.iconst 0, 1) := by decide +kernel
theorem dX6_owed_3 : decode cX6_owed 3 = .ok (.istore_n 3, 1) := by decide +kernel
theorem dX6_owed_4 : decode cX6_owed 4 = .ok (.iload_n 3, 1) := by decide +kernel
theorem dX6_owed_5 : decode cX6_owed 5 = .ok (.bipush 40, 2) := by decide +kernel
theorem dX6_owed_7 : decode cX6_owed 7 = .ok (.if_icmp .ge 18, 3) := by decide +kernel
theorem dX6_owed_10 : decode cX6_owed 10 = .ok (.iload_n 2, 1) := by decide +kernel
theorem dX6_owed_11 : decode cX6_owed 11 = .ok (.aload_n 0, 1) := by decide +kernel
theorem dX6_owed_12 : decode cX6_owed 12 = .ok (.iload_n 1, 1) := by decide +kernel
theorem dX6_owed_13 : decode cX6_owed 13 = .ok (.iload_n 3, 1) := by decide +kernel
theorem dX6_owed_14 : decode cX6_owed 14 = .ok (.invokevirtual 53, 3) := by decide +kernel
theorem dX6_owed_17 : decode cX6_owed 17 = .ok (.iadd, 1) := by decide +kernel
theorem dX6_owed_18 : decode cX6_owed 18 = .ok (.istore_n 2, 1) := by decide +kernel
theorem dX6_owed_19 : decode cX6_owed 19 = .ok (.iinc 3 1, 3) := by decide +kernel
theorem dX6_owed_22 : decode cX6_owed 22 = .ok (.goto (-18), 3) := by decide +kernel
theorem dX6_owed_25 : decode cX6_owed 25 = .ok (.iload_n 2, 1) := by decide +kernel
theorem dX6_owed_26 : decode cX6_owed 26 = .ok (.ireturn, 1) := by decide +kernel
theorem dX6_setParish_0 : decode cX6_setParish 0 = .ok (.aload_n 0, 1) := by decide +kernel
theorem dX6_setParish_1 : decode cX6_setParish 1 = .ok (.getfield 7, 3) := by decide +kernel
theorem dX6_setParish_4 : decode cX6_setParish 4 = .ok (.sipush 204, 3) := by decide +kernel
theorem dX6_setParish_7 : decode cX6_setParish 7 = .ok (.iconst 4, 1) := by decide +kernel
theorem dX6_setParish_8 : decode cX6_setParish 8 = .ok (.iload_n 1, 1) := by decide +kernel
theorem dX6_setParish_9 : decode cX6_setParish 9 = .ok (.imul, 1) := by decide +kernel
theorem dX6_setParish_10 : decode cX6_setParish 10 = .ok (.iadd, 1) := by decide +kernel
theorem dX6_setParish_11 : decode cX6_setParish 11 = .ok (.iconst 1, 1) := by decide +kernel
theorem dX6_setParish_12 : decode cX6_setParish 12 = .ok (.iastore, 1) := by decide +kernel
theorem dX6_setParish_13 : decode cX6_setParish 13 = .ok (.aload_n 0, 1) := by decide +kernel
theorem dX6_setParish_14 : decode cX6_setParish 14 = .ok (.getfield 7, 3) := by decide +kernel
theorem dX6_setParish_17 : decode cX6_setParish 17 = .ok (.sipush 204, 3) := by decide +kernel
theorem dX6_setParish_20 : decode cX6_setParish 20 = .ok (.iconst 4, 1) := by decide +kernel
theorem dX6_setParish_21 : decode cX6_setParish 21 = .ok (.iload_n 1, 1) := by decide +kernel
theorem dX6_setParish_22 : decode cX6_setParish 22 = .ok (.imul, 1) := by decide +kernel
theorem dX6_setParish_23 : decode cX6_setParish 23 = .ok (.iadd, 1) := by decide +kernel
theorem dX6_setParish_24 : decode cX6_setParish 24 = .ok (.iconst 1, 1) := by decide +kernel
theorem dX6_setParish_25 : decode cX6_setParish 25 = .ok (.iadd, 1) := by decide +kernel
theorem dX6_setParish_26 : decode cX6_setParish 26 = .ok (.iload_n 2, 1) := by decide +kernel
theorem dX6_setParish_27 : decode cX6_setParish 27 = .ok (.iastore, 1) := by decide +kernel
theorem dX6_setParish_28 : decode cX6_setParish 28 = .ok (.aload_n 0, 1) := by decide +kernel
theorem dX6_setParish_29 : decode cX6_setParish 29 = .ok (.getfield 7, 3) := by decide +kernel
theorem dX6_setParish_32 : decode cX6_setParish 32 = .ok (.sipush 204, 3) := by decide +kernel
theorem dX6_setParish_35 : decode cX6_setParish 35 = .ok (.iconst 4, 1) := by decide +kernel
theorem dX6_setParish_36 : decode cX6_setParish 36 = .ok (.iload_n 1, 1) := by decide +kernel
theorem dX6_setParish_37 : decode cX6_setParish 37 = .ok (.imul, 1) := by decide +kernel
theorem dX6_setParish_38 : decode cX6_setParish 38 = .ok (.iadd, 1) := by decide +kernel
theorem dX6_setParish_39 : decode cX6_setParish 39 = .ok (.iconst 2, 1) := by decide +kernel
theorem dX6_setParish_40 : decode cX6_setParish 40 = .ok (.iadd, 1) := by decide +kernel
theorem dX6_setParish_41 : decode cX6_setParish 41 = .ok (.iload_n 3, 1) := by decide +kernel
theorem dX6_setParish_42 : decode cX6_setParish 42 = .ok (.iastore, 1) := by decide +kernel
theorem dX6_setParish_43 : decode cX6_setParish 43 = .ok (.aload_n 0, 1) := by decide +kernel
theorem dX6_setParish_44 : decode cX6_setParish 44 = .ok (.getfield 7, 3) := by decide +kernel
theorem dX6_setParish_47 : decode cX6_setParish 47 = .ok (.sipush 204, 3) := by decide +kernel
theorem dX6_setParish_50 : decode cX6_setParish 50 = .ok (.iconst 4, 1) := by decide +kernel
theorem dX6_setParish_51 : decode cX6_setParish 51 = .ok (.iload_n 1, 1) := by decide +kernel
theorem dX6_setParish_52 : decode cX6_setParish 52 = .ok (.imul, 1) := by decide +kernel
theorem dX6_setParish_53 : decode cX6_setParish 53 = .ok (.iadd, 1) := by decide +kernel
theorem dX6_setParish_54 : decode cX6_setParish 54 = .ok (.iconst 3, 1) := by decide +kernel
theorem dX6_setParish_55 : decode cX6_setParish 55 = .ok (.iadd, 1) := by decide +kernel
theorem dX6_setParish_56 : decode cX6_setParish 56 = .ok (.iload 4, 2) := by decide +kernel
theorem dX6_setParish_58 : decode cX6_setParish 58 = .ok (.iastore, 1) := by decide +kernel
theorem dX6_setParish_59 : decode cX6_setParish 59 = .ok (.return_, 1) := by decide +kernel
theorem dX6_setLord_0 : decode cX6_setLord 0 = .ok (.aload_n 0, 1) := by decide +kernel
theorem dX6_setLord_1 : decode cX6_setLord 1 = .ok (.getfield 7, 3) := by decide +kernel
theorem dX6_setLord_4 : decode cX6_setLord 4 = .ok (.iconst 4, 1) := by decide +kernel
theorem dX6_setLord_5 : decode cX6_setLord 5 = .ok (.iconst 5, 1) := by decide +kernel
theorem dX6_setLord_6 : decode cX6_setLord 6 = .ok (.iload_n 1, 1) := by decide +kernel
theorem dX6_setLord_7 : decode cX6_setLord 7 = .ok (.imul, 1) := by decide +kernel
theorem dX6_setLord_8 : decode cX6_setLord 8 = .ok (.iadd, 1) := by decide +kernel
theorem dX6_setLord_9 : decode cX6_setLord 9 = .ok (.iconst 4, 1) := by decide +kernel
theorem dX6_setLord_10 : decode cX6_setLord 10 = .ok (.iadd, 1) := by decide +kernel
theorem dX6_setLord_11 : decode cX6_setLord 11 = .ok (.iload_n 2, 1) := by decide +kernel
theorem dX6_setLord_12 : decode cX6_setLord 12 = .ok (.iastore, 1) := by decide +kernel
theorem dX6_setLord_13 : decode cX6_setLord 13 = .ok (.return_, 1) := by decide +kernel
theorem dX6_isCrowded_0 : decode cX6_isCrowded 0 = .ok (.aload_n 0, 1) := by decide +kernel
theorem dX6_isCrowded_1 : decode cX6_isCrowded 1 = .ok (.aload_n 0, 1) := by decide +kernel
theorem dX6_isCrowded_2 : decode cX6_isCrowded 2 = .ok (.iload_n 1, 1) := by decide +kernel
theorem dX6_isCrowded_3 : decode cX6_isCrowded 3 = .ok (.iconst 1, 1) := by decide +kernel
theorem dX6_isCrowded_4 : decode cX6_isCrowded 4 = .ok (.invokevirtual 32, 3) := by decide +kernel
theorem dX6_isCrowded_7 : decode cX6_isCrowded 7 = .ok (.aload_n 0, 1) := by decide +kernel
theorem dX6_isCrowded_8 : decode cX6_isCrowded 8 = .ok (.iload_n 1, 1) := by decide +kernel
theorem dX6_isCrowded_9 : decode cX6_isCrowded 9 = .ok (.iconst 2, 1) := by decide +kernel
theorem dX6_isCrowded_10 : decode cX6_isCrowded 10 = .ok (.invokevirtual 32, 3) := by decide +kernel
theorem dX6_isCrowded_13 : decode cX6_isCrowded 13 = .ok (.aload_n 0, 1) := by decide +kernel
theorem dX6_isCrowded_14 : decode cX6_isCrowded 14 = .ok (.iload_n 1, 1) := by decide +kernel
theorem dX6_isCrowded_15 : decode cX6_isCrowded 15 = .ok (.invokevirtual 39, 3) := by decide +kernel
theorem dX6_isCrowded_18 : decode cX6_isCrowded 18 = .ok (.invokevirtual 56, 3) := by decide +kernel
theorem dX6_isCrowded_21 : decode cX6_isCrowded 21 = .ok (.aload_n 0, 1) := by decide +kernel
theorem dX6_isCrowded_22 : decode cX6_isCrowded 22 = .ok (.getfield 7, 3) := by decide +kernel
theorem dX6_isCrowded_25 : decode cX6_isCrowded 25 = .ok (.iconst 0, 1) := by decide +kernel
theorem dX6_isCrowded_26 : decode cX6_isCrowded 26 = .ok (.iaload, 1) := by decide +kernel
theorem dX6_isCrowded_27 : decode cX6_isCrowded 27 = .ok (.if_icmp .le 7, 3) := by decide +kernel
theorem dX6_isCrowded_30 : decode cX6_isCrowded 30 = .ok (.iconst 1, 1) := by decide +kernel
theorem dX6_isCrowded_31 : decode cX6_isCrowded 31 = .ok (.goto 4, 3) := by decide +kernel
theorem dX6_isCrowded_34 : decode cX6_isCrowded 34 = .ok (.iconst 0, 1) := by decide +kernel
theorem dX6_isCrowded_35 : decode cX6_isCrowded 35 = .ok (.ireturn, 1) := by decide +kernel
theorem dX6_toSplit_0 : decode cX6_toSplit 0 = .ok (.iconst 0, 1) := by decide +kernel
theorem dX6_toSplit_1 : decode cX6_toSplit 1 = .ok (.istore_n 1, 1) := by decide +kernel
theorem dX6_toSplit_2 : decode cX6_toSplit 2 = .ok (.iload_n 1, 1) := by decide +kernel
theorem dX6_toSplit_3 : decode cX6_toSplit 3 = .ok (.aload_n 0, 1) := by decide +kernel
theorem dX6_toSplit_4 : decode cX6_toSplit 4 = .ok (.getfield 7, 3) := by decide +kernel
theorem dX6_toSplit_7 : decode cX6_toSplit 7 = .ok (.iconst 3, 1) := by decide +kernel
theorem dX6_toSplit_8 : decode cX6_toSplit 8 = .ok (.iaload, 1) := by decide +kernel
theorem dX6_toSplit_9 : decode cX6_toSplit 9 = .ok (.if_icmp .ge 37, 3) := by decide +kernel
theorem dX6_toSplit_12 : decode cX6_toSplit 12 = .ok (.aload_n 0, 1) := by decide +kernel
theorem dX6_toSplit_13 : decode cX6_toSplit 13 = .ok (.iload_n 1, 1) := by decide +kernel
theorem dX6_toSplit_14 : decode cX6_toSplit 14 = .ok (.invokevirtual 35, 3) := by decide +kernel
theorem dX6_toSplit_17 : decode cX6_toSplit 17 = .ok (.ifCond .eq 23, 3) := by decide +kernel
theorem dX6_toSplit_20 : decode cX6_toSplit 20 = .ok (.aload_n 0, 1) := by decide +kernel
theorem dX6_toSplit_21 : decode cX6_toSplit 21 = .ok (.iload_n 1, 1) := by decide +kernel
theorem dX6_toSplit_22 : decode cX6_toSplit 22 = .ok (.iconst 3, 1) := by decide +kernel
theorem dX6_toSplit_23 : decode cX6_toSplit 23 = .ok (.invokevirtual 32, 3) := by decide +kernel
theorem dX6_toSplit_26 : decode cX6_toSplit 26 = .ok (.iconst 4, 1) := by decide +kernel
theorem dX6_toSplit_27 : decode cX6_toSplit 27 = .ok (.if_icmp .ge 13, 3) := by decide +kernel
theorem dX6_toSplit_30 : decode cX6_toSplit 30 = .ok (.aload_n 0, 1) := by decide +kernel
theorem dX6_toSplit_31 : decode cX6_toSplit 31 = .ok (.iload_n 1, 1) := by decide +kernel
theorem dX6_toSplit_32 : decode cX6_toSplit 32 = .ok (.invokevirtual 60, 3) := by decide +kernel
theorem dX6_toSplit_35 : decode cX6_toSplit 35 = .ok (.ifCond .eq 5, 3) := by decide +kernel
theorem dX6_toSplit_38 : decode cX6_toSplit 38 = .ok (.iload_n 1, 1) := by decide +kernel
theorem dX6_toSplit_39 : decode cX6_toSplit 39 = .ok (.ireturn, 1) := by decide +kernel
theorem dX6_toSplit_40 : decode cX6_toSplit 40 = .ok (.iinc 1 1, 3) := by decide +kernel
theorem dX6_toSplit_43 : decode cX6_toSplit 43 = .ok (.goto (-41), 3) := by decide +kernel
theorem dX6_toSplit_46 : decode cX6_toSplit 46 = .ok (.bipush (-9), 2) := by decide +kernel
theorem dX6_toSplit_48 : decode cX6_toSplit 48 = .ok (.ireturn, 1) := by decide +kernel
theorem dX6_settles_0 : decode cX6_settles 0 = .ok (.aload_n 0, 1) := by decide +kernel
theorem dX6_settles_1 : decode cX6_settles 1 = .ok (.invokevirtual 63, 3) := by decide +kernel
theorem dX6_settles_4 : decode cX6_settles 4 = .ok (.istore_n 1, 1) := by decide +kernel
theorem dX6_settles_5 : decode cX6_settles 5 = .ok (.iload_n 1, 1) := by decide +kernel
theorem dX6_settles_6 : decode cX6_settles 6 = .ok (.bipush (-9), 2) := by decide +kernel
theorem dX6_settles_8 : decode cX6_settles 8 = .ok (.if_icmp .eq 27, 3) := by decide +kernel
theorem dX6_settles_11 : decode cX6_settles 11 = .ok (.aload_n 0, 1) := by decide +kernel
theorem dX6_settles_12 : decode cX6_settles 12 = .ok (.getfield 7, 3) := by decide +kernel
theorem dX6_settles_15 : decode cX6_settles 15 = .ok (.iconst 3, 1) := by decide +kernel
theorem dX6_settles_16 : decode cX6_settles 16 = .ok (.iaload, 1) := by decide +kernel
theorem dX6_settles_17 : decode cX6_settles 17 = .ok (.bipush 38, 2) := by decide +kernel
theorem dX6_settles_19 : decode cX6_settles 19 = .ok (.if_icmp .ge 16, 3) := by decide +kernel
theorem dX6_settles_22 : decode cX6_settles 22 = .ok (.aload_n 0, 1) := by decide +kernel
theorem dX6_settles_23 : decode cX6_settles 23 = .ok (.iload_n 1, 1) := by decide +kernel
theorem dX6_settles_24 : decode cX6_settles 24 = .ok (.invokevirtual 67, 3) := by decide +kernel
theorem dX6_settles_27 : decode cX6_settles 27 = .ok (.aload_n 0, 1) := by decide +kernel
theorem dX6_settles_28 : decode cX6_settles 28 = .ok (.invokevirtual 63, 3) := by decide +kernel
theorem dX6_settles_31 : decode cX6_settles 31 = .ok (.istore_n 1, 1) := by decide +kernel
theorem dX6_settles_32 : decode cX6_settles 32 = .ok (.goto (-27), 3) := by decide +kernel
theorem dX6_settles_35 : decode cX6_settles 35 = .ok (.return_, 1) := by decide +kernel
theorem dX6_splits_0 : decode cX6_splits 0 = .ok (.aload_n 0, 1) := by decide +kernel
theorem dX6_splits_1 : decode cX6_splits 1 = .ok (.iload_n 1, 1) := by decide +kernel
theorem dX6_splits_2 : decode cX6_splits 2 = .ok (.iconst 1, 1) := by decide +kernel
theorem dX6_splits_3 : decode cX6_splits 3 = .ok (.invokevirtual 32, 3) := by decide +kernel
theorem dX6_splits_6 : decode cX6_splits 6 = .ok (.istore_n 2, 1) := by decide +kernel
theorem dX6_splits_7 : decode cX6_splits 7 = .ok (.aload_n 0, 1) := by decide +kernel
theorem dX6_splits_8 : decode cX6_splits 8 = .ok (.iload_n 1, 1) := by decide +kernel
theorem dX6_splits_9 : decode cX6_splits 9 = .ok (.iconst 2, 1) := by decide +kernel
theorem dX6_splits_10 : decode cX6_splits 10 = .ok (.invokevirtual 32, 3) := by decide +kernel
theorem dX6_splits_13 : decode cX6_splits 13 = .ok (.istore_n 3, 1) := by decide +kernel
theorem dX6_splits_14 : decode cX6_splits 14 = .ok (.aload_n 0, 1) := by decide +kernel
theorem dX6_splits_15 : decode cX6_splits 15 = .ok (.iload_n 1, 1) := by decide +kernel
theorem dX6_splits_16 : decode cX6_splits 16 = .ok (.iconst 3, 1) := by decide +kernel
theorem dX6_splits_17 : decode cX6_splits 17 = .ok (.invokevirtual 32, 3) := by decide +kernel
theorem dX6_splits_20 : decode cX6_splits 20 = .ok (.iconst 1, 1) := by decide +kernel
theorem dX6_splits_21 : decode cX6_splits 21 = .ok (.iadd, 1) := by decide +kernel
theorem dX6_splits_22 : decode cX6_splits 22 = .ok (.istore 4, 2) := by decide +kernel
theorem dX6_splits_24 : decode cX6_splits 24 = .ok (.bipush 64, 2) := by decide +kernel
theorem dX6_splits_26 : decode cX6_splits 26 = .ok (.iload 4, 2) := by decide +kernel
theorem dX6_splits_28 : decode cX6_splits 28 = .ok (.ishr, 1) := by decide +kernel
theorem dX6_splits_29 : decode cX6_splits 29 = .ok (.istore 5, 2) := by decide +kernel
theorem dX6_splits_31 : decode cX6_splits 31 = .ok (.iconst 0, 1) := by decide +kernel
theorem dX6_splits_32 : decode cX6_splits 32 = .ok (.istore 6, 2) := by decide +kernel
theorem dX6_splits_34 : decode cX6_splits 34 = .ok (.iconst (-1), 1) := by decide +kernel
theorem dX6_splits_35 : decode cX6_splits 35 = .ok (.istore 7, 2) := by decide +kernel
theorem dX6_splits_37 : decode cX6_splits 37 = .ok (.iconst 0, 1) := by decide +kernel
theorem dX6_splits_38 : decode cX6_splits 38 = .ok (.istore 8, 2) := by decide +kernel
theorem dX6_splits_40 : decode cX6_splits 40 = .ok (.iload 8, 2) := by decide +kernel
theorem dX6_splits_42 : decode cX6_splits 42 = .ok (.iconst 4, 1) := by decide +kernel
theorem dX6_splits_43 : decode cX6_splits 43 = .ok (.if_icmp .ge 67, 3) := by decide +kernel
theorem dX6_splits_46 : decode cX6_splits 46 = .ok (.aload_n 0, 1) := by decide +kernel
theorem dX6_splits_47 : decode cX6_splits 47 = .ok (.iload_n 2, 1) := by decide +kernel
theorem dX6_splits_48 : decode cX6_splits 48 = .ok (.iload 5, 2) := by decide +kernel
theorem dX6_splits_50 : decode cX6_splits 50 = .ok (.iload 8, 2) := by decide +kernel
theorem dX6_splits_52 : decode cX6_splits 52 = .ok (.iconst 2, 1) := by decide +kernel
theorem dX6_splits_53 : decode cX6_splits 53 = .ok (.irem, 1) := by decide +kernel
theorem dX6_splits_54 : decode cX6_splits 54 = .ok (.imul, 1) := by decide +kernel
theorem dX6_splits_55 : decode cX6_splits 55 = .ok (.iadd, 1) := by decide +kernel
theorem dX6_splits_56 : decode cX6_splits 56 = .ok (.iload_n 3, 1) := by decide +kernel
theorem dX6_splits_57 : decode cX6_splits 57 = .ok (.iload 5, 2) := by decide +kernel
theorem dX6_splits_59 : decode cX6_splits 59 = .ok (.iload 8, 2) := by decide +kernel
theorem dX6_splits_61 : decode cX6_splits 61 = .ok (.iconst 2, 1) := by decide +kernel
theorem dX6_splits_62 : decode cX6_splits 62 = .ok (.idiv, 1) := by decide +kernel
theorem dX6_splits_63 : decode cX6_splits 63 = .ok (.imul, 1) := by decide +kernel
theorem dX6_splits_64 : decode cX6_splits 64 = .ok (.iadd, 1) := by decide +kernel
theorem dX6_splits_65 : decode cX6_splits 65 = .ok (.iload 5, 2) := by decide +kernel
theorem dX6_splits_67 : decode cX6_splits 67 = .ok (.invokevirtual 56, 3) := by decide +kernel
theorem dX6_splits_70 : decode cX6_splits 70 = .ok (.istore 9, 2) := by decide +kernel
theorem dX6_splits_72 : decode cX6_splits 72 = .ok (.iload 9, 2) := by decide +kernel
theorem dX6_splits_74 : decode cX6_splits 74 = .ok (.iload 7, 2) := by decide +kernel
theorem dX6_splits_76 : decode cX6_splits 76 = .ok (.if_icmp .le 8, 3) := by decide +kernel
theorem dX6_splits_79 : decode cX6_splits 79 = .ok (.iload 8, 2) := by decide +kernel
theorem dX6_splits_81 : decode cX6_splits 81 = .ok (.goto 5, 3) := by decide +kernel
theorem dX6_splits_84 : decode cX6_splits 84 = .ok (.iload 6, 2) := by decide +kernel
theorem dX6_splits_86 : decode cX6_splits 86 = .ok (.istore 6, 2) := by decide +kernel
theorem dX6_splits_88 : decode cX6_splits 88 = .ok (.iload 9, 2) := by decide +kernel
theorem dX6_splits_90 : decode cX6_splits 90 = .ok (.iload 7, 2) := by decide +kernel
theorem dX6_splits_92 : decode cX6_splits 92 = .ok (.if_icmp .le 8, 3) := by decide +kernel
theorem dX6_splits_95 : decode cX6_splits 95 = .ok (.iload 9, 2) := by decide +kernel
theorem dX6_splits_97 : decode cX6_splits 97 = .ok (.goto 5, 3) := by decide +kernel
theorem dX6_splits_100 : decode cX6_splits 100 = .ok (.iload 7, 2) := by decide +kernel
theorem dX6_splits_102 : decode cX6_splits 102 = .ok (.istore 7, 2) := by decide +kernel
theorem dX6_splits_104 : decode cX6_splits 104 = .ok (.iinc 8 1, 3) := by decide +kernel
theorem dX6_splits_107 : decode cX6_splits 107 = .ok (.goto (-67), 3) := by decide +kernel
theorem dX6_splits_110 : decode cX6_splits 110 = .ok (.aload_n 0, 1) := by decide +kernel
theorem dX6_splits_111 : decode cX6_splits 111 = .ok (.iload_n 1, 1) := by decide +kernel
theorem dX6_splits_112 : decode cX6_splits 112 = .ok (.iload_n 2, 1) := by decide +kernel
theorem dX6_splits_113 : decode cX6_splits 113 = .ok (.iload 5, 2) := by decide +kernel
theorem dX6_splits_115 : decode cX6_splits 115 = .ok (.iload 6, 2) := by decide +kernel
theorem dX6_splits_117 : decode cX6_splits 117 = .ok (.iconst 2, 1) := by decide +kernel
theorem dX6_splits_118 : decode cX6_splits 118 = .ok (.irem, 1) := by decide +kernel
theorem dX6_splits_119 : decode cX6_splits 119 = .ok (.imul, 1) := by decide +kernel
theorem dX6_splits_120 : decode cX6_splits 120 = .ok (.iadd, 1) := by decide +kernel
theorem dX6_splits_121 : decode cX6_splits 121 = .ok (.iload_n 3, 1) := by decide +kernel
theorem dX6_splits_122 : decode cX6_splits 122 = .ok (.iload 5, 2) := by decide +kernel
theorem dX6_splits_124 : decode cX6_splits 124 = .ok (.iload 6, 2) := by decide +kernel
theorem dX6_splits_126 : decode cX6_splits 126 = .ok (.iconst 2, 1) := by decide +kernel
theorem dX6_splits_127 : decode cX6_splits 127 = .ok (.idiv, 1) := by decide +kernel
theorem dX6_splits_128 : decode cX6_splits 128 = .ok (.imul, 1) := by decide +kernel
theorem dX6_splits_129 : decode cX6_splits 129 = .ok (.iadd, 1) := by decide +kernel
theorem dX6_splits_130 : decode cX6_splits 130 = .ok (.iload 4, 2) := by decide +kernel
theorem dX6_splits_132 : decode cX6_splits 132 = .ok (.invokevirtual 71, 3) := by decide +kernel
theorem dX6_splits_135 : decode cX6_splits 135 = .ok (.iconst 0, 1) := by decide +kernel
theorem dX6_splits_136 : decode cX6_splits 136 = .ok (.istore 8, 2) := by decide +kernel
theorem dX6_splits_138 : decode cX6_splits 138 = .ok (.iload 8, 2) := by decide +kernel
theorem dX6_splits_140 : decode cX6_splits 140 = .ok (.iconst 4, 1) := by decide +kernel
theorem dX6_splits_141 : decode cX6_splits 141 = .ok (.if_icmp .ge 41, 3) := by decide +kernel
theorem dX6_splits_144 : decode cX6_splits 144 = .ok (.iload 8, 2) := by decide +kernel
theorem dX6_splits_146 : decode cX6_splits 146 = .ok (.iload 6, 2) := by decide +kernel
theorem dX6_splits_148 : decode cX6_splits 148 = .ok (.if_icmp .eq 28, 3) := by decide +kernel
theorem dX6_splits_151 : decode cX6_splits 151 = .ok (.aload_n 0, 1) := by decide +kernel
theorem dX6_splits_152 : decode cX6_splits 152 = .ok (.iload_n 1, 1) := by decide +kernel
theorem dX6_splits_153 : decode cX6_splits 153 = .ok (.iload_n 2, 1) := by decide +kernel
theorem dX6_splits_154 : decode cX6_splits 154 = .ok (.iload 5, 2) := by decide +kernel
theorem dX6_splits_156 : decode cX6_splits 156 = .ok (.iload 8, 2) := by decide +kernel
theorem dX6_splits_158 : decode cX6_splits 158 = .ok (.iconst 2, 1) := by decide +kernel
theorem dX6_splits_159 : decode cX6_splits 159 = .ok (.irem, 1) := by decide +kernel
theorem dX6_splits_160 : decode cX6_splits 160 = .ok (.imul, 1) := by decide +kernel
theorem dX6_splits_161 : decode cX6_splits 161 = .ok (.iadd, 1) := by decide +kernel
theorem dX6_splits_162 : decode cX6_splits 162 = .ok (.iload_n 3, 1) := by decide +kernel
theorem dX6_splits_163 : decode cX6_splits 163 = .ok (.iload 5, 2) := by decide +kernel
theorem dX6_splits_165 : decode cX6_splits 165 = .ok (.iload 8, 2) := by decide +kernel
theorem dX6_splits_167 : decode cX6_splits 167 = .ok (.iconst 2, 1) := by decide +kernel
theorem dX6_splits_168 : decode cX6_splits 168 = .ok (.idiv, 1) := by decide +kernel
theorem dX6_splits_169 : decode cX6_splits 169 = .ok (.imul, 1) := by decide +kernel
theorem dX6_splits_170 : decode cX6_splits 170 = .ok (.iadd, 1) := by decide +kernel
theorem dX6_splits_171 : decode cX6_splits 171 = .ok (.iload 4, 2) := by decide +kernel
theorem dX6_splits_173 : decode cX6_splits 173 = .ok (.invokevirtual 75, 3) := by decide +kernel
theorem dX6_splits_176 : decode cX6_splits 176 = .ok (.iinc 8 1, 3) := by decide +kernel
theorem dX6_splits_179 : decode cX6_splits 179 = .ok (.goto (-41), 3) := by decide +kernel
theorem dX6_splits_182 : decode cX6_splits 182 = .ok (.return_, 1) := by decide +kernel
theorem dX6_founds_0 : decode cX6_founds 0 = .ok (.aload_n 0, 1) := by decide +kernel
theorem dX6_founds_1 : decode cX6_founds 1 = .ok (.getfield 7, 3) := by decide +kernel
theorem dX6_founds_4 : decode cX6_founds 4 = .ok (.iconst 3, 1) := by decide +kernel
theorem dX6_founds_5 : decode cX6_founds 5 = .ok (.iaload, 1) := by decide +kernel
theorem dX6_founds_6 : decode cX6_founds 6 = .ok (.istore 5, 2) := by decide +kernel
theorem dX6_founds_8 : decode cX6_founds 8 = .ok (.bipush 64, 2) := by decide +kernel
theorem dX6_founds_10 : decode cX6_founds 10 = .ok (.iload 4, 2) := by decide +kernel
theorem dX6_founds_12 : decode cX6_founds 12 = .ok (.ishr, 1) := by decide +kernel
theorem dX6_founds_13 : decode cX6_founds 13 = .ok (.istore 6, 2) := by decide +kernel
theorem dX6_founds_15 : decode cX6_founds 15 = .ok (.aload_n 0, 1) := by decide +kernel
theorem dX6_founds_16 : decode cX6_founds 16 = .ok (.getfield 7, 3) := by decide +kernel
theorem dX6_founds_19 : decode cX6_founds 19 = .ok (.iconst 3, 1) := by decide +kernel
theorem dX6_founds_20 : decode cX6_founds 20 = .ok (.dup2, 1) := by decide +kernel
theorem dX6_founds_21 : decode cX6_founds 21 = .ok (.iaload, 1) := by decide +kernel
theorem dX6_founds_22 : decode cX6_founds 22 = .ok (.iconst 1, 1) := by decide +kernel
theorem dX6_founds_23 : decode cX6_founds 23 = .ok (.iadd, 1) := by decide +kernel
theorem dX6_founds_24 : decode cX6_founds 24 = .ok (.iastore, 1) := by decide +kernel
theorem dX6_founds_25 : decode cX6_founds 25 = .ok (.aload_n 0, 1) := by decide +kernel
theorem dX6_founds_26 : decode cX6_founds 26 = .ok (.iload 5, 2) := by decide +kernel
theorem dX6_founds_28 : decode cX6_founds 28 = .ok (.iload_n 2, 1) := by decide +kernel
theorem dX6_founds_29 : decode cX6_founds 29 = .ok (.iload_n 3, 1) := by decide +kernel
theorem dX6_founds_30 : decode cX6_founds 30 = .ok (.iload 4, 2) := by decide +kernel
theorem dX6_founds_32 : decode cX6_founds 32 = .ok (.invokevirtual 71, 3) := by decide +kernel
theorem dX6_founds_35 : decode cX6_founds 35 = .ok (.aload_n 0, 1) := by decide +kernel
theorem dX6_founds_36 : decode cX6_founds 36 = .ok (.iload_n 2, 1) := by decide +kernel
theorem dX6_founds_37 : decode cX6_founds 37 = .ok (.iload_n 3, 1) := by decide +kernel
theorem dX6_founds_38 : decode cX6_founds 38 = .ok (.iload 6, 2) := by decide +kernel
theorem dX6_founds_40 : decode cX6_founds 40 = .ok (.invokevirtual 56, 3) := by decide +kernel
theorem dX6_founds_43 : decode cX6_founds 43 = .ok (.istore 7, 2) := by decide +kernel
theorem dX6_founds_45 : decode cX6_founds 45 = .ok (.aload_n 0, 1) := by decide +kernel
theorem dX6_founds_46 : decode cX6_founds 46 = .ok (.iload 5, 2) := by decide +kernel
theorem dX6_founds_48 : decode cX6_founds 48 = .ok (.iload_n 1, 1) := by decide +kernel
theorem dX6_founds_49 : decode cX6_founds 49 = .ok (.iload 7, 2) := by decide +kernel
theorem dX6_founds_51 : decode cX6_founds 51 = .ok (.aload_n 0, 1) := by decide +kernel
theorem dX6_founds_52 : decode cX6_founds 52 = .ok (.getfield 7, 3) := by decide +kernel
theorem dX6_founds_55 : decode cX6_founds 55 = .ok (.iconst 1, 1) := by decide +kernel
theorem dX6_founds_56 : decode cX6_founds 56 = .ok (.iaload, 1) := by decide +kernel
theorem dX6_founds_57 : decode cX6_founds 57 = .ok (.iadd, 1) := by decide +kernel
theorem dX6_founds_58 : decode cX6_founds 58 = .ok (.iconst 1, 1) := by decide +kernel
theorem dX6_founds_59 : decode cX6_founds 59 = .ok (.isub, 1) := by decide +kernel
theorem dX6_founds_60 : decode cX6_founds 60 = .ok (.aload_n 0, 1) := by decide +kernel
theorem dX6_founds_61 : decode cX6_founds 61 = .ok (.getfield 7, 3) := by decide +kernel
theorem dX6_founds_64 : decode cX6_founds 64 = .ok (.iconst 1, 1) := by decide +kernel
theorem dX6_founds_65 : decode cX6_founds 65 = .ok (.iaload, 1) := by decide +kernel
theorem dX6_founds_66 : decode cX6_founds 66 = .ok (.idiv, 1) := by decide +kernel
theorem dX6_founds_67 : decode cX6_founds 67 = .ok (.invokevirtual 78, 3) := by decide +kernel
theorem dX6_founds_70 : decode cX6_founds 70 = .ok (.iconst 0, 1) := by decide +kernel
theorem dX6_founds_71 : decode cX6_founds 71 = .ok (.istore 8, 2) := by decide +kernel
theorem dX6_founds_73 : decode cX6_founds 73 = .ok (.iload 8, 2) := by decide +kernel
theorem dX6_founds_75 : decode cX6_founds 75 = .ok (.aload_n 0, 1) := by decide +kernel
theorem dX6_founds_76 : decode cX6_founds 76 = .ok (.getfield 7, 3) := by decide +kernel
theorem dX6_founds_79 : decode cX6_founds 79 = .ok (.iconst 2, 1) := by decide +kernel
theorem dX6_founds_80 : decode cX6_founds 80 = .ok (.iaload, 1) := by decide +kernel
theorem dX6_founds_81 : decode cX6_founds 81 = .ok (.if_icmp .ge 89, 3) := by decide +kernel
theorem dX6_founds_84 : decode cX6_founds 84 = .ok (.aload_n 0, 1) := by decide +kernel
theorem dX6_founds_85 : decode cX6_founds 85 = .ok (.iload 8, 2) := by decide +kernel
theorem dX6_founds_87 : decode cX6_founds 87 = .ok (.iconst 0, 1) := by decide +kernel
theorem dX6_founds_88 : decode cX6_founds 88 = .ok (.invokevirtual 28, 3) := by decide +kernel
theorem dX6_founds_91 : decode cX6_founds 91 = .ok (.iload_n 2, 1) := by decide +kernel
theorem dX6_founds_92 : decode cX6_founds 92 = .ok (.iload_n 2, 1) := by decide +kernel
theorem dX6_founds_93 : decode cX6_founds 93 = .ok (.iload 6, 2) := by decide +kernel
theorem dX6_founds_95 : decode cX6_founds 95 = .ok (.iadd, 1) := by decide +kernel
theorem dX6_founds_96 : decode cX6_founds 96 = .ok (.iconst 1, 1) := by decide +kernel
theorem dX6_founds_97 : decode cX6_founds 97 = .ok (.isub, 1) := by decide +kernel
theorem dX6_founds_98 : decode cX6_founds 98 = .ok (.invokestatic 24, 3) := by decide +kernel
theorem dX6_founds_101 : decode cX6_founds 101 = .ok (.ifCond .eq 27, 3) := by decide +kernel
theorem dX6_founds_104 : decode cX6_founds 104 = .ok (.aload_n 0, 1) := by decide +kernel
theorem dX6_founds_105 : decode cX6_founds 105 = .ok (.iload 8, 2) := by decide +kernel
theorem dX6_founds_107 : decode cX6_founds 107 = .ok (.iconst 1, 1) := by decide +kernel
theorem dX6_founds_108 : decode cX6_founds 108 = .ok (.invokevirtual 28, 3) := by decide +kernel
theorem dX6_founds_111 : decode cX6_founds 111 = .ok (.iload_n 3, 1) := by decide +kernel
theorem dX6_founds_112 : decode cX6_founds 112 = .ok (.iload_n 3, 1) := by decide +kernel
theorem dX6_founds_113 : decode cX6_founds 113 = .ok (.iload 6, 2) := by decide +kernel
theorem dX6_founds_115 : decode cX6_founds 115 = .ok (.iadd, 1) := by decide +kernel
theorem dX6_founds_116 : decode cX6_founds 116 = .ok (.iconst 1, 1) := by decide +kernel
theorem dX6_founds_117 : decode cX6_founds 117 = .ok (.isub, 1) := by decide +kernel
theorem dX6_founds_118 : decode cX6_founds 118 = .ok (.invokestatic 24, 3) := by decide +kernel
theorem dX6_founds_121 : decode cX6_founds 121 = .ok (.ifCond .eq 7, 3) := by decide +kernel
theorem dX6_founds_124 : decode cX6_founds 124 = .ok (.iconst 1, 1) := by decide +kernel
theorem dX6_founds_125 : decode cX6_founds 125 = .ok (.goto 4, 3) := by decide +kernel
theorem dX6_founds_128 : decode cX6_founds 128 = .ok (.iconst 0, 1) := by decide +kernel
theorem dX6_founds_129 : decode cX6_founds 129 = .ok (.istore 9, 2) := by decide +kernel
theorem dX6_founds_131 : decode cX6_founds 131 = .ok (.aload_n 0, 1) := by decide +kernel
theorem dX6_founds_132 : decode cX6_founds 132 = .ok (.iload 8, 2) := by decide +kernel
theorem dX6_founds_134 : decode cX6_founds 134 = .ok (.invokevirtual 46, 3) := by decide +kernel
theorem dX6_founds_137 : decode cX6_founds 137 = .ok (.ifCond .eq 27, 3) := by decide +kernel
theorem dX6_founds_140 : decode cX6_founds 140 = .ok (.iload 9, 2) := by decide +kernel
theorem dX6_founds_142 : decode cX6_founds 142 = .ok (.ifCond .eq 22, 3) := by decide +kernel
theorem dX6_founds_145 : decode cX6_founds 145 = .ok (.aload_n 0, 1) := by decide +kernel
theorem dX6_founds_146 : decode cX6_founds 146 = .ok (.iload 8, 2) := by decide +kernel
theorem dX6_founds_148 : decode cX6_founds 148 = .ok (.iconst 4, 1) := by decide +kernel
theorem dX6_founds_149 : decode cX6_founds 149 = .ok (.invokevirtual 28, 3) := by decide +kernel
theorem dX6_founds_152 : decode cX6_founds 152 = .ok (.iload_n 1, 1) := by decide +kernel
theorem dX6_founds_153 : decode cX6_founds 153 = .ok (.if_icmp .ne 11, 3) := by decide +kernel
theorem dX6_founds_156 : decode cX6_founds 156 = .ok (.aload_n 0, 1) := by decide +kernel
theorem dX6_founds_157 : decode cX6_founds 157 = .ok (.iload 8, 2) := by decide +kernel
theorem dX6_founds_159 : decode cX6_founds 159 = .ok (.iload 5, 2) := by decide +kernel
theorem dX6_founds_161 : decode cX6_founds 161 = .ok (.invokevirtual 82, 3) := by decide +kernel
theorem dX6_founds_164 : decode cX6_founds 164 = .ok (.iinc 8 1, 3) := by decide +kernel
theorem dX6_founds_167 : decode cX6_founds 167 = .ok (.goto (-94), 3) := by decide +kernel
theorem dX6_founds_170 : decode cX6_founds 170 = .ok (.return_, 1) := by decide +kernel
theorem dX6_add_0 : decode cX6_add 0 = .ok (.iload_n 1, 1) := by decide +kernel
theorem dX6_add_1 : decode cX6_add 1 = .ok (.iload_n 2, 1) := by decide +kernel
theorem dX6_add_2 : decode cX6_add 2 = .ok (.invokestatic 85, 3) := by decide +kernel
theorem dX6_add_5 : decode cX6_add 5 = .ok (.ifCond .eq 13, 3) := by decide +kernel
theorem dX6_add_8 : decode cX6_add 8 = .ok (.iload_n 3, 1) := by decide +kernel
theorem dX6_add_9 : decode cX6_add 9 = .ok (.iconst 1, 1) := by decide +kernel
theorem dX6_add_10 : decode cX6_add 10 = .ok (.bipush 100, 2) := by decide +kernel
theorem dX6_add_12 : decode cX6_add 12 = .ok (.invokestatic 24, 3) := by decide +kernel
theorem dX6_add_15 : decode cX6_add 15 = .ok (.ifCond .ne 5, 3) := by decide +kernel
theorem dX6_add_18 : decode cX6_add 18 = .ok (.iconst (-1), 1) := by decide +kernel
theorem dX6_add_19 : decode cX6_add 19 = .ok (.ireturn, 1) := by decide +kernel
theorem dX6_add_20 : decode cX6_add 20 = .ok (.aload_n 0, 1) := by decide +kernel
theorem dX6_add_21 : decode cX6_add 21 = .ok (.getfield 7, 3) := by decide +kernel
theorem dX6_add_24 : decode cX6_add 24 = .ok (.iconst 2, 1) := by decide +kernel
theorem dX6_add_25 : decode cX6_add 25 = .ok (.iaload, 1) := by decide +kernel
theorem dX6_add_26 : decode cX6_add 26 = .ok (.bipush 40, 2) := by decide +kernel
theorem dX6_add_28 : decode cX6_add 28 = .ok (.if_icmp .ne 6, 3) := by decide +kernel
theorem dX6_add_31 : decode cX6_add 31 = .ok (.bipush (-3), 2) := by decide +kernel
theorem dX6_add_33 : decode cX6_add 33 = .ok (.ireturn, 1) := by decide +kernel
theorem dX6_add_34 : decode cX6_add 34 = .ok (.aload_n 0, 1) := by decide +kernel
theorem dX6_add_35 : decode cX6_add 35 = .ok (.invokevirtual 89, 3) := by decide +kernel
theorem dX6_add_38 : decode cX6_add 38 = .ok (.aload_n 0, 1) := by decide +kernel
theorem dX6_add_39 : decode cX6_add 39 = .ok (.getfield 7, 3) := by decide +kernel
theorem dX6_add_42 : decode cX6_add 42 = .ok (.iconst 2, 1) := by decide +kernel
theorem dX6_add_43 : decode cX6_add 43 = .ok (.iaload, 1) := by decide +kernel
theorem dX6_add_44 : decode cX6_add 44 = .ok (.istore 4, 2) := by decide +kernel
theorem dX6_add_46 : decode cX6_add 46 = .ok (.aload_n 0, 1) := by decide +kernel
theorem dX6_add_47 : decode cX6_add 47 = .ok (.getfield 7, 3) := by decide +kernel
theorem dX6_add_50 : decode cX6_add 50 = .ok (.iconst 2, 1) := by decide +kernel
theorem dX6_add_51 : decode cX6_add 51 = .ok (.dup2, 1) := by decide +kernel
theorem dX6_add_52 : decode cX6_add 52 = .ok (.iaload, 1) := by decide +kernel
theorem dX6_add_53 : decode cX6_add 53 = .ok (.iconst 1, 1) := by decide +kernel
theorem dX6_add_54 : decode cX6_add 54 = .ok (.iadd, 1) := by decide +kernel
theorem dX6_add_55 : decode cX6_add 55 = .ok (.iastore, 1) := by decide +kernel
theorem dX6_add_56 : decode cX6_add 56 = .ok (.aload_n 0, 1) := by decide +kernel
theorem dX6_add_57 : decode cX6_add 57 = .ok (.getfield 7, 3) := by decide +kernel
theorem dX6_add_60 : decode cX6_add 60 = .ok (.iconst 4, 1) := by decide +kernel
theorem dX6_add_61 : decode cX6_add 61 = .ok (.iconst 5, 1) := by decide +kernel
theorem dX6_add_62 : decode cX6_add 62 = .ok (.iload 4, 2) := by decide +kernel
theorem dX6_add_64 : decode cX6_add 64 = .ok (.imul, 1) := by decide +kernel
theorem dX6_add_65 : decode cX6_add 65 = .ok (.iadd, 1) := by decide +kernel
theorem dX6_add_66 : decode cX6_add 66 = .ok (.iconst 0, 1) := by decide +kernel
theorem dX6_add_67 : decode cX6_add 67 = .ok (.iadd, 1) := by decide +kernel
theorem dX6_add_68 : decode cX6_add 68 = .ok (.iload_n 1, 1) := by decide +kernel
theorem dX6_add_69 : decode cX6_add 69 = .ok (.iastore, 1) := by decide +kernel
theorem dX6_add_70 : decode cX6_add 70 = .ok (.aload_n 0, 1) := by decide +kernel
theorem dX6_add_71 : decode cX6_add 71 = .ok (.getfield 7, 3) := by decide +kernel
theorem dX6_add_74 : decode cX6_add 74 = .ok (.iconst 4, 1) := by decide +kernel
theorem dX6_add_75 : decode cX6_add 75 = .ok (.iconst 5, 1) := by decide +kernel
theorem dX6_add_76 : decode cX6_add 76 = .ok (.iload 4, 2) := by decide +kernel
theorem dX6_add_78 : decode cX6_add 78 = .ok (.imul, 1) := by decide +kernel
theorem dX6_add_79 : decode cX6_add 79 = .ok (.iadd, 1) := by decide +kernel
theorem dX6_add_80 : decode cX6_add 80 = .ok (.iconst 1, 1) := by decide +kernel
theorem dX6_add_81 : decode cX6_add 81 = .ok (.iadd, 1) := by decide +kernel
theorem dX6_add_82 : decode cX6_add 82 = .ok (.iload_n 2, 1) := by decide +kernel
theorem dX6_add_83 : decode cX6_add 83 = .ok (.iastore, 1) := by decide +kernel
theorem dX6_add_84 : decode cX6_add 84 = .ok (.aload_n 0, 1) := by decide +kernel
theorem dX6_add_85 : decode cX6_add 85 = .ok (.getfield 7, 3) := by decide +kernel
theorem dX6_add_88 : decode cX6_add 88 = .ok (.iconst 4, 1) := by decide +kernel
theorem dX6_add_89 : decode cX6_add 89 = .ok (.iconst 5, 1) := by decide +kernel
theorem dX6_add_90 : decode cX6_add 90 = .ok (.iload 4, 2) := by decide +kernel
theorem dX6_add_92 : decode cX6_add 92 = .ok (.imul, 1) := by decide +kernel
theorem dX6_add_93 : decode cX6_add 93 = .ok (.iadd, 1) := by decide +kernel
theorem dX6_add_94 : decode cX6_add 94 = .ok (.iconst 2, 1) := by decide +kernel
theorem dX6_add_95 : decode cX6_add 95 = .ok (.iadd, 1) := by decide +kernel
theorem dX6_add_96 : decode cX6_add 96 = .ok (.iload_n 3, 1) := by decide +kernel
theorem dX6_add_97 : decode cX6_add 97 = .ok (.iastore, 1) := by decide +kernel
theorem dX6_add_98 : decode cX6_add 98 = .ok (.aload_n 0, 1) := by decide +kernel
theorem dX6_add_99 : decode cX6_add 99 = .ok (.getfield 7, 3) := by decide +kernel
theorem dX6_add_102 : decode cX6_add 102 = .ok (.iconst 4, 1) := by decide +kernel
theorem dX6_add_103 : decode cX6_add 103 = .ok (.iconst 5, 1) := by decide +kernel
theorem dX6_add_104 : decode cX6_add 104 = .ok (.iload 4, 2) := by decide +kernel
theorem dX6_add_106 : decode cX6_add 106 = .ok (.imul, 1) := by decide +kernel
theorem dX6_add_107 : decode cX6_add 107 = .ok (.iadd, 1) := by decide +kernel
theorem dX6_add_108 : decode cX6_add 108 = .ok (.iconst 3, 1) := by decide +kernel
theorem dX6_add_109 : decode cX6_add 109 = .ok (.iadd, 1) := by decide +kernel
theorem dX6_add_110 : decode cX6_add 110 = .ok (.iconst 1, 1) := by decide +kernel
theorem dX6_add_111 : decode cX6_add 111 = .ok (.iastore, 1) := by decide +kernel
theorem dX6_add_112 : decode cX6_add 112 = .ok (.aload_n 0, 1) := by decide +kernel
theorem dX6_add_113 : decode cX6_add 113 = .ok (.iload 4, 2) := by decide +kernel
theorem dX6_add_115 : decode cX6_add 115 = .ok (.aload_n 0, 1) := by decide +kernel
theorem dX6_add_116 : decode cX6_add 116 = .ok (.iload_n 1, 1) := by decide +kernel
theorem dX6_add_117 : decode cX6_add 117 = .ok (.iload_n 2, 1) := by decide +kernel
theorem dX6_add_118 : decode cX6_add 118 = .ok (.invokevirtual 43, 3) := by decide +kernel
theorem dX6_add_121 : decode cX6_add 121 = .ok (.invokevirtual 82, 3) := by decide +kernel
theorem dX6_add_124 : decode cX6_add 124 = .ok (.aload_n 0, 1) := by decide +kernel
theorem dX6_add_125 : decode cX6_add 125 = .ok (.invokevirtual 92, 3) := by decide +kernel
theorem dX6_add_128 : decode cX6_add 128 = .ok (.iload 4, 2) := by decide +kernel
theorem dX6_add_130 : decode cX6_add 130 = .ok (.ireturn, 1) := by decide +kernel
theorem dX6_allPoints_0 : decode cX6_allPoints 0 = .ok (.aload_n 0, 1) := by decide +kernel
theorem dX6_allPoints_1 : decode cX6_allPoints 1 = .ok (.iconst 0, 1) := by decide +kernel
theorem dX6_allPoints_2 : decode cX6_allPoints 2 = .ok (.iconst 0, 1) := by decide +kernel
theorem dX6_allPoints_3 : decode cX6_allPoints 3 = .ok (.bipush 63, 2) := by decide +kernel
theorem dX6_allPoints_5 : decode cX6_allPoints 5 = .ok (.bipush 63, 2) := by decide +kernel
theorem dX6_allPoints_7 : decode cX6_allPoints 7 = .ok (.invokevirtual 49, 3) := by decide +kernel
theorem dX6_allPoints_10 : decode cX6_allPoints 10 = .ok (.ireturn, 1) := by decide +kernel
theorem dX6_remove_0 : decode cX6_remove 0 = .ok (.aload_n 0, 1) := by decide +kernel
theorem dX6_remove_1 : decode cX6_remove 1 = .ok (.iload_n 1, 1) := by decide +kernel
theorem dX6_remove_2 : decode cX6_remove 2 = .ok (.invokevirtual 46, 3) := by decide +kernel
theorem dX6_remove_5 : decode cX6_remove 5 = .ok (.ifCond .ne 5, 3) := by decide +kernel
theorem dX6_remove_8 : decode cX6_remove 8 = .ok (.iconst (-1), 1) := by decide +kernel
theorem dX6_remove_9 : decode cX6_remove 9 = .ok (.ireturn, 1) := by decide +kernel
theorem dX6_remove_10 : decode cX6_remove 10 = .ok (.aload_n 0, 1) := by decide +kernel
theorem dX6_remove_11 : decode cX6_remove 11 = .ok (.invokevirtual 89, 3) := by decide +kernel
theorem dX6_remove_14 : decode cX6_remove 14 = .ok (.aload_n 0, 1) := by decide +kernel
theorem dX6_remove_15 : decode cX6_remove 15 = .ok (.getfield 7, 3) := by decide +kernel
theorem dX6_remove_18 : decode cX6_remove 18 = .ok (.iconst 4, 1) := by decide +kernel
theorem dX6_remove_19 : decode cX6_remove 19 = .ok (.iconst 5, 1) := by decide +kernel
theorem dX6_remove_20 : decode cX6_remove 20 = .ok (.iload_n 1, 1) := by decide +kernel
theorem dX6_remove_21 : decode cX6_remove 21 = .ok (.imul, 1) := by decide +kernel
theorem dX6_remove_22 : decode cX6_remove 22 = .ok (.iadd, 1) := by decide +kernel
theorem dX6_remove_23 : decode cX6_remove 23 = .ok (.iconst 3, 1) := by decide +kernel
theorem dX6_remove_24 : decode cX6_remove 24 = .ok (.iadd, 1) := by decide +kernel
theorem dX6_remove_25 : decode cX6_remove 25 = .ok (.iconst 0, 1) := by decide +kernel
theorem dX6_remove_26 : decode cX6_remove 26 = .ok (.iastore, 1) := by decide +kernel
theorem dX6_remove_27 : decode cX6_remove 27 = .ok (.aload_n 0, 1) := by decide +kernel
theorem dX6_remove_28 : decode cX6_remove 28 = .ok (.invokevirtual 92, 3) := by decide +kernel
theorem dX6_remove_31 : decode cX6_remove 31 = .ok (.aload_n 0, 1) := by decide +kernel
theorem dX6_remove_32 : decode cX6_remove 32 = .ok (.invokevirtual 95, 3) := by decide +kernel
theorem dX6_remove_35 : decode cX6_remove 35 = .ok (.ireturn, 1) := by decide +kernel
theorem dX6_move_0 : decode cX6_move 0 = .ok (.aload_n 0, 1) := by decide +kernel
theorem dX6_move_1 : decode cX6_move 1 = .ok (.iload_n 1, 1) := by decide +kernel
theorem dX6_move_2 : decode cX6_move 2 = .ok (.invokevirtual 46, 3) := by decide +kernel
theorem dX6_move_5 : decode cX6_move 5 = .ok (.ifCond .eq 11, 3) := by decide +kernel
theorem dX6_move_8 : decode cX6_move 8 = .ok (.iload_n 2, 1) := by decide +kernel
theorem dX6_move_9 : decode cX6_move 9 = .ok (.iload_n 3, 1) := by decide +kernel
theorem dX6_move_10 : decode cX6_move 10 = .ok (.invokestatic 85, 3) := by decide +kernel
theorem dX6_move_13 : decode cX6_move 13 = .ok (.ifCond .ne 5, 3) := by decide +kernel
theorem dX6_move_16 : decode cX6_move 16 = .ok (.iconst (-1), 1) := by decide +kernel
theorem dX6_move_17 : decode cX6_move 17 = .ok (.ireturn, 1) := by decide +kernel
theorem dX6_move_18 : decode cX6_move 18 = .ok (.aload_n 0, 1) := by decide +kernel
theorem dX6_move_19 : decode cX6_move 19 = .ok (.invokevirtual 89, 3) := by decide +kernel
theorem dX6_move_22 : decode cX6_move 22 = .ok (.aload_n 0, 1) := by decide +kernel
theorem dX6_move_23 : decode cX6_move 23 = .ok (.iload_n 1, 1) := by decide +kernel
theorem dX6_move_24 : decode cX6_move 24 = .ok (.iconst 4, 1) := by decide +kernel
theorem dX6_move_25 : decode cX6_move 25 = .ok (.invokevirtual 28, 3) := by decide +kernel
theorem dX6_move_28 : decode cX6_move 28 = .ok (.istore 4, 2) := by decide +kernel
theorem dX6_move_30 : decode cX6_move 30 = .ok (.iload 4, 2) := by decide +kernel
theorem dX6_move_32 : decode cX6_move 32 = .ok (.aload_n 0, 1) := by decide +kernel
theorem dX6_move_33 : decode cX6_move 33 = .ok (.iload_n 1, 1) := by decide +kernel
theorem dX6_move_34 : decode cX6_move 34 = .ok (.invokevirtual 98, 3) := by decide +kernel
theorem dX6_move_37 : decode cX6_move 37 = .ok (.if_icmp .ne 7, 3) := by decide +kernel
theorem dX6_move_40 : decode cX6_move 40 = .ok (.iconst 1, 1) := by decide +kernel
theorem dX6_move_41 : decode cX6_move 41 = .ok (.goto 4, 3) := by decide +kernel
theorem dX6_move_44 : decode cX6_move 44 = .ok (.iconst 0, 1) := by decide +kernel
theorem dX6_move_45 : decode cX6_move 45 = .ok (.istore 5, 2) := by decide +kernel
theorem dX6_move_47 : decode cX6_move 47 = .ok (.aload_n 0, 1) := by decide +kernel
theorem dX6_move_48 : decode cX6_move 48 = .ok (.getfield 7, 3) := by decide +kernel
theorem dX6_move_51 : decode cX6_move 51 = .ok (.iconst 4, 1) := by decide +kernel
theorem dX6_move_52 : decode cX6_move 52 = .ok (.iconst 5, 1) := by decide +kernel
theorem dX6_move_53 : decode cX6_move 53 = .ok (.iload_n 1, 1) := by decide +kernel
theorem dX6_move_54 : decode cX6_move 54 = .ok (.imul, 1) := by decide +kernel
theorem dX6_move_55 : decode cX6_move 55 = .ok (.iadd, 1) := by decide +kernel
theorem dX6_move_56 : decode cX6_move 56 = .ok (.iconst 0, 1) := by decide +kernel
theorem dX6_move_57 : decode cX6_move 57 = .ok (.iadd, 1) := by decide +kernel
theorem dX6_move_58 : decode cX6_move 58 = .ok (.iload_n 2, 1) := by decide +kernel
theorem dX6_move_59 : decode cX6_move 59 = .ok (.iastore, 1) := by decide +kernel
theorem dX6_move_60 : decode cX6_move 60 = .ok (.aload_n 0, 1) := by decide +kernel
theorem dX6_move_61 : decode cX6_move 61 = .ok (.getfield 7, 3) := by decide +kernel
theorem dX6_move_64 : decode cX6_move 64 = .ok (.iconst 4, 1) := by decide +kernel
theorem dX6_move_65 : decode cX6_move 65 = .ok (.iconst 5, 1) := by decide +kernel
theorem dX6_move_66 : decode cX6_move 66 = .ok (.iload_n 1, 1) := by decide +kernel
theorem dX6_move_67 : decode cX6_move 67 = .ok (.imul, 1) := by decide +kernel
theorem dX6_move_68 : decode cX6_move 68 = .ok (.iadd, 1) := by decide +kernel
theorem dX6_move_69 : decode cX6_move 69 = .ok (.iconst 1, 1) := by decide +kernel
theorem dX6_move_70 : decode cX6_move 70 = .ok (.iadd, 1) := by decide +kernel
theorem dX6_move_71 : decode cX6_move 71 = .ok (.iload_n 3, 1) := by decide +kernel
theorem dX6_move_72 : decode cX6_move 72 = .ok (.iastore, 1) := by decide +kernel
theorem dX6_move_73 : decode cX6_move 73 = .ok (.iload 5, 2) := by decide +kernel
theorem dX6_move_75 : decode cX6_move 75 = .ok (.ifCond .eq 12, 3) := by decide +kernel
theorem dX6_move_78 : decode cX6_move 78 = .ok (.aload_n 0, 1) := by decide +kernel
theorem dX6_move_79 : decode cX6_move 79 = .ok (.iload_n 2, 1) := by decide +kernel
theorem dX6_move_80 : decode cX6_move 80 = .ok (.iload_n 3, 1) := by decide +kernel
theorem dX6_move_81 : decode cX6_move 81 = .ok (.invokevirtual 43, 3) := by decide +kernel
theorem dX6_move_84 : decode cX6_move 84 = .ok (.goto 5, 3) := by decide +kernel
theorem dX6_move_87 : decode cX6_move 87 = .ok (.iload 4, 2) := by decide +kernel
theorem dX6_move_89 : decode cX6_move 89 = .ok (.istore 6, 2) := by decide +kernel
theorem dX6_move_91 : decode cX6_move 91 = .ok (.aload_n 0, 1) := by decide +kernel
theorem dX6_move_92 : decode cX6_move 92 = .ok (.iload_n 1, 1) := by decide +kernel
theorem dX6_move_93 : decode cX6_move 93 = .ok (.iload 6, 2) := by decide +kernel
theorem dX6_move_95 : decode cX6_move 95 = .ok (.invokevirtual 82, 3) := by decide +kernel
theorem dX6_move_98 : decode cX6_move 98 = .ok (.aload_n 0, 1) := by decide +kernel
theorem dX6_move_99 : decode cX6_move 99 = .ok (.invokevirtual 92, 3) := by decide +kernel
theorem dX6_move_102 : decode cX6_move 102 = .ok (.iload 6, 2) := by decide +kernel
theorem dX6_move_104 : decode cX6_move 104 = .ok (.iload 4, 2) := by decide +kernel
theorem dX6_move_106 : decode cX6_move 106 = .ok (.if_icmp .ne 7, 3) := by decide +kernel
theorem dX6_move_109 : decode cX6_move 109 = .ok (.iconst 0, 1) := by decide +kernel
theorem dX6_move_110 : decode cX6_move 110 = .ok (.goto 4, 3) := by decide +kernel
theorem dX6_move_113 : decode cX6_move 113 = .ok (.iconst 1, 1) := by decide +kernel
theorem dX6_move_114 : decode cX6_move 114 = .ok (.ireturn, 1) := by decide +kernel
theorem dX6_setCrowd_0 : decode cX6_setCrowd 0 = .ok (.iload_n 1, 1) := by decide +kernel
theorem dX6_setCrowd_1 : decode cX6_setCrowd 1 = .ok (.iconst 2, 1) := by decide +kernel
theorem dX6_setCrowd_2 : decode cX6_setCrowd 2 = .ok (.bipush 9, 2) := by decide +kernel
theorem dX6_setCrowd_4 : decode cX6_setCrowd 4 = .ok (.invokestatic 24, 3) := by decide +kernel
theorem dX6_setCrowd_7 : decode cX6_setCrowd 7 = .ok (.ifCond .ne 5, 3) := by decide +kernel
theorem dX6_setCrowd_10 : decode cX6_setCrowd 10 = .ok (.iconst (-1), 1) := by decide +kernel
theorem dX6_setCrowd_11 : decode cX6_setCrowd 11 = .ok (.ireturn, 1) := by decide +kernel
theorem dX6_setCrowd_12 : decode cX6_setCrowd 12 = .ok (.aload_n 0, 1) := by decide +kernel
theorem dX6_setCrowd_13 : decode cX6_setCrowd 13 = .ok (.invokevirtual 89, 3) := by decide +kernel
theorem dX6_setCrowd_16 : decode cX6_setCrowd 16 = .ok (.aload_n 0, 1) := by decide +kernel
theorem dX6_setCrowd_17 : decode cX6_setCrowd 17 = .ok (.getfield 7, 3) := by decide +kernel
theorem dX6_setCrowd_20 : decode cX6_setCrowd 20 = .ok (.iconst 0, 1) := by decide +kernel
theorem dX6_setCrowd_21 : decode cX6_setCrowd 21 = .ok (.iaload, 1) := by decide +kernel
theorem dX6_setCrowd_22 : decode cX6_setCrowd 22 = .ok (.istore_n 2, 1) := by decide +kernel
theorem dX6_setCrowd_23 : decode cX6_setCrowd 23 = .ok (.aload_n 0, 1) := by decide +kernel
theorem dX6_setCrowd_24 : decode cX6_setCrowd 24 = .ok (.getfield 7, 3) := by decide +kernel
theorem dX6_setCrowd_27 : decode cX6_setCrowd 27 = .ok (.iconst 0, 1) := by decide +kernel
theorem dX6_setCrowd_28 : decode cX6_setCrowd 28 = .ok (.iload_n 1, 1) := by decide +kernel
theorem dX6_setCrowd_29 : decode cX6_setCrowd 29 = .ok (.iastore, 1) := by decide +kernel
theorem dX6_setCrowd_30 : decode cX6_setCrowd 30 = .ok (.aload_n 0, 1) := by decide +kernel
theorem dX6_setCrowd_31 : decode cX6_setCrowd 31 = .ok (.invokevirtual 92, 3) := by decide +kernel
theorem dX6_setCrowd_34 : decode cX6_setCrowd 34 = .ok (.iload_n 2, 1) := by decide +kernel
theorem dX6_setCrowd_35 : decode cX6_setCrowd 35 = .ok (.ireturn, 1) := by decide +kernel
theorem dX6_setTithe_0 : decode cX6_setTithe 0 = .ok (.iload_n 1, 1) := by decide +kernel
theorem dX6_setTithe_1 : decode cX6_setTithe 1 = .ok (.iconst 1, 1) := by decide +kernel
theorem dX6_setTithe_2 : decode cX6_setTithe 2 = .ok (.bipush 9, 2) := by decide +kernel
theorem dX6_setTithe_4 : decode cX6_setTithe 4 = .ok (.invokestatic 24, 3) := by decide +kernel
theorem dX6_setTithe_7 : decode cX6_setTithe 7 = .ok (.ifCond .ne 5, 3) := by decide +kernel
theorem dX6_setTithe_10 : decode cX6_setTithe 10 = .ok (.iconst (-1), 1) := by decide +kernel
theorem dX6_setTithe_11 : decode cX6_setTithe 11 = .ok (.ireturn, 1) := by decide +kernel
theorem dX6_setTithe_12 : decode cX6_setTithe 12 = .ok (.aload_n 0, 1) := by decide +kernel
theorem dX6_setTithe_13 : decode cX6_setTithe 13 = .ok (.invokevirtual 89, 3) := by decide +kernel
theorem dX6_setTithe_16 : decode cX6_setTithe 16 = .ok (.aload_n 0, 1) := by decide +kernel
theorem dX6_setTithe_17 : decode cX6_setTithe 17 = .ok (.getfield 7, 3) := by decide +kernel
theorem dX6_setTithe_20 : decode cX6_setTithe 20 = .ok (.iconst 1, 1) := by decide +kernel
theorem dX6_setTithe_21 : decode cX6_setTithe 21 = .ok (.iaload, 1) := by decide +kernel
theorem dX6_setTithe_22 : decode cX6_setTithe 22 = .ok (.istore_n 2, 1) := by decide +kernel
theorem dX6_setTithe_23 : decode cX6_setTithe 23 = .ok (.aload_n 0, 1) := by decide +kernel
theorem dX6_setTithe_24 : decode cX6_setTithe 24 = .ok (.getfield 7, 3) := by decide +kernel
theorem dX6_setTithe_27 : decode cX6_setTithe 27 = .ok (.iconst 1, 1) := by decide +kernel
theorem dX6_setTithe_28 : decode cX6_setTithe 28 = .ok (.iload_n 1, 1) := by decide +kernel
theorem dX6_setTithe_29 : decode cX6_setTithe 29 = .ok (.iastore, 1) := by decide +kernel
theorem dX6_setTithe_30 : decode cX6_setTithe 30 = .ok (.aload_n 0, 1) := by decide +kernel
theorem dX6_setTithe_31 : decode cX6_setTithe 31 = .ok (.invokevirtual 92, 3) := by decide +kernel
theorem dX6_setTithe_34 : decode cX6_setTithe 34 = .ok (.iload_n 2, 1) := by decide +kernel
theorem dX6_setTithe_35 : decode cX6_setTithe 35 = .ok (.ireturn, 1) := by decide +kernel
theorem dX6_gift_0 : decode cX6_gift 0 = .ok (.bipush (-9), 2) := by decide +kernel
theorem dX6_gift_2 : decode cX6_gift 2 = .ok (.istore_n 2, 1) := by decide +kernel
theorem dX6_gift_3 : decode cX6_gift 3 = .ok (.iconst 0, 1) := by decide +kernel
theorem dX6_gift_4 : decode cX6_gift 4 = .ok (.istore_n 3, 1) := by decide +kernel
theorem dX6_gift_5 : decode cX6_gift 5 = .ok (.iload_n 3, 1) := by decide +kernel
theorem dX6_gift_6 : decode cX6_gift 6 = .ok (.aload_n 0, 1) := by decide +kernel
theorem dX6_gift_7 : decode cX6_gift 7 = .ok (.getfield 7, 3) := by decide +kernel
theorem dX6_gift_10 : decode cX6_gift 10 = .ok (.iconst 2, 1) := by decide +kernel
theorem dX6_gift_11 : decode cX6_gift 11 = .ok (.iaload, 1) := by decide +kernel
theorem dX6_gift_12 : decode cX6_gift 12 = .ok (.if_icmp .ge 75, 3) := by decide +kernel
theorem dX6_gift_15 : decode cX6_gift 15 = .ok (.aload_n 0, 1) := by decide +kernel
theorem dX6_gift_16 : decode cX6_gift 16 = .ok (.iload_n 3, 1) := by decide +kernel
theorem dX6_gift_17 : decode cX6_gift 17 = .ok (.invokevirtual 46, 3) := by decide +kernel
theorem dX6_gift_20 : decode cX6_gift 20 = .ok (.ifCond .eq 26, 3) := by decide +kernel
theorem dX6_gift_23 : decode cX6_gift 23 = .ok (.aload_n 0, 1) := by decide +kernel
theorem dX6_gift_24 : decode cX6_gift 24 = .ok (.iload_n 3, 1) := by decide +kernel
theorem dX6_gift_25 : decode cX6_gift 25 = .ok (.iconst 4, 1) := by decide +kernel
theorem dX6_gift_26 : decode cX6_gift 26 = .ok (.invokevirtual 28, 3) := by decide +kernel
theorem dX6_gift_29 : decode cX6_gift 29 = .ok (.iload_n 1, 1) := by decide +kernel
theorem dX6_gift_30 : decode cX6_gift 30 = .ok (.if_icmp .ne 16, 3) := by decide +kernel
theorem dX6_gift_33 : decode cX6_gift 33 = .ok (.aload_n 0, 1) := by decide +kernel
theorem dX6_gift_34 : decode cX6_gift 34 = .ok (.iload_n 3, 1) := by decide +kernel
theorem dX6_gift_35 : decode cX6_gift 35 = .ok (.invokevirtual 98, 3) := by decide +kernel
theorem dX6_gift_38 : decode cX6_gift 38 = .ok (.iload_n 1, 1) := by decide +kernel
theorem dX6_gift_39 : decode cX6_gift 39 = .ok (.if_icmp .ne 7, 3) := by decide +kernel
theorem dX6_gift_42 : decode cX6_gift 42 = .ok (.iconst 1, 1) := by decide +kernel
theorem dX6_gift_43 : decode cX6_gift 43 = .ok (.goto 4, 3) := by decide +kernel
theorem dX6_gift_46 : decode cX6_gift 46 = .ok (.iconst 0, 1) := by decide +kernel
theorem dX6_gift_47 : decode cX6_gift 47 = .ok (.istore 4, 2) := by decide +kernel
theorem dX6_gift_49 : decode cX6_gift 49 = .ok (.iload 4, 2) := by decide +kernel
theorem dX6_gift_51 : decode cX6_gift 51 = .ok (.ifCond .eq 28, 3) := by decide +kernel
theorem dX6_gift_54 : decode cX6_gift 54 = .ok (.iload_n 2, 1) := by decide +kernel
theorem dX6_gift_55 : decode cX6_gift 55 = .ok (.bipush (-9), 2) := by decide +kernel
theorem dX6_gift_57 : decode cX6_gift 57 = .ok (.if_icmp .eq 18, 3) := by decide +kernel
theorem dX6_gift_60 : decode cX6_gift 60 = .ok (.aload_n 0, 1) := by decide +kernel
theorem dX6_gift_61 : decode cX6_gift 61 = .ok (.iload_n 3, 1) := by decide +kernel
theorem dX6_gift_62 : decode cX6_gift 62 = .ok (.iconst 2, 1) := by decide +kernel
theorem dX6_gift_63 : decode cX6_gift 63 = .ok (.invokevirtual 28, 3) := by decide +kernel
theorem dX6_gift_66 : decode cX6_gift 66 = .ok (.aload_n 0, 1) := by decide +kernel
theorem dX6_gift_67 : decode cX6_gift 67 = .ok (.iload_n 2, 1) := by decide +kernel
theorem dX6_gift_68 : decode cX6_gift 68 = .ok (.iconst 2, 1) := by decide +kernel
theorem dX6_gift_69 : decode cX6_gift 69 = .ok (.invokevirtual 28, 3) := by decide +kernel
theorem dX6_gift_72 : decode cX6_gift 72 = .ok (.if_icmp .ge 7, 3) := by decide +kernel
theorem dX6_gift_75 : decode cX6_gift 75 = .ok (.iload_n 3, 1) := by decide +kernel
theorem dX6_gift_76 : decode cX6_gift 76 = .ok (.goto 4, 3) := by decide +kernel
theorem dX6_gift_79 : decode cX6_gift 79 = .ok (.iload_n 2, 1) := by decide +kernel
theorem dX6_gift_80 : decode cX6_gift 80 = .ok (.istore_n 2, 1) := by decide +kernel
theorem dX6_gift_81 : decode cX6_gift 81 = .ok (.iinc 3 1, 3) := by decide +kernel
theorem dX6_gift_84 : decode cX6_gift 84 = .ok (.goto (-79), 3) := by decide +kernel
theorem dX6_gift_87 : decode cX6_gift 87 = .ok (.iload_n 2, 1) := by decide +kernel
theorem dX6_gift_88 : decode cX6_gift 88 = .ok (.ireturn, 1) := by decide +kernel
theorem dX6_pay_0 : decode cX6_pay 0 = .ok (.aload_n 0, 1) := by decide +kernel
theorem dX6_pay_1 : decode cX6_pay 1 = .ok (.iload_n 1, 1) := by decide +kernel
theorem dX6_pay_2 : decode cX6_pay 2 = .ok (.invokevirtual 35, 3) := by decide +kernel
theorem dX6_pay_5 : decode cX6_pay 5 = .ok (.ifCond .ne 5, 3) := by decide +kernel
theorem dX6_pay_8 : decode cX6_pay 8 = .ok (.iconst (-1), 1) := by decide +kernel
theorem dX6_pay_9 : decode cX6_pay 9 = .ok (.ireturn, 1) := by decide +kernel
theorem dX6_pay_10 : decode cX6_pay 10 = .ok (.aload_n 0, 1) := by decide +kernel
theorem dX6_pay_11 : decode cX6_pay 11 = .ok (.invokevirtual 89, 3) := by decide +kernel
theorem dX6_pay_14 : decode cX6_pay 14 = .ok (.iconst 0, 1) := by decide +kernel
theorem dX6_pay_15 : decode cX6_pay 15 = .ok (.istore_n 2, 1) := by decide +kernel
theorem dX6_pay_16 : decode cX6_pay 16 = .ok (.iconst 0, 1) := by decide +kernel
theorem dX6_pay_17 : decode cX6_pay 17 = .ok (.istore_n 3, 1) := by decide +kernel
theorem dX6_pay_18 : decode cX6_pay 18 = .ok (.iload_n 3, 1) := by decide +kernel
theorem dX6_pay_19 : decode cX6_pay 19 = .ok (.bipush 40, 2) := by decide +kernel
theorem dX6_pay_21 : decode cX6_pay 21 = .ok (.if_icmp .ge 59, 3) := by decide +kernel
theorem dX6_pay_24 : decode cX6_pay 24 = .ok (.aload_n 0, 1) := by decide +kernel
theorem dX6_pay_25 : decode cX6_pay 25 = .ok (.iload_n 1, 1) := by decide +kernel
theorem dX6_pay_26 : decode cX6_pay 26 = .ok (.invokevirtual 101, 3) := by decide +kernel
theorem dX6_pay_29 : decode cX6_pay 29 = .ok (.istore 4, 2) := by decide +kernel
theorem dX6_pay_31 : decode cX6_pay 31 = .ok (.aload_n 0, 1) := by decide +kernel
theorem dX6_pay_32 : decode cX6_pay 32 = .ok (.iload_n 1, 1) := by decide +kernel
theorem dX6_pay_33 : decode cX6_pay 33 = .ok (.iload_n 3, 1) := by decide +kernel
theorem dX6_pay_34 : decode cX6_pay 34 = .ok (.invokevirtual 53, 3) := by decide +kernel
theorem dX6_pay_37 : decode cX6_pay 37 = .ok (.ifCond .le 37, 3) := by decide +kernel
theorem dX6_pay_40 : decode cX6_pay 40 = .ok (.iload 4, 2) := by decide +kernel
theorem dX6_pay_42 : decode cX6_pay 42 = .ok (.bipush (-9), 2) := by decide +kernel
theorem dX6_pay_44 : decode cX6_pay 44 = .ok (.if_icmp .eq 30, 3) := by decide +kernel
theorem dX6_pay_47 : decode cX6_pay 47 = .ok (.aload_n 0, 1) := by decide +kernel
theorem dX6_pay_48 : decode cX6_pay 48 = .ok (.iload 4, 2) := by decide +kernel
theorem dX6_pay_50 : decode cX6_pay 50 = .ok (.iload_n 3, 1) := by decide +kernel
theorem dX6_pay_51 : decode cX6_pay 51 = .ok (.invokevirtual 82, 3) := by decide +kernel
theorem dX6_pay_54 : decode cX6_pay 54 = .ok (.aload_n 0, 1) := by decide +kernel
theorem dX6_pay_55 : decode cX6_pay 55 = .ok (.iload_n 1, 1) := by decide +kernel
theorem dX6_pay_56 : decode cX6_pay 56 = .ok (.iload_n 3, 1) := by decide +kernel
theorem dX6_pay_57 : decode cX6_pay 57 = .ok (.iconst (-1), 1) := by decide +kernel
theorem dX6_pay_58 : decode cX6_pay 58 = .ok (.invokevirtual 78, 3) := by decide +kernel
theorem dX6_pay_61 : decode cX6_pay 61 = .ok (.iinc 2 1, 3) := by decide +kernel
theorem dX6_pay_64 : decode cX6_pay 64 = .ok (.aload_n 0, 1) := by decide +kernel
theorem dX6_pay_65 : decode cX6_pay 65 = .ok (.iload_n 1, 1) := by decide +kernel
theorem dX6_pay_66 : decode cX6_pay 66 = .ok (.invokevirtual 101, 3) := by decide +kernel
theorem dX6_pay_69 : decode cX6_pay 69 = .ok (.istore 4, 2) := by decide +kernel
theorem dX6_pay_71 : decode cX6_pay 71 = .ok (.goto (-40), 3) := by decide +kernel
theorem dX6_pay_74 : decode cX6_pay 74 = .ok (.iinc 3 1, 3) := by decide +kernel
theorem dX6_pay_77 : decode cX6_pay 77 = .ok (.goto (-59), 3) := by decide +kernel
theorem dX6_pay_80 : decode cX6_pay 80 = .ok (.aload_n 0, 1) := by decide +kernel
theorem dX6_pay_81 : decode cX6_pay 81 = .ok (.invokevirtual 92, 3) := by decide +kernel
theorem dX6_pay_84 : decode cX6_pay 84 = .ok (.iload_n 2, 1) := by decide +kernel
theorem dX6_pay_85 : decode cX6_pay 85 = .ok (.ireturn, 1) := by decide +kernel
theorem dX6_canJoin_0 : decode cX6_canJoin 0 = .ok (.aload_n 0, 1) := by decide +kernel
theorem dX6_canJoin_1 : decode cX6_canJoin 1 = .ok (.iload_n 1, 1) := by decide +kernel
theorem dX6_canJoin_2 : decode cX6_canJoin 2 = .ok (.iconst 3, 1) := by decide +kernel
theorem dX6_canJoin_3 : decode cX6_canJoin 3 = .ok (.invokevirtual 32, 3) := by decide +kernel
theorem dX6_canJoin_6 : decode cX6_canJoin 6 = .ok (.istore_n 2, 1) := by decide +kernel
theorem dX6_canJoin_7 : decode cX6_canJoin 7 = .ok (.iload_n 2, 1) := by decide +kernel
theorem dX6_canJoin_8 : decode cX6_canJoin 8 = .ok (.ifCond .ne 5, 3) := by decide +kernel
theorem dX6_canJoin_11 : decode cX6_canJoin 11 = .ok (.iconst 0, 1) := by decide +kernel
theorem dX6_canJoin_12 : decode cX6_canJoin 12 = .ok (.ireturn, 1) := by decide +kernel
theorem dX6_canJoin_13 : decode cX6_canJoin 13 = .ok (.bipush 64, 2) := by decide +kernel
theorem dX6_canJoin_15 : decode cX6_canJoin 15 = .ok (.iload_n 2, 1) := by decide +kernel
theorem dX6_canJoin_16 : decode cX6_canJoin 16 = .ok (.ishr, 1) := by decide +kernel
theorem dX6_canJoin_17 : decode cX6_canJoin 17 = .ok (.istore_n 3, 1) := by decide +kernel
theorem dX6_canJoin_18 : decode cX6_canJoin 18 = .ok (.aload_n 0, 1) := by decide +kernel
theorem dX6_canJoin_19 : decode cX6_canJoin 19 = .ok (.iload_n 1, 1) := by decide +kernel
theorem dX6_canJoin_20 : decode cX6_canJoin 20 = .ok (.iconst 1, 1) := by decide +kernel
theorem dX6_canJoin_21 : decode cX6_canJoin 21 = .ok (.invokevirtual 32, 3) := by decide +kernel
theorem dX6_canJoin_24 : decode cX6_canJoin 24 = .ok (.iconst 2, 1) := by decide +kernel
theorem dX6_canJoin_25 : decode cX6_canJoin 25 = .ok (.iload_n 3, 1) := by decide +kernel
theorem dX6_canJoin_26 : decode cX6_canJoin 26 = .ok (.imul, 1) := by decide +kernel
theorem dX6_canJoin_27 : decode cX6_canJoin 27 = .ok (.idiv, 1) := by decide +kernel
theorem dX6_canJoin_28 : decode cX6_canJoin 28 = .ok (.iconst 2, 1) := by decide +kernel
theorem dX6_canJoin_29 : decode cX6_canJoin 29 = .ok (.iload_n 3, 1) := by decide +kernel
theorem dX6_canJoin_30 : decode cX6_canJoin 30 = .ok (.imul, 1) := by decide +kernel
theorem dX6_canJoin_31 : decode cX6_canJoin 31 = .ok (.imul, 1) := by decide +kernel
theorem dX6_canJoin_32 : decode cX6_canJoin 32 = .ok (.istore 4, 2) := by decide +kernel
theorem dX6_canJoin_34 : decode cX6_canJoin 34 = .ok (.aload_n 0, 1) := by decide +kernel
theorem dX6_canJoin_35 : decode cX6_canJoin 35 = .ok (.iload_n 1, 1) := by decide +kernel
theorem dX6_canJoin_36 : decode cX6_canJoin 36 = .ok (.iconst 2, 1) := by decide +kernel
theorem dX6_canJoin_37 : decode cX6_canJoin 37 = .ok (.invokevirtual 32, 3) := by decide +kernel
theorem dX6_canJoin_40 : decode cX6_canJoin 40 = .ok (.iconst 2, 1) := by decide +kernel
theorem dX6_canJoin_41 : decode cX6_canJoin 41 = .ok (.iload_n 3, 1) := by decide +kernel
theorem dX6_canJoin_42 : decode cX6_canJoin 42 = .ok (.imul, 1) := by decide +kernel
theorem dX6_canJoin_43 : decode cX6_canJoin 43 = .ok (.idiv, 1) := by decide +kernel
theorem dX6_canJoin_44 : decode cX6_canJoin 44 = .ok (.iconst 2, 1) := by decide +kernel
theorem dX6_canJoin_45 : decode cX6_canJoin 45 = .ok (.iload_n 3, 1) := by decide +kernel
theorem dX6_canJoin_46 : decode cX6_canJoin 46 = .ok (.imul, 1) := by decide +kernel
theorem dX6_canJoin_47 : decode cX6_canJoin 47 = .ok (.imul, 1) := by decide +kernel
theorem dX6_canJoin_48 : decode cX6_canJoin 48 = .ok (.istore 5, 2) := by decide +kernel
theorem dX6_canJoin_50 : decode cX6_canJoin 50 = .ok (.aload_n 0, 1) := by decide +kernel
theorem dX6_canJoin_51 : decode cX6_canJoin 51 = .ok (.iload 4, 2) := by decide +kernel
theorem dX6_canJoin_53 : decode cX6_canJoin 53 = .ok (.iload 5, 2) := by decide +kernel
theorem dX6_canJoin_55 : decode cX6_canJoin 55 = .ok (.iconst 2, 1) := by decide +kernel
theorem dX6_canJoin_56 : decode cX6_canJoin 56 = .ok (.iload_n 3, 1) := by decide +kernel
theorem dX6_canJoin_57 : decode cX6_canJoin 57 = .ok (.imul, 1) := by decide +kernel
theorem dX6_canJoin_58 : decode cX6_canJoin 58 = .ok (.invokevirtual 56, 3) := by decide +kernel
theorem dX6_canJoin_61 : decode cX6_canJoin 61 = .ok (.aload_n 0, 1) := by decide +kernel
theorem dX6_canJoin_62 : decode cX6_canJoin 62 = .ok (.getfield 7, 3) := by decide +kernel
theorem dX6_canJoin_65 : decode cX6_canJoin 65 = .ok (.iconst 0, 1) := by decide +kernel
theorem dX6_canJoin_66 : decode cX6_canJoin 66 = .ok (.iaload, 1) := by decide +kernel
theorem dX6_canJoin_67 : decode cX6_canJoin 67 = .ok (.if_icmp .gt 7, 3) := by decide +kernel
theorem dX6_canJoin_70 : decode cX6_canJoin 70 = .ok (.iconst 1, 1) := by decide +kernel
theorem dX6_canJoin_71 : decode cX6_canJoin 71 = .ok (.goto 4, 3) := by decide +kernel
theorem dX6_canJoin_74 : decode cX6_canJoin 74 = .ok (.iconst 0, 1) := by decide +kernel
theorem dX6_canJoin_75 : decode cX6_canJoin 75 = .ok (.istore 6, 2) := by decide +kernel
theorem dX6_canJoin_77 : decode cX6_canJoin 77 = .ok (.iconst 0, 1) := by decide +kernel
theorem dX6_canJoin_78 : decode cX6_canJoin 78 = .ok (.istore 7, 2) := by decide +kernel
theorem dX6_canJoin_80 : decode cX6_canJoin 80 = .ok (.iload 7, 2) := by decide +kernel
theorem dX6_canJoin_82 : decode cX6_canJoin 82 = .ok (.iconst 4, 1) := by decide +kernel
theorem dX6_canJoin_83 : decode cX6_canJoin 83 = .ok (.if_icmp .ge 66, 3) := by decide +kernel
theorem dX6_canJoin_86 : decode cX6_canJoin 86 = .ok (.aload_n 0, 1) := by decide +kernel
theorem dX6_canJoin_87 : decode cX6_canJoin 87 = .ok (.getfield 13, 3) := by decide +kernel
theorem dX6_canJoin_90 : decode cX6_canJoin 90 = .ok (.iload 7, 2) := by decide +kernel
theorem dX6_canJoin_92 : decode cX6_canJoin 92 = .ok (.aload_n 0, 1) := by decide +kernel
theorem dX6_canJoin_93 : decode cX6_canJoin 93 = .ok (.iload 4, 2) := by decide +kernel
theorem dX6_canJoin_95 : decode cX6_canJoin 95 = .ok (.iload_n 3, 1) := by decide +kernel
theorem dX6_canJoin_96 : decode cX6_canJoin 96 = .ok (.iload 7, 2) := by decide +kernel
theorem dX6_canJoin_98 : decode cX6_canJoin 98 = .ok (.iconst 2, 1) := by decide +kernel
theorem dX6_canJoin_99 : decode cX6_canJoin 99 = .ok (.irem, 1) := by decide +kernel
theorem dX6_canJoin_100 : decode cX6_canJoin 100 = .ok (.imul, 1) := by decide +kernel
theorem dX6_canJoin_101 : decode cX6_canJoin 101 = .ok (.iadd, 1) := by decide +kernel
theorem dX6_canJoin_102 : decode cX6_canJoin 102 = .ok (.iload 5, 2) := by decide +kernel
theorem dX6_canJoin_104 : decode cX6_canJoin 104 = .ok (.iload_n 3, 1) := by decide +kernel
theorem dX6_canJoin_105 : decode cX6_canJoin 105 = .ok (.iload 7, 2) := by decide +kernel
theorem dX6_canJoin_107 : decode cX6_canJoin 107 = .ok (.iconst 2, 1) := by decide +kernel
theorem dX6_canJoin_108 : decode cX6_canJoin 108 = .ok (.idiv, 1) := by decide +kernel
theorem dX6_canJoin_109 : decode cX6_canJoin 109 = .ok (.imul, 1) := by decide +kernel
theorem dX6_canJoin_110 : decode cX6_canJoin 110 = .ok (.iadd, 1) := by decide +kernel
theorem dX6_canJoin_111 : decode cX6_canJoin 111 = .ok (.invokevirtual 43, 3) := by decide +kernel
theorem dX6_canJoin_114 : decode cX6_canJoin 114 = .ok (.iastore, 1) := by decide +kernel
theorem dX6_canJoin_115 : decode cX6_canJoin 115 = .ok (.iload 6, 2) := by decide +kernel
theorem dX6_canJoin_117 : decode cX6_canJoin 117 = .ok (.ifCond .eq 23, 3) := by decide +kernel
theorem dX6_canJoin_120 : decode cX6_canJoin 120 = .ok (.aload_n 0, 1) := by decide +kernel
theorem dX6_canJoin_121 : decode cX6_canJoin 121 = .ok (.aload_n 0, 1) := by decide +kernel
theorem dX6_canJoin_122 : decode cX6_canJoin 122 = .ok (.getfield 13, 3) := by decide +kernel
theorem dX6_canJoin_125 : decode cX6_canJoin 125 = .ok (.iload 7, 2) := by decide +kernel
theorem dX6_canJoin_127 : decode cX6_canJoin 127 = .ok (.iaload, 1) := by decide +kernel
theorem dX6_canJoin_128 : decode cX6_canJoin 128 = .ok (.iconst 3, 1) := by decide +kernel
theorem dX6_canJoin_129 : decode cX6_canJoin 129 = .ok (.invokevirtual 32, 3) := by decide +kernel
theorem dX6_canJoin_132 : decode cX6_canJoin 132 = .ok (.iload_n 2, 1) := by decide +kernel
theorem dX6_canJoin_133 : decode cX6_canJoin 133 = .ok (.if_icmp .ne 7, 3) := by decide +kernel
theorem dX6_canJoin_136 : decode cX6_canJoin 136 = .ok (.iconst 1, 1) := by decide +kernel
theorem dX6_canJoin_137 : decode cX6_canJoin 137 = .ok (.goto 4, 3) := by decide +kernel
theorem dX6_canJoin_140 : decode cX6_canJoin 140 = .ok (.iconst 0, 1) := by decide +kernel
theorem dX6_canJoin_141 : decode cX6_canJoin 141 = .ok (.istore 6, 2) := by decide +kernel
theorem dX6_canJoin_143 : decode cX6_canJoin 143 = .ok (.iinc 7 1, 3) := by decide +kernel
theorem dX6_canJoin_146 : decode cX6_canJoin 146 = .ok (.goto (-66), 3) := by decide +kernel
theorem dX6_canJoin_149 : decode cX6_canJoin 149 = .ok (.iload 6, 2) := by decide +kernel
theorem dX6_canJoin_151 : decode cX6_canJoin 151 = .ok (.ireturn, 1) := by decide +kernel
theorem dX6_join_0 : decode cX6_join 0 = .ok (.aload_n 0, 1) := by decide +kernel
theorem dX6_join_1 : decode cX6_join 1 = .ok (.iload_n 1, 1) := by decide +kernel
theorem dX6_join_2 : decode cX6_join 2 = .ok (.invokevirtual 35, 3) := by decide +kernel
theorem dX6_join_5 : decode cX6_join 5 = .ok (.ifCond .ne 5, 3) := by decide +kernel
theorem dX6_join_8 : decode cX6_join 8 = .ok (.iconst (-1), 1) := by decide +kernel
theorem dX6_join_9 : decode cX6_join 9 = .ok (.ireturn, 1) := by decide +kernel
theorem dX6_join_10 : decode cX6_join 10 = .ok (.aload_n 0, 1) := by decide +kernel
theorem dX6_join_11 : decode cX6_join 11 = .ok (.iload_n 1, 1) := by decide +kernel
theorem dX6_join_12 : decode cX6_join 12 = .ok (.invokevirtual 104, 3) := by decide +kernel
theorem dX6_join_15 : decode cX6_join 15 = .ok (.ifCond .ne 6, 3) := by decide +kernel
theorem dX6_join_18 : decode cX6_join 18 = .ok (.bipush (-2), 2) := by decide +kernel
theorem dX6_join_20 : decode cX6_join 20 = .ok (.ireturn, 1) := by decide +kernel
theorem dX6_join_21 : decode cX6_join 21 = .ok (.aload_n 0, 1) := by decide +kernel
theorem dX6_join_22 : decode cX6_join 22 = .ok (.invokevirtual 89, 3) := by decide +kernel
theorem dX6_join_25 : decode cX6_join 25 = .ok (.aload_n 0, 1) := by decide +kernel
theorem dX6_join_26 : decode cX6_join 26 = .ok (.getfield 13, 3) := by decide +kernel
theorem dX6_join_29 : decode cX6_join 29 = .ok (.iconst 0, 1) := by decide +kernel
theorem dX6_join_30 : decode cX6_join 30 = .ok (.iaload, 1) := by decide +kernel
theorem dX6_join_31 : decode cX6_join 31 = .ok (.istore_n 2, 1) := by decide +kernel
theorem dX6_join_32 : decode cX6_join 32 = .ok (.iconst 1, 1) := by decide +kernel
theorem dX6_join_33 : decode cX6_join 33 = .ok (.istore_n 3, 1) := by decide +kernel
theorem dX6_join_34 : decode cX6_join 34 = .ok (.iload_n 3, 1) := by decide +kernel
theorem dX6_join_35 : decode cX6_join 35 = .ok (.iconst 4, 1) := by decide +kernel
theorem dX6_join_36 : decode cX6_join 36 = .ok (.if_icmp .ge 30, 3) := by decide +kernel
theorem dX6_join_39 : decode cX6_join 39 = .ok (.aload_n 0, 1) := by decide +kernel
theorem dX6_join_40 : decode cX6_join 40 = .ok (.getfield 13, 3) := by decide +kernel
theorem dX6_join_43 : decode cX6_join 43 = .ok (.iload_n 3, 1) := by decide +kernel
theorem dX6_join_44 : decode cX6_join 44 = .ok (.iaload, 1) := by decide +kernel
theorem dX6_join_45 : decode cX6_join 45 = .ok (.iload_n 2, 1) := by decide +kernel
theorem dX6_join_46 : decode cX6_join 46 = .ok (.if_icmp .ge 12, 3) := by decide +kernel
theorem dX6_join_49 : decode cX6_join 49 = .ok (.aload_n 0, 1) := by decide +kernel
theorem dX6_join_50 : decode cX6_join 50 = .ok (.getfield 13, 3) := by decide +kernel
theorem dX6_join_53 : decode cX6_join 53 = .ok (.iload_n 3, 1) := by decide +kernel
theorem dX6_join_54 : decode cX6_join 54 = .ok (.iaload, 1) := by decide +kernel
theorem dX6_join_55 : decode cX6_join 55 = .ok (.goto 4, 3) := by decide +kernel
theorem dX6_join_58 : decode cX6_join 58 = .ok (.iload_n 2, 1) := by decide +kernel
theorem dX6_join_59 : decode cX6_join 59 = .ok (.istore_n 2, 1) := by decide +kernel
theorem dX6_join_60 : decode cX6_join 60 = .ok (.iinc 3 1, 3) := by decide +kernel
theorem dX6_join_63 : decode cX6_join 63 = .ok (.goto (-29), 3) := by decide +kernel
theorem dX6_join_66 : decode cX6_join 66 = .ok (.aload_n 0, 1) := by decide +kernel
theorem dX6_join_67 : decode cX6_join 67 = .ok (.iload_n 2, 1) := by decide +kernel
theorem dX6_join_68 : decode cX6_join 68 = .ok (.aload_n 0, 1) := by decide +kernel
theorem dX6_join_69 : decode cX6_join 69 = .ok (.aload_n 0, 1) := by decide +kernel
theorem dX6_join_70 : decode cX6_join 70 = .ok (.getfield 13, 3) := by decide +kernel
theorem dX6_join_73 : decode cX6_join 73 = .ok (.iconst 0, 1) := by decide +kernel
theorem dX6_join_74 : decode cX6_join 74 = .ok (.iaload, 1) := by decide +kernel
theorem dX6_join_75 : decode cX6_join 75 = .ok (.iconst 1, 1) := by decide +kernel
theorem dX6_join_76 : decode cX6_join 76 = .ok (.invokevirtual 32, 3) := by decide +kernel
theorem dX6_join_79 : decode cX6_join 79 = .ok (.aload_n 0, 1) := by decide +kernel
theorem dX6_join_80 : decode cX6_join 80 = .ok (.aload_n 0, 1) := by decide +kernel
theorem dX6_join_81 : decode cX6_join 81 = .ok (.getfield 13, 3) := by decide +kernel
theorem dX6_join_84 : decode cX6_join 84 = .ok (.iconst 0, 1) := by decide +kernel
theorem dX6_join_85 : decode cX6_join 85 = .ok (.iaload, 1) := by decide +kernel
theorem dX6_join_86 : decode cX6_join 86 = .ok (.iconst 2, 1) := by decide +kernel
theorem dX6_join_87 : decode cX6_join 87 = .ok (.invokevirtual 32, 3) := by decide +kernel
theorem dX6_join_90 : decode cX6_join 90 = .ok (.aload_n 0, 1) := by decide +kernel
theorem dX6_join_91 : decode cX6_join 91 = .ok (.aload_n 0, 1) := by decide +kernel
theorem dX6_join_92 : decode cX6_join 92 = .ok (.getfield 13, 3) := by decide +kernel
theorem dX6_join_95 : decode cX6_join 95 = .ok (.iconst 0, 1) := by decide +kernel
theorem dX6_join_96 : decode cX6_join 96 = .ok (.iaload, 1) := by decide +kernel
theorem dX6_join_97 : decode cX6_join 97 = .ok (.iconst 3, 1) := by decide +kernel
theorem dX6_join_98 : decode cX6_join 98 = .ok (.invokevirtual 32, 3) := by decide +kernel
theorem dX6_join_101 : decode cX6_join 101 = .ok (.iconst 1, 1) := by decide +kernel
theorem dX6_join_102 : decode cX6_join 102 = .ok (.isub, 1) := by decide +kernel
theorem dX6_join_103 : decode cX6_join 103 = .ok (.invokevirtual 71, 3) := by decide +kernel
theorem dX6_join_106 : decode cX6_join 106 = .ok (.iconst 0, 1) := by decide +kernel
theorem dX6_join_107 : decode cX6_join 107 = .ok (.istore_n 3, 1) := by decide +kernel
theorem dX6_join_108 : decode cX6_join 108 = .ok (.iload_n 3, 1) := by decide +kernel
theorem dX6_join_109 : decode cX6_join 109 = .ok (.iconst 4, 1) := by decide +kernel
theorem dX6_join_110 : decode cX6_join 110 = .ok (.if_icmp .ge 30, 3) := by decide +kernel
theorem dX6_join_113 : decode cX6_join 113 = .ok (.aload_n 0, 1) := by decide +kernel
theorem dX6_join_114 : decode cX6_join 114 = .ok (.getfield 13, 3) := by decide +kernel
theorem dX6_join_117 : decode cX6_join 117 = .ok (.iload_n 3, 1) := by decide +kernel
theorem dX6_join_118 : decode cX6_join 118 = .ok (.iaload, 1) := by decide +kernel
theorem dX6_join_119 : decode cX6_join 119 = .ok (.iload_n 2, 1) := by decide +kernel
theorem dX6_join_120 : decode cX6_join 120 = .ok (.if_icmp .eq 14, 3) := by decide +kernel
theorem dX6_join_123 : decode cX6_join 123 = .ok (.aload_n 0, 1) := by decide +kernel
theorem dX6_join_124 : decode cX6_join 124 = .ok (.aload_n 0, 1) := by decide +kernel
theorem dX6_join_125 : decode cX6_join 125 = .ok (.getfield 13, 3) := by decide +kernel
theorem dX6_join_128 : decode cX6_join 128 = .ok (.iload_n 3, 1) := by decide +kernel
theorem dX6_join_129 : decode cX6_join 129 = .ok (.iaload, 1) := by decide +kernel
theorem dX6_join_130 : decode cX6_join 130 = .ok (.iload_n 2, 1) := by decide +kernel
theorem dX6_join_131 : decode cX6_join 131 = .ok (.invokevirtual 107, 3) := by decide +kernel
theorem dX6_join_134 : decode cX6_join 134 = .ok (.iinc 3 1, 3) := by decide +kernel
theorem dX6_join_137 : decode cX6_join 137 = .ok (.goto (-29), 3) := by decide +kernel
theorem dX6_join_140 : decode cX6_join 140 = .ok (.aload_n 0, 1) := by decide +kernel
theorem dX6_join_141 : decode cX6_join 141 = .ok (.iload_n 2, 1) := by decide +kernel
theorem dX6_join_142 : decode cX6_join 142 = .ok (.iload_n 2, 1) := by decide +kernel
theorem dX6_join_143 : decode cX6_join 143 = .ok (.aload_n 0, 1) := by decide +kernel
theorem dX6_join_144 : decode cX6_join 144 = .ok (.iload_n 2, 1) := by decide +kernel
theorem dX6_join_145 : decode cX6_join 145 = .ok (.iload_n 2, 1) := by decide +kernel
theorem dX6_join_146 : decode cX6_join 146 = .ok (.invokevirtual 53, 3) := by decide +kernel
theorem dX6_join_149 : decode cX6_join 149 = .ok (.ineg, 1) := by decide +kernel
theorem dX6_join_150 : decode cX6_join 150 = .ok (.invokevirtual 78, 3) := by decide +kernel
theorem dX6_join_153 : decode cX6_join 153 = .ok (.aload_n 0, 1) := by decide +kernel
theorem dX6_join_154 : decode cX6_join 154 = .ok (.invokevirtual 92, 3) := by decide +kernel
theorem dX6_join_157 : decode cX6_join 157 = .ok (.iload_n 2, 1) := by decide +kernel
theorem dX6_join_158 : decode cX6_join 158 = .ok (.ireturn, 1) := by decide +kernel
theorem dX6_dissolves_0 : decode cX6_dissolves 0 = .ok (.aload_n 0, 1) := by decide +kernel
theorem dX6_dissolves_1 : decode cX6_dissolves 1 = .ok (.getfield 7, 3) := by decide +kernel
theorem dX6_dissolves_4 : decode cX6_dissolves 4 = .ok (.sipush 204, 3) := by decide +kernel
theorem dX6_dissolves_7 : decode cX6_dissolves 7 = .ok (.iconst 4, 1) := by decide +kernel
theorem dX6_dissolves_8 : decode cX6_dissolves 8 = .ok (.iload_n 1, 1) := by decide +kernel
theorem dX6_dissolves_9 : decode cX6_dissolves 9 = .ok (.imul, 1) := by decide +kernel
theorem dX6_dissolves_10 : decode cX6_dissolves 10 = .ok (.iadd, 1) := by decide +kernel
theorem dX6_dissolves_11 : decode cX6_dissolves 11 = .ok (.iconst 0, 1) := by decide +kernel
theorem dX6_dissolves_12 : decode cX6_dissolves 12 = .ok (.iastore, 1) := by decide +kernel
theorem dX6_dissolves_13 : decode cX6_dissolves 13 = .ok (.iconst 0, 1) := by decide +kernel
theorem dX6_dissolves_14 : decode cX6_dissolves 14 = .ok (.istore_n 3, 1) := by decide +kernel
theorem dX6_dissolves_15 : decode cX6_dissolves 15 = .ok (.iload_n 3, 1) := by decide +kernel
theorem dX6_dissolves_16 : decode cX6_dissolves 16 = .ok (.aload_n 0, 1) := by decide +kernel
theorem dX6_dissolves_17 : decode cX6_dissolves 17 = .ok (.getfield 7, 3) := by decide +kernel
theorem dX6_dissolves_20 : decode cX6_dissolves 20 = .ok (.iconst 2, 1) := by decide +kernel
theorem dX6_dissolves_21 : decode cX6_dissolves 21 = .ok (.iaload, 1) := by decide +kernel
theorem dX6_dissolves_22 : decode cX6_dissolves 22 = .ok (.if_icmp .ge 25, 3) := by decide +kernel
theorem dX6_dissolves_25 : decode cX6_dissolves 25 = .ok (.aload_n 0, 1) := by decide +kernel
theorem dX6_dissolves_26 : decode cX6_dissolves 26 = .ok (.iload_n 3, 1) := by decide +kernel
theorem dX6_dissolves_27 : decode cX6_dissolves 27 = .ok (.iconst 4, 1) := by decide +kernel
theorem dX6_dissolves_28 : decode cX6_dissolves 28 = .ok (.invokevirtual 28, 3) := by decide +kernel
theorem dX6_dissolves_31 : decode cX6_dissolves 31 = .ok (.iload_n 1, 1) := by decide +kernel
theorem dX6_dissolves_32 : decode cX6_dissolves 32 = .ok (.if_icmp .ne 9, 3) := by decide +kernel
theorem dX6_dissolves_35 : decode cX6_dissolves 35 = .ok (.aload_n 0, 1) := by decide +kernel
theorem dX6_dissolves_36 : decode cX6_dissolves 36 = .ok (.iload_n 3, 1) := by decide +kernel
theorem dX6_dissolves_37 : decode cX6_dissolves 37 = .ok (.iload_n 2, 1) := by decide +kernel
theorem dX6_dissolves_38 : decode cX6_dissolves 38 = .ok (.invokevirtual 82, 3) := by decide +kernel
theorem dX6_dissolves_41 : decode cX6_dissolves 41 = .ok (.iinc 3 1, 3) := by decide +kernel
theorem dX6_dissolves_44 : decode cX6_dissolves 44 = .ok (.goto (-29), 3) := by decide +kernel
theorem dX6_dissolves_47 : decode cX6_dissolves 47 = .ok (.iconst 0, 1) := by decide +kernel
theorem dX6_dissolves_48 : decode cX6_dissolves 48 = .ok (.istore_n 3, 1) := by decide +kernel
theorem dX6_dissolves_49 : decode cX6_dissolves 49 = .ok (.iload_n 3, 1) := by decide +kernel
theorem dX6_dissolves_50 : decode cX6_dissolves 50 = .ok (.bipush 40, 2) := by decide +kernel
theorem dX6_dissolves_52 : decode cX6_dissolves 52 = .ok (.if_icmp .ge 34, 3) := by decide +kernel
theorem dX6_dissolves_55 : decode cX6_dissolves 55 = .ok (.aload_n 0, 1) := by decide +kernel
theorem dX6_dissolves_56 : decode cX6_dissolves 56 = .ok (.iload_n 2, 1) := by decide +kernel
theorem dX6_dissolves_57 : decode cX6_dissolves 57 = .ok (.iload_n 3, 1) := by decide +kernel
theorem dX6_dissolves_58 : decode cX6_dissolves 58 = .ok (.aload_n 0, 1) := by decide +kernel
theorem dX6_dissolves_59 : decode cX6_dissolves 59 = .ok (.iload_n 1, 1) := by decide +kernel
theorem dX6_dissolves_60 : decode cX6_dissolves 60 = .ok (.iload_n 3, 1) := by decide +kernel
theorem dX6_dissolves_61 : decode cX6_dissolves 61 = .ok (.invokevirtual 53, 3) := by decide +kernel
theorem dX6_dissolves_64 : decode cX6_dissolves 64 = .ok (.invokevirtual 78, 3) := by decide +kernel
theorem dX6_dissolves_67 : decode cX6_dissolves 67 = .ok (.aload_n 0, 1) := by decide +kernel
theorem dX6_dissolves_68 : decode cX6_dissolves 68 = .ok (.iload_n 1, 1) := by decide +kernel
theorem dX6_dissolves_69 : decode cX6_dissolves 69 = .ok (.iload_n 3, 1) := by decide +kernel
theorem dX6_dissolves_70 : decode cX6_dissolves 70 = .ok (.aload_n 0, 1) := by decide +kernel
theorem dX6_dissolves_71 : decode cX6_dissolves 71 = .ok (.iload_n 1, 1) := by decide +kernel
theorem dX6_dissolves_72 : decode cX6_dissolves 72 = .ok (.iload_n 3, 1) := by decide +kernel
theorem dX6_dissolves_73 : decode cX6_dissolves 73 = .ok (.invokevirtual 53, 3) := by decide +kernel
theorem dX6_dissolves_76 : decode cX6_dissolves 76 = .ok (.ineg, 1) := by decide +kernel
theorem dX6_dissolves_77 : decode cX6_dissolves 77 = .ok (.invokevirtual 78, 3) := by decide +kernel
theorem dX6_dissolves_80 : decode cX6_dissolves 80 = .ok (.iinc 3 1, 3) := by decide +kernel
theorem dX6_dissolves_83 : decode cX6_dissolves 83 = .ok (.goto (-34), 3) := by decide +kernel
theorem dX6_dissolves_86 : decode cX6_dissolves 86 = .ok (.iconst 0, 1) := by decide +kernel
theorem dX6_dissolves_87 : decode cX6_dissolves 87 = .ok (.istore_n 3, 1) := by decide +kernel
theorem dX6_dissolves_88 : decode cX6_dissolves 88 = .ok (.iload_n 3, 1) := by decide +kernel
theorem dX6_dissolves_89 : decode cX6_dissolves 89 = .ok (.bipush 40, 2) := by decide +kernel
theorem dX6_dissolves_91 : decode cX6_dissolves 91 = .ok (.if_icmp .ge 34, 3) := by decide +kernel
theorem dX6_dissolves_94 : decode cX6_dissolves 94 = .ok (.aload_n 0, 1) := by decide +kernel
theorem dX6_dissolves_95 : decode cX6_dissolves 95 = .ok (.iload_n 3, 1) := by decide +kernel
theorem dX6_dissolves_96 : decode cX6_dissolves 96 = .ok (.iload_n 2, 1) := by decide +kernel
theorem dX6_dissolves_97 : decode cX6_dissolves 97 = .ok (.aload_n 0, 1) := by decide +kernel
theorem dX6_dissolves_98 : decode cX6_dissolves 98 = .ok (.iload_n 3, 1) := by decide +kernel
theorem dX6_dissolves_99 : decode cX6_dissolves 99 = .ok (.iload_n 1, 1) := by decide +kernel
theorem dX6_dissolves_100 : decode cX6_dissolves 100 = .ok (.invokevirtual 53, 3) := by decide +kernel
theorem dX6_dissolves_103 : decode cX6_dissolves 103 = .ok (.invokevirtual 78, 3) := by decide +kernel
theorem dX6_dissolves_106 : decode cX6_dissolves 106 = .ok (.aload_n 0, 1) := by decide +kernel
theorem dX6_dissolves_107 : decode cX6_dissolves 107 = .ok (.iload_n 3, 1) := by decide +kernel
theorem dX6_dissolves_108 : decode cX6_dissolves 108 = .ok (.iload_n 1, 1) := by decide +kernel
theorem dX6_dissolves_109 : decode cX6_dissolves 109 = .ok (.aload_n 0, 1) := by decide +kernel
theorem dX6_dissolves_110 : decode cX6_dissolves 110 = .ok (.iload_n 3, 1) := by decide +kernel
theorem dX6_dissolves_111 : decode cX6_dissolves 111 = .ok (.iload_n 1, 1) := by decide +kernel
theorem dX6_dissolves_112 : decode cX6_dissolves 112 = .ok (.invokevirtual 53, 3) := by decide +kernel
theorem dX6_dissolves_115 : decode cX6_dissolves 115 = .ok (.ineg, 1) := by decide +kernel
theorem dX6_dissolves_116 : decode cX6_dissolves 116 = .ok (.invokevirtual 78, 3) := by decide +kernel
theorem dX6_dissolves_119 : decode cX6_dissolves 119 = .ok (.iinc 3 1, 3) := by decide +kernel
theorem dX6_dissolves_122 : decode cX6_dissolves 122 = .ok (.goto (-34), 3) := by decide +kernel
theorem dX6_dissolves_125 : decode cX6_dissolves 125 = .ok (.return_, 1) := by decide +kernel
theorem dX6_undo_0 : decode cX6_undo 0 = .ok (.aload_n 0, 1) := by decide +kernel
theorem dX6_undo_1 : decode cX6_undo 1 = .ok (.getfield 16, 3) := by decide +kernel
theorem dX6_undo_4 : decode cX6_undo 4 = .ok (.ifCond .ne 6, 3) := by decide +kernel
theorem dX6_undo_7 : decode cX6_undo 7 = .ok (.bipush (-2), 2) := by decide +kernel
theorem dX6_undo_9 : decode cX6_undo 9 = .ok (.ireturn, 1) := by decide +kernel
theorem dX6_undo_10 : decode cX6_undo 10 = .ok (.aload_n 0, 1) := by decide +kernel
theorem dX6_undo_11 : decode cX6_undo 11 = .ok (.sipush 1964, 3) := by decide +kernel
theorem dX6_undo_14 : decode cX6_undo 14 = .ok (.aload_n 0, 1) := by decide +kernel
theorem dX6_undo_15 : decode cX6_undo 15 = .ok (.getfield 16, 3) := by decide +kernel
theorem dX6_undo_18 : decode cX6_undo 18 = .ok (.imul, 1) := by decide +kernel
theorem dX6_undo_19 : decode cX6_undo 19 = .ok (.iconst 0, 1) := by decide +kernel
theorem dX6_undo_20 : decode cX6_undo 20 = .ok (.invokevirtual 20, 3) := by decide +kernel
theorem dX6_undo_23 : decode cX6_undo 23 = .ok (.aload_n 0, 1) := by decide +kernel
theorem dX6_undo_24 : decode cX6_undo 24 = .ok (.dup, 1) := by decide +kernel
theorem dX6_undo_25 : decode cX6_undo 25 = .ok (.getfield 16, 3) := by decide +kernel
theorem dX6_undo_28 : decode cX6_undo 28 = .ok (.iconst 1, 1) := by decide +kernel
theorem dX6_undo_29 : decode cX6_undo 29 = .ok (.isub, 1) := by decide +kernel
theorem dX6_undo_30 : decode cX6_undo 30 = .ok (.putfield 16, 3) := by decide +kernel
theorem dX6_undo_33 : decode cX6_undo 33 = .ok (.aload_n 0, 1) := by decide +kernel
theorem dX6_undo_34 : decode cX6_undo 34 = .ok (.getfield 16, 3) := by decide +kernel
theorem dX6_undo_37 : decode cX6_undo 37 = .ok (.ireturn, 1) := by decide +kernel
theorem dX6_count_0 : decode cX6_count 0 = .ok (.iconst 0, 1) := by decide +kernel
theorem dX6_count_1 : decode cX6_count 1 = .ok (.istore_n 2, 1) := by decide +kernel
theorem dX6_count_2 : decode cX6_count 2 = .ok (.iconst 0, 1) := by decide +kernel
theorem dX6_count_3 : decode cX6_count 3 = .ok (.istore_n 3, 1) := by decide +kernel
theorem dX6_count_4 : decode cX6_count 4 = .ok (.iconst 0, 1) := by decide +kernel
theorem dX6_count_5 : decode cX6_count 5 = .ok (.istore 4, 2) := by decide +kernel
theorem dX6_count_7 : decode cX6_count 7 = .ok (.iconst 0, 1) := by decide +kernel
theorem dX6_count_8 : decode cX6_count 8 = .ok (.istore 5, 2) := by decide +kernel
theorem dX6_count_10 : decode cX6_count 10 = .ok (.iload 5, 2) := by decide +kernel
theorem dX6_count_12 : decode cX6_count 12 = .ok (.aload_n 0, 1) := by decide +kernel
theorem dX6_count_13 : decode cX6_count 13 = .ok (.getfield 7, 3) := by decide +kernel
theorem dX6_count_16 : decode cX6_count 16 = .ok (.iconst 3, 1) := by decide +kernel
theorem dX6_count_17 : decode cX6_count 17 = .ok (.iaload, 1) := by decide +kernel
theorem dX6_count_18 : decode cX6_count 18 = .ok (.if_icmp .ge 70, 3) := by decide +kernel
theorem dX6_count_21 : decode cX6_count 21 = .ok (.aload_n 0, 1) := by decide +kernel
theorem dX6_count_22 : decode cX6_count 22 = .ok (.iload 5, 2) := by decide +kernel
theorem dX6_count_24 : decode cX6_count 24 = .ok (.invokevirtual 35, 3) := by decide +kernel
theorem dX6_count_27 : decode cX6_count 27 = .ok (.istore 6, 2) := by decide +kernel
theorem dX6_count_29 : decode cX6_count 29 = .ok (.iload_n 2, 1) := by decide +kernel
theorem dX6_count_30 : decode cX6_count 30 = .ok (.iload 6, 2) := by decide +kernel
theorem dX6_count_32 : decode cX6_count 32 = .ok (.ifCond .eq 7, 3) := by decide +kernel
theorem dX6_count_35 : decode cX6_count 35 = .ok (.iconst 1, 1) := by decide +kernel
theorem dX6_count_36 : decode cX6_count 36 = .ok (.goto 4, 3) := by decide +kernel
theorem dX6_count_39 : decode cX6_count 39 = .ok (.iconst 0, 1) := by decide +kernel
theorem dX6_count_40 : decode cX6_count 40 = .ok (.iadd, 1) := by decide +kernel
theorem dX6_count_41 : decode cX6_count 41 = .ok (.istore_n 2, 1) := by decide +kernel
theorem dX6_count_42 : decode cX6_count 42 = .ok (.iload_n 3, 1) := by decide +kernel
theorem dX6_count_43 : decode cX6_count 43 = .ok (.aload_n 0, 1) := by decide +kernel
theorem dX6_count_44 : decode cX6_count 44 = .ok (.iload 5, 2) := by decide +kernel
theorem dX6_count_46 : decode cX6_count 46 = .ok (.invokevirtual 110, 3) := by decide +kernel
theorem dX6_count_49 : decode cX6_count 49 = .ok (.iadd, 1) := by decide +kernel
theorem dX6_count_50 : decode cX6_count 50 = .ok (.istore_n 3, 1) := by decide +kernel
theorem dX6_count_51 : decode cX6_count 51 = .ok (.iload 6, 2) := by decide +kernel
theorem dX6_count_53 : decode cX6_count 53 = .ok (.ifCond .eq 25, 3) := by decide +kernel
theorem dX6_count_56 : decode cX6_count 56 = .ok (.aload_n 0, 1) := by decide +kernel
theorem dX6_count_57 : decode cX6_count 57 = .ok (.iload 5, 2) := by decide +kernel
theorem dX6_count_59 : decode cX6_count 59 = .ok (.iconst 3, 1) := by decide +kernel
theorem dX6_count_60 : decode cX6_count 60 = .ok (.invokevirtual 32, 3) := by decide +kernel
theorem dX6_count_63 : decode cX6_count 63 = .ok (.iload 4, 2) := by decide +kernel
theorem dX6_count_65 : decode cX6_count 65 = .ok (.if_icmp .le 13, 3) := by decide +kernel
theorem dX6_count_68 : decode cX6_count 68 = .ok (.aload_n 0, 1) := by decide +kernel
theorem dX6_count_69 : decode cX6_count 69 = .ok (.iload 5, 2) := by decide +kernel
theorem dX6_count_71 : decode cX6_count 71 = .ok (.iconst 3, 1) := by decide +kernel
theorem dX6_count_72 : decode cX6_count 72 = .ok (.invokevirtual 32, 3) := by decide +kernel
theorem dX6_count_75 : decode cX6_count 75 = .ok (.goto 5, 3) := by decide +kernel
theorem dX6_count_78 : decode cX6_count 78 = .ok (.iload 4, 2) := by decide +kernel
theorem dX6_count_80 : decode cX6_count 80 = .ok (.istore 4, 2) := by decide +kernel
theorem dX6_count_82 : decode cX6_count 82 = .ok (.iinc 5 1, 3) := by decide +kernel
theorem dX6_count_85 : decode cX6_count 85 = .ok (.goto (-75), 3) := by decide +kernel
theorem dX6_count_88 : decode cX6_count 88 = .ok (.iconst 0, 1) := by decide +kernel
theorem dX6_count_89 : decode cX6_count 89 = .ok (.istore 5, 2) := by decide +kernel
theorem dX6_count_91 : decode cX6_count 91 = .ok (.iconst 0, 1) := by decide +kernel
theorem dX6_count_92 : decode cX6_count 92 = .ok (.istore 6, 2) := by decide +kernel
theorem dX6_count_94 : decode cX6_count 94 = .ok (.iconst 0, 1) := by decide +kernel
theorem dX6_count_95 : decode cX6_count 95 = .ok (.istore 7, 2) := by decide +kernel
theorem dX6_count_97 : decode cX6_count 97 = .ok (.iload 7, 2) := by decide +kernel
theorem dX6_count_99 : decode cX6_count 99 = .ok (.aload_n 0, 1) := by decide +kernel
theorem dX6_count_100 : decode cX6_count 100 = .ok (.getfield 7, 3) := by decide +kernel
theorem dX6_count_103 : decode cX6_count 103 = .ok (.iconst 2, 1) := by decide +kernel
theorem dX6_count_104 : decode cX6_count 104 = .ok (.iaload, 1) := by decide +kernel
theorem dX6_count_105 : decode cX6_count 105 = .ok (.if_icmp .ge 69, 3) := by decide +kernel
theorem dX6_count_108 : decode cX6_count 108 = .ok (.iload 5, 2) := by decide +kernel
theorem dX6_count_110 : decode cX6_count 110 = .ok (.aload_n 0, 1) := by decide +kernel
theorem dX6_count_111 : decode cX6_count 111 = .ok (.iload 7, 2) := by decide +kernel
theorem dX6_count_113 : decode cX6_count 113 = .ok (.invokevirtual 46, 3) := by decide +kernel
theorem dX6_count_116 : decode cX6_count 116 = .ok (.ifCond .eq 23, 3) := by decide +kernel
theorem dX6_count_119 : decode cX6_count 119 = .ok (.aload_n 0, 1) := by decide +kernel
theorem dX6_count_120 : decode cX6_count 120 = .ok (.iload 7, 2) := by decide +kernel
theorem dX6_count_122 : decode cX6_count 122 = .ok (.iconst 4, 1) := by decide +kernel
theorem dX6_count_123 : decode cX6_count 123 = .ok (.invokevirtual 28, 3) := by decide +kernel
theorem dX6_count_126 : decode cX6_count 126 = .ok (.aload_n 0, 1) := by decide +kernel
theorem dX6_count_127 : decode cX6_count 127 = .ok (.iload 7, 2) := by decide +kernel
theorem dX6_count_129 : decode cX6_count 129 = .ok (.invokevirtual 98, 3) := by decide +kernel
theorem dX6_count_132 : decode cX6_count 132 = .ok (.if_icmp .eq 7, 3) := by decide +kernel
theorem dX6_count_135 : decode cX6_count 135 = .ok (.iconst 1, 1) := by decide +kernel
theorem dX6_count_136 : decode cX6_count 136 = .ok (.goto 4, 3) := by decide +kernel
theorem dX6_count_139 : decode cX6_count 139 = .ok (.iconst 0, 1) := by decide +kernel
theorem dX6_count_140 : decode cX6_count 140 = .ok (.iadd, 1) := by decide +kernel
theorem dX6_count_141 : decode cX6_count 141 = .ok (.istore 5, 2) := by decide +kernel
theorem dX6_count_143 : decode cX6_count 143 = .ok (.iload 6, 2) := by decide +kernel
theorem dX6_count_145 : decode cX6_count 145 = .ok (.aload_n 0, 1) := by decide +kernel
theorem dX6_count_146 : decode cX6_count 146 = .ok (.iload 7, 2) := by decide +kernel
theorem dX6_count_148 : decode cX6_count 148 = .ok (.invokevirtual 46, 3) := by decide +kernel
theorem dX6_count_151 : decode cX6_count 151 = .ok (.ifCond .eq 13, 3) := by decide +kernel
theorem dX6_count_154 : decode cX6_count 154 = .ok (.aload_n 0, 1) := by decide +kernel
theorem dX6_count_155 : decode cX6_count 155 = .ok (.iload 7, 2) := by decide +kernel
theorem dX6_count_157 : decode cX6_count 157 = .ok (.iconst 2, 1) := by decide +kernel
theorem dX6_count_158 : decode cX6_count 158 = .ok (.invokevirtual 28, 3) := by decide +kernel
theorem dX6_count_161 : decode cX6_count 161 = .ok (.goto 4, 3) := by decide +kernel
theorem dX6_count_164 : decode cX6_count 164 = .ok (.iconst 0, 1) := by decide +kernel
theorem dX6_count_165 : decode cX6_count 165 = .ok (.iadd, 1) := by decide +kernel
theorem dX6_count_166 : decode cX6_count 166 = .ok (.istore 6, 2) := by decide +kernel
theorem dX6_count_168 : decode cX6_count 168 = .ok (.iinc 7 1, 3) := by decide +kernel
theorem dX6_count_171 : decode cX6_count 171 = .ok (.goto (-74), 3) := by decide +kernel
theorem dX6_count_174 : decode cX6_count 174 = .ok (.iload_n 1, 1) := by decide +kernel
theorem dX6_count_175 : decode cX6_count 175 = .ok (.tableswitch 108 0 10 #[57, 62, 69, 71, 78, 85, 92, 94, 97, 100, 103], 57) := by decide +kernel
theorem dX6_count_232 : decode cX6_count 232 = .ok (.aload_n 0, 1) := by decide +kernel
theorem dX6_count_233 : decode cX6_count 233 = .ok (.invokevirtual 95, 3) := by decide +kernel
theorem dX6_count_236 : decode cX6_count 236 = .ok (.ireturn, 1) := by decide +kernel
theorem dX6_count_237 : decode cX6_count 237 = .ok (.aload_n 0, 1) := by decide +kernel
theorem dX6_count_238 : decode cX6_count 238 = .ok (.getfield 7, 3) := by decide +kernel
theorem dX6_count_241 : decode cX6_count 241 = .ok (.iconst 2, 1) := by decide +kernel
theorem dX6_count_242 : decode cX6_count 242 = .ok (.iaload, 1) := by decide +kernel
theorem dX6_count_243 : decode cX6_count 243 = .ok (.ireturn, 1) := by decide +kernel
theorem dX6_count_244 : decode cX6_count 244 = .ok (.iload_n 2, 1) := by decide +kernel
theorem dX6_count_245 : decode cX6_count 245 = .ok (.ireturn, 1) := by decide +kernel
theorem dX6_count_246 : decode cX6_count 246 = .ok (.aload_n 0, 1) := by decide +kernel
theorem dX6_count_247 : decode cX6_count 247 = .ok (.getfield 7, 3) := by decide +kernel
theorem dX6_count_250 : decode cX6_count 250 = .ok (.iconst 3, 1) := by decide +kernel
theorem dX6_count_251 : decode cX6_count 251 = .ok (.iaload, 1) := by decide +kernel
theorem dX6_count_252 : decode cX6_count 252 = .ok (.ireturn, 1) := by decide +kernel
theorem dX6_count_253 : decode cX6_count 253 = .ok (.aload_n 0, 1) := by decide +kernel
theorem dX6_count_254 : decode cX6_count 254 = .ok (.getfield 7, 3) := by decide +kernel
theorem dX6_count_257 : decode cX6_count 257 = .ok (.iconst 0, 1) := by decide +kernel
theorem dX6_count_258 : decode cX6_count 258 = .ok (.iaload, 1) := by decide +kernel
theorem dX6_count_259 : decode cX6_count 259 = .ok (.ireturn, 1) := by decide +kernel
theorem dX6_count_260 : decode cX6_count 260 = .ok (.aload_n 0, 1) := by decide +kernel
theorem dX6_count_261 : decode cX6_count 261 = .ok (.getfield 7, 3) := by decide +kernel
theorem dX6_count_264 : decode cX6_count 264 = .ok (.iconst 1, 1) := by decide +kernel
theorem dX6_count_265 : decode cX6_count 265 = .ok (.iaload, 1) := by decide +kernel
theorem dX6_count_266 : decode cX6_count 266 = .ok (.ireturn, 1) := by decide +kernel
theorem dX6_count_267 : decode cX6_count 267 = .ok (.iload_n 3, 1) := by decide +kernel
theorem dX6_count_268 : decode cX6_count 268 = .ok (.ireturn, 1) := by decide +kernel
theorem dX6_count_269 : decode cX6_count 269 = .ok (.iload 5, 2) := by decide +kernel
theorem dX6_count_271 : decode cX6_count 271 = .ok (.ireturn, 1) := by decide +kernel
theorem dX6_count_272 : decode cX6_count 272 = .ok (.iload 4, 2) := by decide +kernel
theorem dX6_count_274 : decode cX6_count 274 = .ok (.ireturn, 1) := by decide +kernel
theorem dX6_count_275 : decode cX6_count 275 = .ok (.iload 6, 2) := by decide +kernel
theorem dX6_count_277 : decode cX6_count 277 = .ok (.ireturn, 1) := by decide +kernel
theorem dX6_count_278 : decode cX6_count 278 = .ok (.aload_n 0, 1) := by decide +kernel
theorem dX6_count_279 : decode cX6_count 279 = .ok (.getfield 16, 3) := by decide +kernel
theorem dX6_count_282 : decode cX6_count 282 = .ok (.ireturn, 1) := by decide +kernel
theorem dX6_count_283 : decode cX6_count 283 = .ok (.iconst (-1), 1) := by decide +kernel
theorem dX6_count_284 : decode cX6_count 284 = .ok (.ireturn, 1) := by decide +kernel
theorem dX6_point_0 : decode cX6_point 0 = .ok (.aload_n 0, 1) := by decide +kernel
theorem dX6_point_1 : decode cX6_point 1 = .ok (.iload_n 1, 1) := by decide +kernel
theorem dX6_point_2 : decode cX6_point 2 = .ok (.invokevirtual 46, 3) := by decide +kernel
theorem dX6_point_5 : decode cX6_point 5 = .ok (.ifCond .eq 12, 3) := by decide +kernel
theorem dX6_point_8 : decode cX6_point 8 = .ok (.iload_n 2, 1) := by decide +kernel
theorem dX6_point_9 : decode cX6_point 9 = .ok (.iconst 0, 1) := by decide +kernel
theorem dX6_point_10 : decode cX6_point 10 = .ok (.iconst 4, 1) := by decide +kernel
theorem dX6_point_11 : decode cX6_point 11 = .ok (.invokestatic 24, 3) := by decide +kernel
theorem dX6_point_14 : decode cX6_point 14 = .ok (.ifCond .ne 5, 3) := by decide +kernel
theorem dX6_point_17 : decode cX6_point 17 = .ok (.iconst (-1), 1) := by decide +kernel
theorem dX6_point_18 : decode cX6_point 18 = .ok (.ireturn, 1) := by decide +kernel
theorem dX6_point_19 : decode cX6_point 19 = .ok (.iload_n 2, 1) := by decide +kernel
theorem dX6_point_20 : decode cX6_point 20 = .ok (.iconst 3, 1) := by decide +kernel
theorem dX6_point_21 : decode cX6_point 21 = .ok (.if_icmp .ge 12, 3) := by decide +kernel
theorem dX6_point_24 : decode cX6_point 24 = .ok (.aload_n 0, 1) := by decide +kernel
theorem dX6_point_25 : decode cX6_point 25 = .ok (.iload_n 1, 1) := by decide +kernel
theorem dX6_point_26 : decode cX6_point 26 = .ok (.iload_n 2, 1) := by decide +kernel
theorem dX6_point_27 : decode cX6_point 27 = .ok (.invokevirtual 28, 3) := by decide +kernel
theorem dX6_point_30 : decode cX6_point 30 = .ok (.goto 22, 3) := by decide +kernel
theorem dX6_point_33 : decode cX6_point 33 = .ok (.iload_n 2, 1) := by decide +kernel
theorem dX6_point_34 : decode cX6_point 34 = .ok (.iconst 3, 1) := by decide +kernel
theorem dX6_point_35 : decode cX6_point 35 = .ok (.if_icmp .ne 11, 3) := by decide +kernel
theorem dX6_point_38 : decode cX6_point 38 = .ok (.aload_n 0, 1) := by decide +kernel
theorem dX6_point_39 : decode cX6_point 39 = .ok (.iload_n 1, 1) := by decide +kernel
theorem dX6_point_40 : decode cX6_point 40 = .ok (.invokevirtual 98, 3) := by decide +kernel
theorem dX6_point_43 : decode cX6_point 43 = .ok (.goto 9, 3) := by decide +kernel
theorem dX6_point_46 : decode cX6_point 46 = .ok (.aload_n 0, 1) := by decide +kernel
theorem dX6_point_47 : decode cX6_point 47 = .ok (.iload_n 1, 1) := by decide +kernel
theorem dX6_point_48 : decode cX6_point 48 = .ok (.iconst 4, 1) := by decide +kernel
theorem dX6_point_49 : decode cX6_point 49 = .ok (.invokevirtual 28, 3) := by decide +kernel
theorem dX6_point_52 : decode cX6_point 52 = .ok (.ireturn, 1) := by decide +kernel
theorem dX6_parish_0 : decode cX6_parish 0 = .ok (.aload_n 0, 1) := by decide +kernel
theorem dX6_parish_1 : decode cX6_parish 1 = .ok (.iload_n 1, 1) := by decide +kernel
theorem dX6_parish_2 : decode cX6_parish 2 = .ok (.invokevirtual 35, 3) := by decide +kernel
theorem dX6_parish_5 : decode cX6_parish 5 = .ok (.ifCond .eq 13, 3) := by decide +kernel
theorem dX6_parish_8 : decode cX6_parish 8 = .ok (.iload_n 2, 1) := by decide +kernel
theorem dX6_parish_9 : decode cX6_parish 9 = .ok (.iconst 0, 1) := by decide +kernel
theorem dX6_parish_10 : decode cX6_parish 10 = .ok (.bipush 7, 2) := by decide +kernel
theorem dX6_parish_12 : decode cX6_parish 12 = .ok (.invokestatic 24, 3) := by decide +kernel
theorem dX6_parish_15 : decode cX6_parish 15 = .ok (.ifCond .ne 5, 3) := by decide +kernel
theorem dX6_parish_18 : decode cX6_parish 18 = .ok (.iconst (-1), 1) := by decide +kernel
theorem dX6_parish_19 : decode cX6_parish 19 = .ok (.ireturn, 1) := by decide +kernel
theorem dX6_parish_20 : decode cX6_parish 20 = .ok (.iconst 0, 1) := by decide +kernel
theorem dX6_parish_21 : decode cX6_parish 21 = .ok (.istore_n 3, 1) := by decide +kernel
theorem dX6_parish_22 : decode cX6_parish 22 = .ok (.iconst 0, 1) := by decide +kernel
theorem dX6_parish_23 : decode cX6_parish 23 = .ok (.istore 4, 2) := by decide +kernel
theorem dX6_parish_25 : decode cX6_parish 25 = .ok (.iconst 0, 1) := by decide +kernel
theorem dX6_parish_26 : decode cX6_parish 26 = .ok (.istore 5, 2) := by decide +kernel
theorem dX6_parish_28 : decode cX6_parish 28 = .ok (.iload 5, 2) := by decide +kernel
theorem dX6_parish_30 : decode cX6_parish 30 = .ok (.aload_n 0, 1) := by decide +kernel
theorem dX6_parish_31 : decode cX6_parish 31 = .ok (.getfield 7, 3) := by decide +kernel
theorem dX6_parish_34 : decode cX6_parish 34 = .ok (.iconst 2, 1) := by decide +kernel
theorem dX6_parish_35 : decode cX6_parish 35 = .ok (.iaload, 1) := by decide +kernel
theorem dX6_parish_36 : decode cX6_parish 36 = .ok (.if_icmp .ge 70, 3) := by decide +kernel
theorem dX6_parish_39 : decode cX6_parish 39 = .ok (.aload_n 0, 1) := by decide +kernel
theorem dX6_parish_40 : decode cX6_parish 40 = .ok (.iload 5, 2) := by decide +kernel
theorem dX6_parish_42 : decode cX6_parish 42 = .ok (.invokevirtual 46, 3) := by decide +kernel
theorem dX6_parish_45 : decode cX6_parish 45 = .ok (.ifCond .eq 18, 3) := by decide +kernel
theorem dX6_parish_48 : decode cX6_parish 48 = .ok (.aload_n 0, 1) := by decide +kernel
theorem dX6_parish_49 : decode cX6_parish 49 = .ok (.iload 5, 2) := by decide +kernel
theorem dX6_parish_51 : decode cX6_parish 51 = .ok (.iconst 4, 1) := by decide +kernel
theorem dX6_parish_52 : decode cX6_parish 52 = .ok (.invokevirtual 28, 3) := by decide +kernel
theorem dX6_parish_55 : decode cX6_parish 55 = .ok (.iload_n 1, 1) := by decide +kernel
theorem dX6_parish_56 : decode cX6_parish 56 = .ok (.if_icmp .ne 7, 3) := by decide +kernel
theorem dX6_parish_59 : decode cX6_parish 59 = .ok (.iconst 1, 1) := by decide +kernel
theorem dX6_parish_60 : decode cX6_parish 60 = .ok (.goto 4, 3) := by decide +kernel
theorem dX6_parish_63 : decode cX6_parish 63 = .ok (.iconst 0, 1) := by decide +kernel
theorem dX6_parish_64 : decode cX6_parish 64 = .ok (.istore 6, 2) := by decide +kernel
theorem dX6_parish_66 : decode cX6_parish 66 = .ok (.iload_n 3, 1) := by decide +kernel
theorem dX6_parish_67 : decode cX6_parish 67 = .ok (.iload 6, 2) := by decide +kernel
theorem dX6_parish_69 : decode cX6_parish 69 = .ok (.ifCond .eq 7, 3) := by decide +kernel
theorem dX6_parish_72 : decode cX6_parish 72 = .ok (.iconst 1, 1) := by decide +kernel
theorem dX6_parish_73 : decode cX6_parish 73 = .ok (.goto 4, 3) := by decide +kernel
theorem dX6_parish_76 : decode cX6_parish 76 = .ok (.iconst 0, 1) := by decide +kernel
theorem dX6_parish_77 : decode cX6_parish 77 = .ok (.iadd, 1) := by decide +kernel
theorem dX6_parish_78 : decode cX6_parish 78 = .ok (.istore_n 3, 1) := by decide +kernel
theorem dX6_parish_79 : decode cX6_parish 79 = .ok (.iload 4, 2) := by decide +kernel
theorem dX6_parish_81 : decode cX6_parish 81 = .ok (.iload 6, 2) := by decide +kernel
theorem dX6_parish_83 : decode cX6_parish 83 = .ok (.ifCond .eq 13, 3) := by decide +kernel
theorem dX6_parish_86 : decode cX6_parish 86 = .ok (.aload_n 0, 1) := by decide +kernel
theorem dX6_parish_87 : decode cX6_parish 87 = .ok (.iload 5, 2) := by decide +kernel
theorem dX6_parish_89 : decode cX6_parish 89 = .ok (.iconst 2, 1) := by decide +kernel
theorem dX6_parish_90 : decode cX6_parish 90 = .ok (.invokevirtual 28, 3) := by decide +kernel
theorem dX6_parish_93 : decode cX6_parish 93 = .ok (.goto 4, 3) := by decide +kernel
theorem dX6_parish_96 : decode cX6_parish 96 = .ok (.iconst 0, 1) := by decide +kernel
theorem dX6_parish_97 : decode cX6_parish 97 = .ok (.iadd, 1) := by decide +kernel
theorem dX6_parish_98 : decode cX6_parish 98 = .ok (.istore 4, 2) := by decide +kernel
theorem dX6_parish_100 : decode cX6_parish 100 = .ok (.iinc 5 1, 3) := by decide +kernel
theorem dX6_parish_103 : decode cX6_parish 103 = .ok (.goto (-75), 3) := by decide +kernel
theorem dX6_parish_106 : decode cX6_parish 106 = .ok (.iconst 0, 1) := by decide +kernel
theorem dX6_parish_107 : decode cX6_parish 107 = .ok (.istore 5, 2) := by decide +kernel
theorem dX6_parish_109 : decode cX6_parish 109 = .ok (.iconst 0, 1) := by decide +kernel
theorem dX6_parish_110 : decode cX6_parish 110 = .ok (.istore 6, 2) := by decide +kernel
theorem dX6_parish_112 : decode cX6_parish 112 = .ok (.iload 6, 2) := by decide +kernel
theorem dX6_parish_114 : decode cX6_parish 114 = .ok (.bipush 40, 2) := by decide +kernel
theorem dX6_parish_116 : decode cX6_parish 116 = .ok (.if_icmp .ge 21, 3) := by decide +kernel
theorem dX6_parish_119 : decode cX6_parish 119 = .ok (.iload 5, 2) := by decide +kernel
theorem dX6_parish_121 : decode cX6_parish 121 = .ok (.aload_n 0, 1) := by decide +kernel
theorem dX6_parish_122 : decode cX6_parish 122 = .ok (.iload 6, 2) := by decide +kernel
theorem dX6_parish_124 : decode cX6_parish 124 = .ok (.iload_n 1, 1) := by decide +kernel
theorem dX6_parish_125 : decode cX6_parish 125 = .ok (.invokevirtual 53, 3) := by decide +kernel
theorem dX6_parish_128 : decode cX6_parish 128 = .ok (.iadd, 1) := by decide +kernel
theorem dX6_parish_129 : decode cX6_parish 129 = .ok (.istore 5, 2) := by decide +kernel
theorem dX6_parish_131 : decode cX6_parish 131 = .ok (.iinc 6 1, 3) := by decide +kernel
theorem dX6_parish_134 : decode cX6_parish 134 = .ok (.goto (-22), 3) := by decide +kernel
theorem dX6_parish_137 : decode cX6_parish 137 = .ok (.iload_n 2, 1) := by decide +kernel
theorem dX6_parish_138 : decode cX6_parish 138 = .ok (.tableswitch 84 0 6 #[42, 42, 42, 51, 73, 75, 78], 42) := by decide +kernel
theorem dX6_parish_180 : decode cX6_parish 180 = .ok (.aload_n 0, 1) := by decide +kernel
theorem dX6_parish_181 : decode cX6_parish 181 = .ok (.iload_n 1, 1) := by decide +kernel
theorem dX6_parish_182 : decode cX6_parish 182 = .ok (.iload_n 2, 1) := by decide +kernel
theorem dX6_parish_183 : decode cX6_parish 183 = .ok (.iconst 1, 1) := by decide +kernel
theorem dX6_parish_184 : decode cX6_parish 184 = .ok (.iadd, 1) := by decide +kernel
theorem dX6_parish_185 : decode cX6_parish 185 = .ok (.invokevirtual 32, 3) := by decide +kernel
theorem dX6_parish_188 : decode cX6_parish 188 = .ok (.ireturn, 1) := by decide +kernel
theorem dX6_parish_189 : decode cX6_parish 189 = .ok (.aload_n 0, 1) := by decide +kernel
theorem dX6_parish_190 : decode cX6_parish 190 = .ok (.aload_n 0, 1) := by decide +kernel
theorem dX6_parish_191 : decode cX6_parish 191 = .ok (.iload_n 1, 1) := by decide +kernel
theorem dX6_parish_192 : decode cX6_parish 192 = .ok (.iconst 1, 1) := by decide +kernel
theorem dX6_parish_193 : decode cX6_parish 193 = .ok (.invokevirtual 32, 3) := by decide +kernel
theorem dX6_parish_196 : decode cX6_parish 196 = .ok (.aload_n 0, 1) := by decide +kernel
theorem dX6_parish_197 : decode cX6_parish 197 = .ok (.iload_n 1, 1) := by decide +kernel
theorem dX6_parish_198 : decode cX6_parish 198 = .ok (.iconst 2, 1) := by decide +kernel
theorem dX6_parish_199 : decode cX6_parish 199 = .ok (.invokevirtual 32, 3) := by decide +kernel
theorem dX6_parish_202 : decode cX6_parish 202 = .ok (.aload_n 0, 1) := by decide +kernel
theorem dX6_parish_203 : decode cX6_parish 203 = .ok (.iload_n 1, 1) := by decide +kernel
theorem dX6_parish_204 : decode cX6_parish 204 = .ok (.invokevirtual 39, 3) := by decide +kernel
theorem dX6_parish_207 : decode cX6_parish 207 = .ok (.invokevirtual 56, 3) := by decide +kernel
theorem dX6_parish_210 : decode cX6_parish 210 = .ok (.ireturn, 1) := by decide +kernel
theorem dX6_parish_211 : decode cX6_parish 211 = .ok (.iload_n 3, 1) := by decide +kernel
theorem dX6_parish_212 : decode cX6_parish 212 = .ok (.ireturn, 1) := by decide +kernel
theorem dX6_parish_213 : decode cX6_parish 213 = .ok (.iload 4, 2) := by decide +kernel
theorem dX6_parish_215 : decode cX6_parish 215 = .ok (.ireturn, 1) := by decide +kernel
theorem dX6_parish_216 : decode cX6_parish 216 = .ok (.aload_n 0, 1) := by decide +kernel
theorem dX6_parish_217 : decode cX6_parish 217 = .ok (.iload_n 1, 1) := by decide +kernel
theorem dX6_parish_218 : decode cX6_parish 218 = .ok (.invokevirtual 110, 3) := by decide +kernel
theorem dX6_parish_221 : decode cX6_parish 221 = .ok (.ireturn, 1) := by decide +kernel
theorem dX6_parish_222 : decode cX6_parish 222 = .ok (.iload 5, 2) := by decide +kernel
theorem dX6_parish_224 : decode cX6_parish 224 = .ok (.ireturn, 1) := by decide +kernel
theorem dX6_debt_0 : decode cX6_debt 0 = .ok (.aload_n 0, 1) := by decide +kernel
theorem dX6_debt_1 : decode cX6_debt 1 = .ok (.iload_n 1, 1) := by decide +kernel
theorem dX6_debt_2 : decode cX6_debt 2 = .ok (.invokevirtual 35, 3) := by decide +kernel
theorem dX6_debt_5 : decode cX6_debt 5 = .ok (.ifCond .eq 20, 3) := by decide +kernel
theorem dX6_debt_8 : decode cX6_debt 8 = .ok (.aload_n 0, 1) := by decide +kernel
theorem dX6_debt_9 : decode cX6_debt 9 = .ok (.iload_n 2, 1) := by decide +kernel
theorem dX6_debt_10 : decode cX6_debt 10 = .ok (.invokevirtual 35, 3) := by decide +kernel
theorem dX6_debt_13 : decode cX6_debt 13 = .ok (.ifCond .eq 12, 3) := by decide +kernel
theorem dX6_debt_16 : decode cX6_debt 16 = .ok (.aload_n 0, 1) := by decide +kernel
theorem dX6_debt_17 : decode cX6_debt 17 = .ok (.iload_n 1, 1) := by decide +kernel
theorem dX6_debt_18 : decode cX6_debt 18 = .ok (.iload_n 2, 1) := by decide +kernel
theorem dX6_debt_19 : decode cX6_debt 19 = .ok (.invokevirtual 53, 3) := by decide +kernel
theorem dX6_debt_22 : decode cX6_debt 22 = .ok (.goto 4, 3) := by decide +kernel
theorem dX6_debt_25 : decode cX6_debt 25 = .ok (.iconst (-1), 1) := by decide +kernel
theorem dX6_debt_26 : decode cX6_debt 26 = .ok (.ireturn, 1) := by decide +kernel
theorem dX6_at_0 : decode cX6_at 0 = .ok (.iload_n 1, 1) := by decide +kernel
theorem dX6_at_1 : decode cX6_at 1 = .ok (.iload_n 2, 1) := by decide +kernel
theorem dX6_at_2 : decode cX6_at 2 = .ok (.invokestatic 85, 3) := by decide +kernel
theorem dX6_at_5 : decode cX6_at 5 = .ok (.ifCond .eq 12, 3) := by decide +kernel
theorem dX6_at_8 : decode cX6_at 8 = .ok (.aload_n 0, 1) := by decide +kernel
theorem dX6_at_9 : decode cX6_at 9 = .ok (.iload_n 1, 1) := by decide +kernel
theorem dX6_at_10 : decode cX6_at 10 = .ok (.iload_n 2, 1) := by decide +kernel
theorem dX6_at_11 : decode cX6_at 11 = .ok (.invokevirtual 43, 3) := by decide +kernel
theorem dX6_at_14 : decode cX6_at 14 = .ok (.goto 4, 3) := by decide +kernel
theorem dX6_at_17 : decode cX6_at 17 = .ok (.iconst (-1), 1) := by decide +kernel
theorem dX6_at_18 : decode cX6_at 18 = .ok (.ireturn, 1) := by decide +kernel
theorem dX6_range_0 : decode cX6_range 0 = .ok (.iload_n 1, 1) := by decide +kernel
theorem dX6_range_1 : decode cX6_range 1 = .ok (.iload_n 2, 1) := by decide +kernel
theorem dX6_range_2 : decode cX6_range 2 = .ok (.invokestatic 85, 3) := by decide +kernel
theorem dX6_range_5 : decode cX6_range 5 = .ok (.ifCond .eq 34, 3) := by decide +kernel
theorem dX6_range_8 : decode cX6_range 8 = .ok (.iload_n 3, 1) := by decide +kernel
theorem dX6_range_9 : decode cX6_range 9 = .ok (.iload_n 1, 1) := by decide +kernel
theorem dX6_range_10 : decode cX6_range 10 = .ok (.bipush 63, 2) := by decide +kernel
theorem dX6_range_12 : decode cX6_range 12 = .ok (.invokestatic 24, 3) := by decide +kernel
theorem dX6_range_15 : decode cX6_range 15 = .ok (.ifCond .eq 24, 3) := by decide +kernel
theorem dX6_range_18 : decode cX6_range 18 = .ok (.iload 4, 2) := by decide +kernel
theorem dX6_range_20 : decode cX6_range 20 = .ok (.iload_n 2, 1) := by decide +kernel
theorem dX6_range_21 : decode cX6_range 21 = .ok (.bipush 63, 2) := by decide +kernel
theorem dX6_range_23 : decode cX6_range 23 = .ok (.invokestatic 24, 3) := by decide +kernel
theorem dX6_range_26 : decode cX6_range 26 = .ok (.ifCond .eq 13, 3) := by decide +kernel
theorem dX6_range_29 : decode cX6_range 29 = .ok (.iload 5, 2) := by decide +kernel
theorem dX6_range_31 : decode cX6_range 31 = .ok (.iconst 0, 1) := by decide +kernel
theorem dX6_range_32 : decode cX6_range 32 = .ok (.iconst 3, 1) := by decide +kernel
theorem dX6_range_33 : decode cX6_range 33 = .ok (.invokestatic 24, 3) := by decide +kernel
theorem dX6_range_36 : decode cX6_range 36 = .ok (.ifCond .ne 5, 3) := by decide +kernel
theorem dX6_range_39 : decode cX6_range 39 = .ok (.iconst (-1), 1) := by decide +kernel
theorem dX6_range_40 : decode cX6_range 40 = .ok (.ireturn, 1) := by decide +kernel
theorem dX6_range_41 : decode cX6_range 41 = .ok (.iload 5, 2) := by decide +kernel
theorem dX6_range_43 : decode cX6_range 43 = .ok (.ifCond .ne 13, 3) := by decide +kernel
theorem dX6_range_46 : decode cX6_range 46 = .ok (.aload_n 0, 1) := by decide +kernel
theorem dX6_range_47 : decode cX6_range 47 = .ok (.iload_n 1, 1) := by decide +kernel
theorem dX6_range_48 : decode cX6_range 48 = .ok (.iload_n 2, 1) := by decide +kernel
theorem dX6_range_49 : decode cX6_range 49 = .ok (.iload_n 3, 1) := by decide +kernel
theorem dX6_range_50 : decode cX6_range 50 = .ok (.iload 4, 2) := by decide +kernel
theorem dX6_range_52 : decode cX6_range 52 = .ok (.invokevirtual 49, 3) := by decide +kernel
theorem dX6_range_55 : decode cX6_range 55 = .ok (.ireturn, 1) := by decide +kernel
theorem dX6_range_56 : decode cX6_range 56 = .ok (.iload 5, 2) := by decide +kernel
theorem dX6_range_58 : decode cX6_range 58 = .ok (.iconst 2, 1) := by decide +kernel
theorem dX6_range_59 : decode cX6_range 59 = .ok (.if_icmp .ne 117, 3) := by decide +kernel
theorem dX6_range_62 : decode cX6_range 62 = .ok (.iconst 0, 1) := by decide +kernel
theorem dX6_range_63 : decode cX6_range 63 = .ok (.istore 6, 2) := by decide +kernel
theorem dX6_range_65 : decode cX6_range 65 = .ok (.iconst 0, 1) := by decide +kernel
theorem dX6_range_66 : decode cX6_range 66 = .ok (.istore 7, 2) := by decide +kernel
theorem dX6_range_68 : decode cX6_range 68 = .ok (.iload 7, 2) := by decide +kernel
theorem dX6_range_70 : decode cX6_range 70 = .ok (.aload_n 0, 1) := by decide +kernel
theorem dX6_range_71 : decode cX6_range 71 = .ok (.getfield 7, 3) := by decide +kernel
theorem dX6_range_74 : decode cX6_range 74 = .ok (.iconst 3, 1) := by decide +kernel
theorem dX6_range_75 : decode cX6_range 75 = .ok (.iaload, 1) := by decide +kernel
theorem dX6_range_76 : decode cX6_range 76 = .ok (.if_icmp .ge 97, 3) := by decide +kernel
theorem dX6_range_79 : decode cX6_range 79 = .ok (.aload_n 0, 1) := by decide +kernel
theorem dX6_range_80 : decode cX6_range 80 = .ok (.iload 7, 2) := by decide +kernel
theorem dX6_range_82 : decode cX6_range 82 = .ok (.iconst 1, 1) := by decide +kernel
theorem dX6_range_83 : decode cX6_range 83 = .ok (.invokevirtual 32, 3) := by decide +kernel
theorem dX6_range_86 : decode cX6_range 86 = .ok (.istore 8, 2) := by decide +kernel
theorem dX6_range_88 : decode cX6_range 88 = .ok (.aload_n 0, 1) := by decide +kernel
theorem dX6_range_89 : decode cX6_range 89 = .ok (.iload 7, 2) := by decide +kernel
theorem dX6_range_91 : decode cX6_range 91 = .ok (.iconst 2, 1) := by decide +kernel
theorem dX6_range_92 : decode cX6_range 92 = .ok (.invokevirtual 32, 3) := by decide +kernel
theorem dX6_range_95 : decode cX6_range 95 = .ok (.istore 9, 2) := by decide +kernel
theorem dX6_range_97 : decode cX6_range 97 = .ok (.iload 8, 2) := by decide +kernel
theorem dX6_range_99 : decode cX6_range 99 = .ok (.iload_n 3, 1) := by decide +kernel
theorem dX6_range_100 : decode cX6_range 100 = .ok (.if_icmp .gt 40, 3) := by decide +kernel
theorem dX6_range_103 : decode cX6_range 103 = .ok (.iload 8, 2) := by decide +kernel
theorem dX6_range_105 : decode cX6_range 105 = .ok (.aload_n 0, 1) := by decide +kernel
theorem dX6_range_106 : decode cX6_range 106 = .ok (.iload 7, 2) := by decide +kernel
theorem dX6_range_108 : decode cX6_range 108 = .ok (.invokevirtual 39, 3) := by decide +kernel
theorem dX6_range_111 : decode cX6_range 111 = .ok (.iadd, 1) := by decide +kernel
theorem dX6_range_112 : decode cX6_range 112 = .ok (.iload_n 1, 1) := by decide +kernel
theorem dX6_range_113 : decode cX6_range 113 = .ok (.if_icmp .le 27, 3) := by decide +kernel
theorem dX6_range_116 : decode cX6_range 116 = .ok (.iload 9, 2) := by decide +kernel
theorem dX6_range_118 : decode cX6_range 118 = .ok (.iload 4, 2) := by decide +kernel
theorem dX6_range_120 : decode cX6_range 120 = .ok (.if_icmp .gt 20, 3) := by decide +kernel
theorem dX6_range_123 : decode cX6_range 123 = .ok (.iload 9, 2) := by decide +kernel
theorem dX6_range_125 : decode cX6_range 125 = .ok (.aload_n 0, 1) := by decide +kernel
theorem dX6_range_126 : decode cX6_range 126 = .ok (.iload 7, 2) := by decide +kernel
theorem dX6_range_128 : decode cX6_range 128 = .ok (.invokevirtual 39, 3) := by decide +kernel
theorem dX6_range_131 : decode cX6_range 131 = .ok (.iadd, 1) := by decide +kernel
theorem dX6_range_132 : decode cX6_range 132 = .ok (.iload_n 2, 1) := by decide +kernel
theorem dX6_range_133 : decode cX6_range 133 = .ok (.if_icmp .le 7, 3) := by decide +kernel
theorem dX6_range_136 : decode cX6_range 136 = .ok (.iconst 1, 1) := by decide +kernel
theorem dX6_range_137 : decode cX6_range 137 = .ok (.goto 4, 3) := by decide +kernel
theorem dX6_range_140 : decode cX6_range 140 = .ok (.iconst 0, 1) := by decide +kernel
theorem dX6_range_141 : decode cX6_range 141 = .ok (.istore 10, 2) := by decide +kernel
theorem dX6_range_143 : decode cX6_range 143 = .ok (.iload 6, 2) := by decide +kernel
theorem dX6_range_145 : decode cX6_range 145 = .ok (.aload_n 0, 1) := by decide +kernel
theorem dX6_range_146 : decode cX6_range 146 = .ok (.iload 7, 2) := by decide +kernel
theorem dX6_range_148 : decode cX6_range 148 = .ok (.invokevirtual 35, 3) := by decide +kernel
theorem dX6_range_151 : decode cX6_range 151 = .ok (.ifCond .eq 12, 3) := by decide +kernel
theorem dX6_range_154 : decode cX6_range 154 = .ok (.iload 10, 2) := by decide +kernel
theorem dX6_range_156 : decode cX6_range 156 = .ok (.ifCond .eq 7, 3) := by decide +kernel
theorem dX6_range_159 : decode cX6_range 159 = .ok (.iconst 1, 1) := by decide +kernel
theorem dX6_range_160 : decode cX6_range 160 = .ok (.goto 4, 3) := by decide +kernel
theorem dX6_range_163 : decode cX6_range 163 = .ok (.iconst 0, 1) := by decide +kernel
theorem dX6_range_164 : decode cX6_range 164 = .ok (.iadd, 1) := by decide +kernel
theorem dX6_range_165 : decode cX6_range 165 = .ok (.istore 6, 2) := by decide +kernel
theorem dX6_range_167 : decode cX6_range 167 = .ok (.iinc 7 1, 3) := by decide +kernel
theorem dX6_range_170 : decode cX6_range 170 = .ok (.goto (-102), 3) := by decide +kernel
theorem dX6_range_173 : decode cX6_range 173 = .ok (.iload 6, 2) := by decide +kernel
theorem dX6_range_175 : decode cX6_range 175 = .ok (.ireturn, 1) := by decide +kernel
theorem dX6_range_176 : decode cX6_range 176 = .ok (.iconst 0, 1) := by decide +kernel
theorem dX6_range_177 : decode cX6_range 177 = .ok (.istore 6, 2) := by decide +kernel
theorem dX6_range_179 : decode cX6_range 179 = .ok (.bipush (-9), 2) := by decide +kernel
theorem dX6_range_181 : decode cX6_range 181 = .ok (.istore 7, 2) := by decide +kernel
theorem dX6_range_183 : decode cX6_range 183 = .ok (.iconst 0, 1) := by decide +kernel
theorem dX6_range_184 : decode cX6_range 184 = .ok (.istore 8, 2) := by decide +kernel
theorem dX6_range_186 : decode cX6_range 186 = .ok (.iload 8, 2) := by decide +kernel
theorem dX6_range_188 : decode cX6_range 188 = .ok (.aload_n 0, 1) := by decide +kernel
theorem dX6_range_189 : decode cX6_range 189 = .ok (.getfield 7, 3) := by decide +kernel
theorem dX6_range_192 : decode cX6_range 192 = .ok (.iconst 2, 1) := by decide +kernel
theorem dX6_range_193 : decode cX6_range 193 = .ok (.iaload, 1) := by decide +kernel
theorem dX6_range_194 : decode cX6_range 194 = .ok (.if_icmp .ge 94, 3) := by decide +kernel
theorem dX6_range_197 : decode cX6_range 197 = .ok (.aload_n 0, 1) := by decide +kernel
theorem dX6_range_198 : decode cX6_range 198 = .ok (.iload 8, 2) := by decide +kernel
theorem dX6_range_200 : decode cX6_range 200 = .ok (.invokevirtual 46, 3) := by decide +kernel
theorem dX6_range_203 : decode cX6_range 203 = .ok (.ifCond .eq 79, 3) := by decide +kernel
theorem dX6_range_206 : decode cX6_range 206 = .ok (.aload_n 0, 1) := by decide +kernel
theorem dX6_range_207 : decode cX6_range 207 = .ok (.iload 8, 2) := by decide +kernel
theorem dX6_range_209 : decode cX6_range 209 = .ok (.iconst 0, 1) := by decide +kernel
theorem dX6_range_210 : decode cX6_range 210 = .ok (.invokevirtual 28, 3) := by decide +kernel
theorem dX6_range_213 : decode cX6_range 213 = .ok (.iload_n 1, 1) := by decide +kernel
theorem dX6_range_214 : decode cX6_range 214 = .ok (.iload_n 3, 1) := by decide +kernel
theorem dX6_range_215 : decode cX6_range 215 = .ok (.invokestatic 24, 3) := by decide +kernel
theorem dX6_range_218 : decode cX6_range 218 = .ok (.ifCond .eq 64, 3) := by decide +kernel
theorem dX6_range_221 : decode cX6_range 221 = .ok (.aload_n 0, 1) := by decide +kernel
theorem dX6_range_222 : decode cX6_range 222 = .ok (.iload 8, 2) := by decide +kernel
theorem dX6_range_224 : decode cX6_range 224 = .ok (.iconst 1, 1) := by decide +kernel
theorem dX6_range_225 : decode cX6_range 225 = .ok (.invokevirtual 28, 3) := by decide +kernel
theorem dX6_range_228 : decode cX6_range 228 = .ok (.iload_n 2, 1) := by decide +kernel
theorem dX6_range_229 : decode cX6_range 229 = .ok (.iload 4, 2) := by decide +kernel
theorem dX6_range_231 : decode cX6_range 231 = .ok (.invokestatic 24, 3) := by decide +kernel
theorem dX6_range_234 : decode cX6_range 234 = .ok (.ifCond .eq 48, 3) := by decide +kernel
theorem dX6_range_237 : decode cX6_range 237 = .ok (.iload 6, 2) := by decide +kernel
theorem dX6_range_239 : decode cX6_range 239 = .ok (.aload_n 0, 1) := by decide +kernel
theorem dX6_range_240 : decode cX6_range 240 = .ok (.iload 8, 2) := by decide +kernel
theorem dX6_range_242 : decode cX6_range 242 = .ok (.iconst 2, 1) := by decide +kernel
theorem dX6_range_243 : decode cX6_range 243 = .ok (.invokevirtual 28, 3) := by decide +kernel
theorem dX6_range_246 : decode cX6_range 246 = .ok (.iadd, 1) := by decide +kernel
theorem dX6_range_247 : decode cX6_range 247 = .ok (.istore 6, 2) := by decide +kernel
theorem dX6_range_249 : decode cX6_range 249 = .ok (.iload 7, 2) := by decide +kernel
theorem dX6_range_251 : decode cX6_range 251 = .ok (.bipush (-9), 2) := by decide +kernel
theorem dX6_range_253 : decode cX6_range 253 = .ok (.if_icmp .eq 20, 3) := by decide +kernel
theorem dX6_range_256 : decode cX6_range 256 = .ok (.aload_n 0, 1) := by decide +kernel
theorem dX6_range_257 : decode cX6_range 257 = .ok (.iload 8, 2) := by decide +kernel
theorem dX6_range_259 : decode cX6_range 259 = .ok (.iconst 2, 1) := by decide +kernel
theorem dX6_range_260 : decode cX6_range 260 = .ok (.invokevirtual 28, 3) := by decide +kernel
theorem dX6_range_263 : decode cX6_range 263 = .ok (.aload_n 0, 1) := by decide +kernel
theorem dX6_range_264 : decode cX6_range 264 = .ok (.iload 7, 2) := by decide +kernel
theorem dX6_range_266 : decode cX6_range 266 = .ok (.iconst 2, 1) := by decide +kernel
theorem dX6_range_267 : decode cX6_range 267 = .ok (.invokevirtual 28, 3) := by decide +kernel
theorem dX6_range_270 : decode cX6_range 270 = .ok (.if_icmp .le 8, 3) := by decide +kernel
theorem dX6_range_273 : decode cX6_range 273 = .ok (.iload 8, 2) := by decide +kernel
theorem dX6_range_275 : decode cX6_range 275 = .ok (.goto 5, 3) := by decide +kernel
theorem dX6_range_278 : decode cX6_range 278 = .ok (.iload 7, 2) := by decide +kernel
theorem dX6_range_280 : decode cX6_range 280 = .ok (.istore 7, 2) := by decide +kernel
theorem dX6_range_282 : decode cX6_range 282 = .ok (.iinc 8 1, 3) := by decide +kernel
theorem dX6_range_285 : decode cX6_range 285 = .ok (.goto (-99), 3) := by decide +kernel
theorem dX6_range_288 : decode cX6_range 288 = .ok (.iload 5, 2) := by decide +kernel
theorem dX6_range_290 : decode cX6_range 290 = .ok (.iconst 1, 1) := by decide +kernel
theorem dX6_range_291 : decode cX6_range 291 = .ok (.if_icmp .ne 8, 3) := by decide +kernel
theorem dX6_range_294 : decode cX6_range 294 = .ok (.iload 6, 2) := by decide +kernel
theorem dX6_range_296 : decode cX6_range 296 = .ok (.goto 5, 3) := by decide +kernel
theorem dX6_range_299 : decode cX6_range 299 = .ok (.iload 7, 2) := by decide +kernel
theorem dX6_range_301 : decode cX6_range 301 = .ok (.ireturn, 1) := by decide +kernel
theorem dX6_far_0 : decode cX6_far 0 = .ok (.iload_n 0, 1) := by decide +kernel
theorem dX6_far_1 : decode cX6_far 1 = .ok (.iload_n 1, 1) := by decide +kernel
theorem dX6_far_2 : decode cX6_far 2 = .ok (.if_icmp .ge 9, 3) := by decide +kernel
theorem dX6_far_5 : decode cX6_far 5 = .ok (.iload_n 1, 1) := by decide +kernel
theorem dX6_far_6 : decode cX6_far 6 = .ok (.iload_n 0, 1) := by decide +kernel
theorem dX6_far_7 : decode cX6_far 7 = .ok (.isub, 1) := by decide +kernel
theorem dX6_far_8 : decode cX6_far 8 = .ok (.goto 6, 3) := by decide +kernel
theorem dX6_far_11 : decode cX6_far 11 = .ok (.iload_n 0, 1) := by decide +kernel
theorem dX6_far_12 : decode cX6_far 12 = .ok (.iload_n 1, 1) := by decide +kernel
theorem dX6_far_13 : decode cX6_far 13 = .ok (.isub, 1) := by decide +kernel
theorem dX6_far_14 : decode cX6_far 14 = .ok (.ireturn, 1) := by decide +kernel
theorem dX6_nearest_0 : decode cX6_nearest 0 = .ok (.iload_n 1, 1) := by decide +kernel
theorem dX6_nearest_1 : decode cX6_nearest 1 = .ok (.iload_n 2, 1) := by decide +kernel
theorem dX6_nearest_2 : decode cX6_nearest 2 = .ok (.invokestatic 85, 3) := by decide +kernel
theorem dX6_nearest_5 : decode cX6_nearest 5 = .ok (.ifCond .ne 5, 3) := by decide +kernel
theorem dX6_nearest_8 : decode cX6_nearest 8 = .ok (.iconst (-1), 1) := by decide +kernel
theorem dX6_nearest_9 : decode cX6_nearest 9 = .ok (.ireturn, 1) := by decide +kernel
theorem dX6_nearest_10 : decode cX6_nearest 10 = .ok (.bipush (-9), 2) := by decide +kernel
theorem dX6_nearest_12 : decode cX6_nearest 12 = .ok (.istore_n 3, 1) := by decide +kernel
theorem dX6_nearest_13 : decode cX6_nearest 13 = .ok (.iconst 0, 1) := by decide +kernel
theorem dX6_nearest_14 : decode cX6_nearest 14 = .ok (.istore 4, 2) := by decide +kernel
theorem dX6_nearest_16 : decode cX6_nearest 16 = .ok (.iconst 0, 1) := by decide +kernel
theorem dX6_nearest_17 : decode cX6_nearest 17 = .ok (.istore 5, 2) := by decide +kernel
theorem dX6_nearest_19 : decode cX6_nearest 19 = .ok (.iload 5, 2) := by decide +kernel
theorem dX6_nearest_21 : decode cX6_nearest 21 = .ok (.aload_n 0, 1) := by decide +kernel
theorem dX6_nearest_22 : decode cX6_nearest 22 = .ok (.getfield 7, 3) := by decide +kernel
theorem dX6_nearest_25 : decode cX6_nearest 25 = .ok (.iconst 2, 1) := by decide +kernel
theorem dX6_nearest_26 : decode cX6_nearest 26 = .ok (.iaload, 1) := by decide +kernel
theorem dX6_nearest_27 : decode cX6_nearest 27 = .ok (.if_icmp .ge 63, 3) := by decide +kernel
theorem dX6_nearest_30 : decode cX6_nearest 30 = .ok (.iload_n 1, 1) := by decide +kernel
theorem dX6_nearest_31 : decode cX6_nearest 31 = .ok (.aload_n 0, 1) := by decide +kernel
theorem dX6_nearest_32 : decode cX6_nearest 32 = .ok (.iload 5, 2) := by decide +kernel
theorem dX6_nearest_34 : decode cX6_nearest 34 = .ok (.iconst 0, 1) := by decide +kernel
theorem dX6_nearest_35 : decode cX6_nearest 35 = .ok (.invokevirtual 28, 3) := by decide +kernel
theorem dX6_nearest_38 : decode cX6_nearest 38 = .ok (.invokestatic 113, 3) := by decide +kernel
theorem dX6_nearest_41 : decode cX6_nearest 41 = .ok (.iload_n 2, 1) := by decide +kernel
theorem dX6_nearest_42 : decode cX6_nearest 42 = .ok (.aload_n 0, 1) := by decide +kernel
theorem dX6_nearest_43 : decode cX6_nearest 43 = .ok (.iload 5, 2) := by decide +kernel
theorem dX6_nearest_45 : decode cX6_nearest 45 = .ok (.iconst 1, 1) := by decide +kernel
theorem dX6_nearest_46 : decode cX6_nearest 46 = .ok (.invokevirtual 28, 3) := by decide +kernel
theorem dX6_nearest_49 : decode cX6_nearest 49 = .ok (.invokestatic 113, 3) := by decide +kernel
theorem dX6_nearest_52 : decode cX6_nearest 52 = .ok (.iadd, 1) := by decide +kernel
theorem dX6_nearest_53 : decode cX6_nearest 53 = .ok (.istore 6, 2) := by decide +kernel
theorem dX6_nearest_55 : decode cX6_nearest 55 = .ok (.aload_n 0, 1) := by decide +kernel
theorem dX6_nearest_56 : decode cX6_nearest 56 = .ok (.iload 5, 2) := by decide +kernel
theorem dX6_nearest_58 : decode cX6_nearest 58 = .ok (.invokevirtual 46, 3) := by decide +kernel
theorem dX6_nearest_61 : decode cX6_nearest 61 = .ok (.ifCond .eq 23, 3) := by decide +kernel
theorem dX6_nearest_64 : decode cX6_nearest 64 = .ok (.iload_n 3, 1) := by decide +kernel
theorem dX6_nearest_65 : decode cX6_nearest 65 = .ok (.bipush (-9), 2) := by decide +kernel
theorem dX6_nearest_67 : decode cX6_nearest 67 = .ok (.if_icmp .eq 10, 3) := by decide +kernel
theorem dX6_nearest_70 : decode cX6_nearest 70 = .ok (.iload 6, 2) := by decide +kernel
theorem dX6_nearest_72 : decode cX6_nearest 72 = .ok (.iload 4, 2) := by decide +kernel
theorem dX6_nearest_74 : decode cX6_nearest 74 = .ok (.if_icmp .ge 10, 3) := by decide +kernel
theorem dX6_nearest_77 : decode cX6_nearest 77 = .ok (.iload 5, 2) := by decide +kernel
theorem dX6_nearest_79 : decode cX6_nearest 79 = .ok (.istore_n 3, 1) := by decide +kernel
theorem dX6_nearest_80 : decode cX6_nearest 80 = .ok (.iload 6, 2) := by decide +kernel
theorem dX6_nearest_82 : decode cX6_nearest 82 = .ok (.istore 4, 2) := by decide +kernel
theorem dX6_nearest_84 : decode cX6_nearest 84 = .ok (.iinc 5 1, 3) := by decide +kernel
theorem dX6_nearest_87 : decode cX6_nearest 87 = .ok (.goto (-68), 3) := by decide +kernel
theorem dX6_nearest_90 : decode cX6_nearest 90 = .ok (.iload_n 3, 1) := by decide +kernel
theorem dX6_nearest_91 : decode cX6_nearest 91 = .ok (.ireturn, 1) := by decide +kernel
theorem dX6_inOrder_0 : decode cX6_inOrder 0 = .ok (.iload_n 1, 1) := by decide +kernel
theorem dX6_inOrder_1 : decode cX6_inOrder 1 = .ok (.ifCond .ge 5, 3) := by decide +kernel
theorem dX6_inOrder_4 : decode cX6_inOrder 4 = .ok (.iconst (-1), 1) := by decide +kernel
theorem dX6_inOrder_5 : decode cX6_inOrder 5 = .ok (.ireturn, 1) := by decide +kernel
theorem dX6_inOrder_6 : decode cX6_inOrder 6 = .ok (.iconst 0, 1) := by decide +kernel
theorem dX6_inOrder_7 : decode cX6_inOrder 7 = .ok (.istore_n 2, 1) := by decide +kernel
theorem dX6_inOrder_8 : decode cX6_inOrder 8 = .ok (.iconst 0, 1) := by decide +kernel
theorem dX6_inOrder_9 : decode cX6_inOrder 9 = .ok (.istore_n 3, 1) := by decide +kernel
theorem dX6_inOrder_10 : decode cX6_inOrder 10 = .ok (.iload_n 3, 1) := by decide +kernel
theorem dX6_inOrder_11 : decode cX6_inOrder 11 = .ok (.sipush 256, 3) := by decide +kernel
theorem dX6_inOrder_14 : decode cX6_inOrder 14 = .ok (.if_icmp .ge 113, 3) := by decide +kernel
theorem dX6_inOrder_17 : decode cX6_inOrder 17 = .ok (.iconst 0, 1) := by decide +kernel
theorem dX6_inOrder_18 : decode cX6_inOrder 18 = .ok (.istore 4, 2) := by decide +kernel
theorem dX6_inOrder_20 : decode cX6_inOrder 20 = .ok (.iconst 0, 1) := by decide +kernel
theorem dX6_inOrder_21 : decode cX6_inOrder 21 = .ok (.istore 5, 2) := by decide +kernel
theorem dX6_inOrder_23 : decode cX6_inOrder 23 = .ok (.iconst 0, 1) := by decide +kernel
theorem dX6_inOrder_24 : decode cX6_inOrder 24 = .ok (.istore 6, 2) := by decide +kernel
theorem dX6_inOrder_26 : decode cX6_inOrder 26 = .ok (.iload 6, 2) := by decide +kernel
theorem dX6_inOrder_28 : decode cX6_inOrder 28 = .ok (.iconst 4, 1) := by decide +kernel
theorem dX6_inOrder_29 : decode cX6_inOrder 29 = .ok (.if_icmp .ge 47, 3) := by decide +kernel
theorem dX6_inOrder_32 : decode cX6_inOrder 32 = .ok (.iload 4, 2) := by decide +kernel
theorem dX6_inOrder_34 : decode cX6_inOrder 34 = .ok (.iload_n 3, 1) := by decide +kernel
theorem dX6_inOrder_35 : decode cX6_inOrder 35 = .ok (.iconst 2, 1) := by decide +kernel
theorem dX6_inOrder_36 : decode cX6_inOrder 36 = .ok (.iload 6, 2) := by decide +kernel
theorem dX6_inOrder_38 : decode cX6_inOrder 38 = .ok (.imul, 1) := by decide +kernel
theorem dX6_inOrder_39 : decode cX6_inOrder 39 = .ok (.ishr, 1) := by decide +kernel
theorem dX6_inOrder_40 : decode cX6_inOrder 40 = .ok (.iconst 1, 1) := by decide +kernel
theorem dX6_inOrder_41 : decode cX6_inOrder 41 = .ok (.iand, 1) := by decide +kernel
theorem dX6_inOrder_42 : decode cX6_inOrder 42 = .ok (.iconst 4, 1) := by decide +kernel
theorem dX6_inOrder_43 : decode cX6_inOrder 43 = .ok (.iload 6, 2) := by decide +kernel
theorem dX6_inOrder_45 : decode cX6_inOrder 45 = .ok (.ishl, 1) := by decide +kernel
theorem dX6_inOrder_46 : decode cX6_inOrder 46 = .ok (.imul, 1) := by decide +kernel
theorem dX6_inOrder_47 : decode cX6_inOrder 47 = .ok (.iadd, 1) := by decide +kernel
theorem dX6_inOrder_48 : decode cX6_inOrder 48 = .ok (.istore 4, 2) := by decide +kernel
theorem dX6_inOrder_50 : decode cX6_inOrder 50 = .ok (.iload 5, 2) := by decide +kernel
theorem dX6_inOrder_52 : decode cX6_inOrder 52 = .ok (.iload_n 3, 1) := by decide +kernel
theorem dX6_inOrder_53 : decode cX6_inOrder 53 = .ok (.iconst 2, 1) := by decide +kernel
theorem dX6_inOrder_54 : decode cX6_inOrder 54 = .ok (.iload 6, 2) := by decide +kernel
theorem dX6_inOrder_56 : decode cX6_inOrder 56 = .ok (.imul, 1) := by decide +kernel
theorem dX6_inOrder_57 : decode cX6_inOrder 57 = .ok (.iconst 1, 1) := by decide +kernel
theorem dX6_inOrder_58 : decode cX6_inOrder 58 = .ok (.iadd, 1) := by decide +kernel
theorem dX6_inOrder_59 : decode cX6_inOrder 59 = .ok (.ishr, 1) := by decide +kernel
theorem dX6_inOrder_60 : decode cX6_inOrder 60 = .ok (.iconst 1, 1) := by decide +kernel
theorem dX6_inOrder_61 : decode cX6_inOrder 61 = .ok (.iand, 1) := by decide +kernel
theorem dX6_inOrder_62 : decode cX6_inOrder 62 = .ok (.iconst 4, 1) := by decide +kernel
theorem dX6_inOrder_63 : decode cX6_inOrder 63 = .ok (.iload 6, 2) := by decide +kernel
theorem dX6_inOrder_65 : decode cX6_inOrder 65 = .ok (.ishl, 1) := by decide +kernel
theorem dX6_inOrder_66 : decode cX6_inOrder 66 = .ok (.imul, 1) := by decide +kernel
theorem dX6_inOrder_67 : decode cX6_inOrder 67 = .ok (.iadd, 1) := by decide +kernel
theorem dX6_inOrder_68 : decode cX6_inOrder 68 = .ok (.istore 5, 2) := by decide +kernel
theorem dX6_inOrder_70 : decode cX6_inOrder 70 = .ok (.iinc 6 1, 3) := by decide +kernel
theorem dX6_inOrder_73 : decode cX6_inOrder 73 = .ok (.goto (-47), 3) := by decide +kernel
theorem dX6_inOrder_76 : decode cX6_inOrder 76 = .ok (.aload_n 0, 1) := by decide +kernel
theorem dX6_inOrder_77 : decode cX6_inOrder 77 = .ok (.iload 4, 2) := by decide +kernel
theorem dX6_inOrder_79 : decode cX6_inOrder 79 = .ok (.iload 5, 2) := by decide +kernel
theorem dX6_inOrder_81 : decode cX6_inOrder 81 = .ok (.invokevirtual 43, 3) := by decide +kernel
theorem dX6_inOrder_84 : decode cX6_inOrder 84 = .ok (.istore 6, 2) := by decide +kernel
theorem dX6_inOrder_86 : decode cX6_inOrder 86 = .ok (.aload_n 0, 1) := by decide +kernel
theorem dX6_inOrder_87 : decode cX6_inOrder 87 = .ok (.iload 6, 2) := by decide +kernel
theorem dX6_inOrder_89 : decode cX6_inOrder 89 = .ok (.iconst 1, 1) := by decide +kernel
theorem dX6_inOrder_90 : decode cX6_inOrder 90 = .ok (.invokevirtual 32, 3) := by decide +kernel
theorem dX6_inOrder_93 : decode cX6_inOrder 93 = .ok (.iload 4, 2) := by decide +kernel
theorem dX6_inOrder_95 : decode cX6_inOrder 95 = .ok (.if_icmp .ne 26, 3) := by decide +kernel
theorem dX6_inOrder_98 : decode cX6_inOrder 98 = .ok (.aload_n 0, 1) := by decide +kernel
theorem dX6_inOrder_99 : decode cX6_inOrder 99 = .ok (.iload 6, 2) := by decide +kernel
theorem dX6_inOrder_101 : decode cX6_inOrder 101 = .ok (.iconst 2, 1) := by decide +kernel
theorem dX6_inOrder_102 : decode cX6_inOrder 102 = .ok (.invokevirtual 32, 3) := by decide +kernel
theorem dX6_inOrder_105 : decode cX6_inOrder 105 = .ok (.iload 5, 2) := by decide +kernel
theorem dX6_inOrder_107 : decode cX6_inOrder 107 = .ok (.if_icmp .ne 14, 3) := by decide +kernel
theorem dX6_inOrder_110 : decode cX6_inOrder 110 = .ok (.iload_n 2, 1) := by decide +kernel
theorem dX6_inOrder_111 : decode cX6_inOrder 111 = .ok (.iload_n 1, 1) := by decide +kernel
theorem dX6_inOrder_112 : decode cX6_inOrder 112 = .ok (.if_icmp .ne 6, 3) := by decide +kernel
theorem dX6_inOrder_115 : decode cX6_inOrder 115 = .ok (.iload 6, 2) := by decide +kernel
theorem dX6_inOrder_117 : decode cX6_inOrder 117 = .ok (.ireturn, 1) := by decide +kernel
theorem dX6_inOrder_118 : decode cX6_inOrder 118 = .ok (.iinc 2 1, 3) := by decide +kernel
theorem dX6_inOrder_121 : decode cX6_inOrder 121 = .ok (.iinc 3 1, 3) := by decide +kernel
theorem dX6_inOrder_124 : decode cX6_inOrder 124 = .ok (.goto (-114), 3) := by decide +kernel
theorem dX6_inOrder_127 : decode cX6_inOrder 127 = .ok (.bipush (-9), 2) := by decide +kernel
theorem dX6_inOrder_129 : decode cX6_inOrder 129 = .ok (.ireturn, 1) := by decide +kernel
theorem dX6_payable_0 : decode cX6_payable 0 = .ok (.aload_n 0, 1) := by decide +kernel
theorem dX6_payable_1 : decode cX6_payable 1 = .ok (.iload_n 1, 1) := by decide +kernel
theorem dX6_payable_2 : decode cX6_payable 2 = .ok (.invokevirtual 35, 3) := by decide +kernel
theorem dX6_payable_5 : decode cX6_payable 5 = .ok (.ifCond .ne 5, 3) := by decide +kernel
theorem dX6_payable_8 : decode cX6_payable 8 = .ok (.iconst (-1), 1) := by decide +kernel
theorem dX6_payable_9 : decode cX6_payable 9 = .ok (.ireturn, 1) := by decide +kernel
theorem dX6_payable_10 : decode cX6_payable 10 = .ok (.iconst 0, 1) := by decide +kernel
theorem dX6_payable_11 : decode cX6_payable 11 = .ok (.istore_n 2, 1) := by decide +kernel
theorem dX6_payable_12 : decode cX6_payable 12 = .ok (.iconst 0, 1) := by decide +kernel
theorem dX6_payable_13 : decode cX6_payable 13 = .ok (.istore_n 3, 1) := by decide +kernel
theorem dX6_payable_14 : decode cX6_payable 14 = .ok (.iload_n 3, 1) := by decide +kernel
theorem dX6_payable_15 : decode cX6_payable 15 = .ok (.aload_n 0, 1) := by decide +kernel
theorem dX6_payable_16 : decode cX6_payable 16 = .ok (.getfield 7, 3) := by decide +kernel
theorem dX6_payable_19 : decode cX6_payable 19 = .ok (.iconst 2, 1) := by decide +kernel
theorem dX6_payable_20 : decode cX6_payable 20 = .ok (.iaload, 1) := by decide +kernel
theorem dX6_payable_21 : decode cX6_payable 21 = .ok (.if_icmp .ge 44, 3) := by decide +kernel
theorem dX6_payable_24 : decode cX6_payable 24 = .ok (.iload_n 2, 1) := by decide +kernel
theorem dX6_payable_25 : decode cX6_payable 25 = .ok (.aload_n 0, 1) := by decide +kernel
theorem dX6_payable_26 : decode cX6_payable 26 = .ok (.iload_n 3, 1) := by decide +kernel
theorem dX6_payable_27 : decode cX6_payable 27 = .ok (.invokevirtual 46, 3) := by decide +kernel
theorem dX6_payable_30 : decode cX6_payable 30 = .ok (.ifCond .eq 26, 3) := by decide +kernel
theorem dX6_payable_33 : decode cX6_payable 33 = .ok (.aload_n 0, 1) := by decide +kernel
theorem dX6_payable_34 : decode cX6_payable 34 = .ok (.iload_n 3, 1) := by decide +kernel
theorem dX6_payable_35 : decode cX6_payable 35 = .ok (.iconst 4, 1) := by decide +kernel
theorem dX6_payable_36 : decode cX6_payable 36 = .ok (.invokevirtual 28, 3) := by decide +kernel
theorem dX6_payable_39 : decode cX6_payable 39 = .ok (.iload_n 1, 1) := by decide +kernel
theorem dX6_payable_40 : decode cX6_payable 40 = .ok (.if_icmp .ne 16, 3) := by decide +kernel
theorem dX6_payable_43 : decode cX6_payable 43 = .ok (.aload_n 0, 1) := by decide +kernel
theorem dX6_payable_44 : decode cX6_payable 44 = .ok (.iload_n 3, 1) := by decide +kernel
theorem dX6_payable_45 : decode cX6_payable 45 = .ok (.invokevirtual 98, 3) := by decide +kernel
theorem dX6_payable_48 : decode cX6_payable 48 = .ok (.iload_n 1, 1) := by decide +kernel
theorem dX6_payable_49 : decode cX6_payable 49 = .ok (.if_icmp .ne 7, 3) := by decide +kernel
theorem dX6_payable_52 : decode cX6_payable 52 = .ok (.iconst 1, 1) := by decide +kernel
theorem dX6_payable_53 : decode cX6_payable 53 = .ok (.goto 4, 3) := by decide +kernel
theorem dX6_payable_56 : decode cX6_payable 56 = .ok (.iconst 0, 1) := by decide +kernel
theorem dX6_payable_57 : decode cX6_payable 57 = .ok (.iadd, 1) := by decide +kernel
theorem dX6_payable_58 : decode cX6_payable 58 = .ok (.istore_n 2, 1) := by decide +kernel
theorem dX6_payable_59 : decode cX6_payable 59 = .ok (.iinc 3 1, 3) := by decide +kernel
theorem dX6_payable_62 : decode cX6_payable 62 = .ok (.goto (-48), 3) := by decide +kernel
theorem dX6_payable_65 : decode cX6_payable 65 = .ok (.aload_n 0, 1) := by decide +kernel
theorem dX6_payable_66 : decode cX6_payable 66 = .ok (.iload_n 1, 1) := by decide +kernel
theorem dX6_payable_67 : decode cX6_payable 67 = .ok (.invokevirtual 110, 3) := by decide +kernel
theorem dX6_payable_70 : decode cX6_payable 70 = .ok (.istore_n 3, 1) := by decide +kernel
theorem dX6_payable_71 : decode cX6_payable 71 = .ok (.iload_n 2, 1) := by decide +kernel
theorem dX6_payable_72 : decode cX6_payable 72 = .ok (.iload_n 3, 1) := by decide +kernel
theorem dX6_payable_73 : decode cX6_payable 73 = .ok (.if_icmp .ge 7, 3) := by decide +kernel
theorem dX6_payable_76 : decode cX6_payable 76 = .ok (.iload_n 2, 1) := by decide +kernel
theorem dX6_payable_77 : decode cX6_payable 77 = .ok (.goto 4, 3) := by decide +kernel
theorem dX6_payable_80 : decode cX6_payable 80 = .ok (.iload_n 3, 1) := by decide +kernel
theorem dX6_payable_81 : decode cX6_payable 81 = .ok (.ireturn, 1) := by decide +kernel
theorem dX6_cellsWith_0 : decode cX6_cellsWith 0 = .ok (.iload_n 1, 1) := by decide +kernel
theorem dX6_cellsWith_1 : decode cX6_cellsWith 1 = .ok (.iconst 2, 1) := by decide +kernel
theorem dX6_cellsWith_2 : decode cX6_cellsWith 2 = .ok (.bipush 9, 2) := by decide +kernel
theorem dX6_cellsWith_4 : decode cX6_cellsWith 4 = .ok (.invokestatic 24, 3) := by decide +kernel
theorem dX6_cellsWith_7 : decode cX6_cellsWith 7 = .ok (.ifCond .ne 5, 3) := by decide +kernel
theorem dX6_cellsWith_10 : decode cX6_cellsWith 10 = .ok (.iconst (-1), 1) := by decide +kernel
theorem dX6_cellsWith_11 : decode cX6_cellsWith 11 = .ok (.ireturn, 1) := by decide +kernel
theorem dX6_cellsWith_12 : decode cX6_cellsWith 12 = .ok (.iconst 1, 1) := by decide +kernel
theorem dX6_cellsWith_13 : decode cX6_cellsWith 13 = .ok (.istore_n 2, 1) := by decide +kernel
theorem dX6_cellsWith_14 : decode cX6_cellsWith 14 = .ok (.iconst 0, 1) := by decide +kernel
theorem dX6_cellsWith_15 : decode cX6_cellsWith 15 = .ok (.istore_n 3, 1) := by decide +kernel
theorem dX6_cellsWith_16 : decode cX6_cellsWith 16 = .ok (.iload_n 3, 1) := by decide +kernel
theorem dX6_cellsWith_17 : decode cX6_cellsWith 17 = .ok (.iconst 4, 1) := by decide +kernel
theorem dX6_cellsWith_18 : decode cX6_cellsWith 18 = .ok (.if_icmp .ge 77, 3) := by decide +kernel
theorem dX6_cellsWith_21 : decode cX6_cellsWith 21 = .ok (.bipush 64, 2) := by decide +kernel
theorem dX6_cellsWith_23 : decode cX6_cellsWith 23 = .ok (.iload_n 3, 1) := by decide +kernel
theorem dX6_cellsWith_24 : decode cX6_cellsWith 24 = .ok (.ishr, 1) := by decide +kernel
theorem dX6_cellsWith_25 : decode cX6_cellsWith 25 = .ok (.istore 4, 2) := by decide +kernel
theorem dX6_cellsWith_27 : decode cX6_cellsWith 27 = .ok (.iconst 0, 1) := by decide +kernel
theorem dX6_cellsWith_28 : decode cX6_cellsWith 28 = .ok (.istore 5, 2) := by decide +kernel
theorem dX6_cellsWith_30 : decode cX6_cellsWith 30 = .ok (.iload 5, 2) := by decide +kernel
theorem dX6_cellsWith_32 : decode cX6_cellsWith 32 = .ok (.bipush 64, 2) := by decide +kernel
theorem dX6_cellsWith_34 : decode cX6_cellsWith 34 = .ok (.if_icmp .ge 55, 3) := by decide +kernel
theorem dX6_cellsWith_37 : decode cX6_cellsWith 37 = .ok (.iconst 0, 1) := by decide +kernel
theorem dX6_cellsWith_38 : decode cX6_cellsWith 38 = .ok (.istore 6, 2) := by decide +kernel
theorem dX6_cellsWith_40 : decode cX6_cellsWith 40 = .ok (.iload 6, 2) := by decide +kernel
theorem dX6_cellsWith_42 : decode cX6_cellsWith 42 = .ok (.bipush 64, 2) := by decide +kernel
theorem dX6_cellsWith_44 : decode cX6_cellsWith 44 = .ok (.if_icmp .ge 35, 3) := by decide +kernel
theorem dX6_cellsWith_47 : decode cX6_cellsWith 47 = .ok (.iload_n 2, 1) := by decide +kernel
theorem dX6_cellsWith_48 : decode cX6_cellsWith 48 = .ok (.aload_n 0, 1) := by decide +kernel
theorem dX6_cellsWith_49 : decode cX6_cellsWith 49 = .ok (.iload 5, 2) := by decide +kernel
theorem dX6_cellsWith_51 : decode cX6_cellsWith 51 = .ok (.iload 6, 2) := by decide +kernel
theorem dX6_cellsWith_53 : decode cX6_cellsWith 53 = .ok (.iload 4, 2) := by decide +kernel
theorem dX6_cellsWith_55 : decode cX6_cellsWith 55 = .ok (.invokevirtual 56, 3) := by decide +kernel
theorem dX6_cellsWith_58 : decode cX6_cellsWith 58 = .ok (.iload_n 1, 1) := by decide +kernel
theorem dX6_cellsWith_59 : decode cX6_cellsWith 59 = .ok (.if_icmp .le 7, 3) := by decide +kernel
theorem dX6_cellsWith_62 : decode cX6_cellsWith 62 = .ok (.iconst 3, 1) := by decide +kernel
theorem dX6_cellsWith_63 : decode cX6_cellsWith 63 = .ok (.goto 4, 3) := by decide +kernel
theorem dX6_cellsWith_66 : decode cX6_cellsWith 66 = .ok (.iconst 0, 1) := by decide +kernel
theorem dX6_cellsWith_67 : decode cX6_cellsWith 67 = .ok (.iadd, 1) := by decide +kernel
theorem dX6_cellsWith_68 : decode cX6_cellsWith 68 = .ok (.istore_n 2, 1) := by decide +kernel
theorem dX6_cellsWith_69 : decode cX6_cellsWith 69 = .ok (.iload 6, 2) := by decide +kernel
theorem dX6_cellsWith_71 : decode cX6_cellsWith 71 = .ok (.iload 4, 2) := by decide +kernel
theorem dX6_cellsWith_73 : decode cX6_cellsWith 73 = .ok (.iadd, 1) := by decide +kernel
theorem dX6_cellsWith_74 : decode cX6_cellsWith 74 = .ok (.istore 6, 2) := by decide +kernel
theorem dX6_cellsWith_76 : decode cX6_cellsWith 76 = .ok (.goto (-36), 3) := by decide +kernel
theorem dX6_cellsWith_79 : decode cX6_cellsWith 79 = .ok (.iload 5, 2) := by decide +kernel
theorem dX6_cellsWith_81 : decode cX6_cellsWith 81 = .ok (.iload 4, 2) := by decide +kernel
theorem dX6_cellsWith_83 : decode cX6_cellsWith 83 = .ok (.iadd, 1) := by decide +kernel
theorem dX6_cellsWith_84 : decode cX6_cellsWith 84 = .ok (.istore 5, 2) := by decide +kernel
theorem dX6_cellsWith_86 : decode cX6_cellsWith 86 = .ok (.goto (-56), 3) := by decide +kernel
theorem dX6_cellsWith_89 : decode cX6_cellsWith 89 = .ok (.iinc 3 1, 3) := by decide +kernel
theorem dX6_cellsWith_92 : decode cX6_cellsWith 92 = .ok (.goto (-76), 3) := by decide +kernel
theorem dX6_cellsWith_95 : decode cX6_cellsWith 95 = .ok (.iload_n 2, 1) := by decide +kernel
theorem dX6_cellsWith_96 : decode cX6_cellsWith 96 = .ok (.ireturn, 1) := by decide +kernel
theorem dX6_joinable_0 : decode cX6_joinable 0 = .ok (.iconst 0, 1) := by decide +kernel
theorem dX6_joinable_1 : decode cX6_joinable 1 = .ok (.istore_n 1, 1) := by decide +kernel
theorem dX6_joinable_2 : decode cX6_joinable 2 = .ok (.iload_n 1, 1) := by decide +kernel
theorem dX6_joinable_3 : decode cX6_joinable 3 = .ok (.aload_n 0, 1) := by decide +kernel
theorem dX6_joinable_4 : decode cX6_joinable 4 = .ok (.getfield 7, 3) := by decide +kernel
theorem dX6_joinable_7 : decode cX6_joinable 7 = .ok (.iconst 3, 1) := by decide +kernel
theorem dX6_joinable_8 : decode cX6_joinable 8 = .ok (.iaload, 1) := by decide +kernel
theorem dX6_joinable_9 : decode cX6_joinable 9 = .ok (.if_icmp .ge 27, 3) := by decide +kernel
theorem dX6_joinable_12 : decode cX6_joinable 12 = .ok (.aload_n 0, 1) := by decide +kernel
theorem dX6_joinable_13 : decode cX6_joinable 13 = .ok (.iload_n 1, 1) := by decide +kernel
theorem dX6_joinable_14 : decode cX6_joinable 14 = .ok (.invokevirtual 35, 3) := by decide +kernel
theorem dX6_joinable_17 : decode cX6_joinable 17 = .ok (.ifCond .eq 13, 3) := by decide +kernel
theorem dX6_joinable_20 : decode cX6_joinable 20 = .ok (.aload_n 0, 1) := by decide +kernel
theorem dX6_joinable_21 : decode cX6_joinable 21 = .ok (.iload_n 1, 1) := by decide +kernel
theorem dX6_joinable_22 : decode cX6_joinable 22 = .ok (.invokevirtual 104, 3) := by decide +kernel
theorem dX6_joinable_25 : decode cX6_joinable 25 = .ok (.ifCond .eq 5, 3) := by decide +kernel
theorem dX6_joinable_28 : decode cX6_joinable 28 = .ok (.iload_n 1, 1) := by decide +kernel
theorem dX6_joinable_29 : decode cX6_joinable 29 = .ok (.ireturn, 1) := by decide +kernel
theorem dX6_joinable_30 : decode cX6_joinable 30 = .ok (.iinc 1 1, 3) := by decide +kernel
theorem dX6_joinable_33 : decode cX6_joinable 33 = .ok (.goto (-31), 3) := by decide +kernel
theorem dX6_joinable_36 : decode cX6_joinable 36 = .ok (.bipush (-9), 2) := by decide +kernel
theorem dX6_joinable_38 : decode cX6_joinable 38 = .ok (.ireturn, 1) := by decide +kernel
theorem dL_law_0 : decode cL_law 0 = .ok (.new 7, 3) := by decide +kernel
theorem dL_law_3 : decode cL_law 3 = .ok (.dup, 1) := by decide +kernel
theorem dL_law_4 : decode cL_law 4 = .ok (.invokespecial 9, 3) := by decide +kernel
theorem dL_law_7 : decode cL_law 7 = .ok (.astore_n 1, 1) := by decide +kernel
theorem dL_law_8 : decode cL_law 8 = .ok (.new 10, 3) := by decide +kernel
theorem dL_law_11 : decode cL_law 11 = .ok (.dup, 1) := by decide +kernel
theorem dL_law_12 : decode cL_law 12 = .ok (.invokespecial 12, 3) := by decide +kernel
theorem dL_law_15 : decode cL_law 15 = .ok (.astore_n 2, 1) := by decide +kernel
theorem dL_law_16 : decode cL_law 16 = .ok (.iconst 0, 1) := by decide +kernel
theorem dL_law_17 : decode cL_law 17 = .ok (.istore_n 3, 1) := by decide +kernel
theorem dL_law_18 : decode cL_law 18 = .ok (.iload_n 3, 1) := by decide +kernel
theorem dL_law_19 : decode cL_law 19 = .ok (.aload_n 0, 1) := by decide +kernel
theorem dL_law_20 : decode cL_law 20 = .ok (.arraylength, 1) := by decide +kernel
theorem dL_law_21 : decode cL_law 21 = .ok (.bipush 6, 2) := by decide +kernel
theorem dL_law_23 : decode cL_law 23 = .ok (.isub, 1) := by decide +kernel
theorem dL_law_24 : decode cL_law 24 = .ok (.if_icmp .gt 653, 3) := by decide +kernel
theorem dL_law_27 : decode cL_law 27 = .ok (.aload_n 0, 1) := by decide +kernel
theorem dL_law_28 : decode cL_law 28 = .ok (.iload_n 3, 1) := by decide +kernel
theorem dL_law_29 : decode cL_law 29 = .ok (.iaload, 1) := by decide +kernel
theorem dL_law_30 : decode cL_law 30 = .ok (.bipush 31, 2) := by decide +kernel
theorem dL_law_32 : decode cL_law 32 = .ok (.iand, 1) := by decide +kernel
theorem dL_law_33 : decode cL_law 33 = .ok (.tableswitch 638 0 18 #[91, 134, 157, 200, 223, 246, 269, 292, 305, 328, 361, 394, 427, 460, 523, 556, 579, 602, 625], 91) := by decide +kernel
theorem dL_law_124 : decode cL_law 124 = .ok (.aload_n 1, 1) := by decide +kernel
theorem dL_law_125 : decode cL_law 125 = .ok (.aload_n 0, 1) := by decide +kernel
theorem dL_law_126 : decode cL_law 126 = .ok (.iload_n 3, 1) := by decide +kernel
theorem dL_law_127 : decode cL_law 127 = .ok (.iconst 1, 1) := by decide +kernel
theorem dL_law_128 : decode cL_law 128 = .ok (.iadd, 1) := by decide +kernel
theorem dL_law_129 : decode cL_law 129 = .ok (.iaload, 1) := by decide +kernel
theorem dL_law_130 : decode cL_law 130 = .ok (.aload_n 0, 1) := by decide +kernel
theorem dL_law_131 : decode cL_law 131 = .ok (.iload_n 3, 1) := by decide +kernel
theorem dL_law_132 : decode cL_law 132 = .ok (.iconst 2, 1) := by decide +kernel
theorem dL_law_133 : decode cL_law 133 = .ok (.iadd, 1) := by decide +kernel
theorem dL_law_134 : decode cL_law 134 = .ok (.iaload, 1) := by decide +kernel
theorem dL_law_135 : decode cL_law 135 = .ok (.aload_n 0, 1) := by decide +kernel
theorem dL_law_136 : decode cL_law 136 = .ok (.iload_n 3, 1) := by decide +kernel
theorem dL_law_137 : decode cL_law 137 = .ok (.iconst 3, 1) := by decide +kernel
theorem dL_law_138 : decode cL_law 138 = .ok (.iadd, 1) := by decide +kernel
theorem dL_law_139 : decode cL_law 139 = .ok (.iaload, 1) := by decide +kernel
theorem dL_law_140 : decode cL_law 140 = .ok (.invokevirtual 13, 3) := by decide +kernel
theorem dL_law_143 : decode cL_law 143 = .ok (.aload_n 2, 1) := by decide +kernel
theorem dL_law_144 : decode cL_law 144 = .ok (.aload_n 0, 1) := by decide +kernel
theorem dL_law_145 : decode cL_law 145 = .ok (.iload_n 3, 1) := by decide +kernel
theorem dL_law_146 : decode cL_law 146 = .ok (.iconst 1, 1) := by decide +kernel
theorem dL_law_147 : decode cL_law 147 = .ok (.iadd, 1) := by decide +kernel
theorem dL_law_148 : decode cL_law 148 = .ok (.iaload, 1) := by decide +kernel
theorem dL_law_149 : decode cL_law 149 = .ok (.aload_n 0, 1) := by decide +kernel
theorem dL_law_150 : decode cL_law 150 = .ok (.iload_n 3, 1) := by decide +kernel
theorem dL_law_151 : decode cL_law 151 = .ok (.iconst 2, 1) := by decide +kernel
theorem dL_law_152 : decode cL_law 152 = .ok (.iadd, 1) := by decide +kernel
theorem dL_law_153 : decode cL_law 153 = .ok (.iaload, 1) := by decide +kernel
theorem dL_law_154 : decode cL_law 154 = .ok (.aload_n 0, 1) := by decide +kernel
theorem dL_law_155 : decode cL_law 155 = .ok (.iload_n 3, 1) := by decide +kernel
theorem dL_law_156 : decode cL_law 156 = .ok (.iconst 3, 1) := by decide +kernel
theorem dL_law_157 : decode cL_law 157 = .ok (.iadd, 1) := by decide +kernel
theorem dL_law_158 : decode cL_law 158 = .ok (.iaload, 1) := by decide +kernel
theorem dL_law_159 : decode cL_law 159 = .ok (.invokevirtual 17, 3) := by decide +kernel
theorem dL_law_162 : decode cL_law 162 = .ok (.if_icmp .eq 509, 3) := by decide +kernel
theorem dL_law_165 : decode cL_law 165 = .ok (.iconst 0, 1) := by decide +kernel
theorem dL_law_166 : decode cL_law 166 = .ok (.ireturn, 1) := by decide +kernel
theorem dL_law_167 : decode cL_law 167 = .ok (.aload_n 1, 1) := by decide +kernel
theorem dL_law_168 : decode cL_law 168 = .ok (.aload_n 0, 1) := by decide +kernel
theorem dL_law_169 : decode cL_law 169 = .ok (.iload_n 3, 1) := by decide +kernel
theorem dL_law_170 : decode cL_law 170 = .ok (.iconst 1, 1) := by decide +kernel
theorem dL_law_171 : decode cL_law 171 = .ok (.iadd, 1) := by decide +kernel
theorem dL_law_172 : decode cL_law 172 = .ok (.iaload, 1) := by decide +kernel
theorem dL_law_173 : decode cL_law 173 = .ok (.invokevirtual 18, 3) := by decide +kernel
theorem dL_law_176 : decode cL_law 176 = .ok (.aload_n 2, 1) := by decide +kernel
theorem dL_law_177 : decode cL_law 177 = .ok (.aload_n 0, 1) := by decide +kernel
theorem dL_law_178 : decode cL_law 178 = .ok (.iload_n 3, 1) := by decide +kernel
theorem dL_law_179 : decode cL_law 179 = .ok (.iconst 1, 1) := by decide +kernel
theorem dL_law_180 : decode cL_law 180 = .ok (.iadd, 1) := by decide +kernel
theorem dL_law_181 : decode cL_law 181 = .ok (.iaload, 1) := by decide +kernel
theorem dL_law_182 : decode cL_law 182 = .ok (.invokevirtual 22, 3) := by decide +kernel
theorem dL_law_185 : decode cL_law 185 = .ok (.if_icmp .eq 486, 3) := by decide +kernel
theorem dL_law_188 : decode cL_law 188 = .ok (.iconst 0, 1) := by decide +kernel
theorem dL_law_189 : decode cL_law 189 = .ok (.ireturn, 1) := by decide +kernel
theorem dL_law_190 : decode cL_law 190 = .ok (.aload_n 1, 1) := by decide +kernel
theorem dL_law_191 : decode cL_law 191 = .ok (.aload_n 0, 1) := by decide +kernel
theorem dL_law_192 : decode cL_law 192 = .ok (.iload_n 3, 1) := by decide +kernel
theorem dL_law_193 : decode cL_law 193 = .ok (.iconst 1, 1) := by decide +kernel
theorem dL_law_194 : decode cL_law 194 = .ok (.iadd, 1) := by decide +kernel
theorem dL_law_195 : decode cL_law 195 = .ok (.iaload, 1) := by decide +kernel
theorem dL_law_196 : decode cL_law 196 = .ok (.aload_n 0, 1) := by decide +kernel
theorem dL_law_197 : decode cL_law 197 = .ok (.iload_n 3, 1) := by decide +kernel
theorem dL_law_198 : decode cL_law 198 = .ok (.iconst 2, 1) := by decide +kernel
theorem dL_law_199 : decode cL_law 199 = .ok (.iadd, 1) := by decide +kernel
theorem dL_law_200 : decode cL_law 200 = .ok (.iaload, 1) := by decide +kernel
theorem dL_law_201 : decode cL_law 201 = .ok (.aload_n 0, 1) := by decide +kernel
theorem dL_law_202 : decode cL_law 202 = .ok (.iload_n 3, 1) := by decide +kernel
theorem dL_law_203 : decode cL_law 203 = .ok (.iconst 3, 1) := by decide +kernel
theorem dL_law_204 : decode cL_law 204 = .ok (.iadd, 1) := by decide +kernel
theorem dL_law_205 : decode cL_law 205 = .ok (.iaload, 1) := by decide +kernel
theorem dL_law_206 : decode cL_law 206 = .ok (.invokevirtual 23, 3) := by decide +kernel
theorem dL_law_209 : decode cL_law 209 = .ok (.aload_n 2, 1) := by decide +kernel
theorem dL_law_210 : decode cL_law 210 = .ok (.aload_n 0, 1) := by decide +kernel
theorem dL_law_211 : decode cL_law 211 = .ok (.iload_n 3, 1) := by decide +kernel
theorem dL_law_212 : decode cL_law 212 = .ok (.iconst 1, 1) := by decide +kernel
theorem dL_law_213 : decode cL_law 213 = .ok (.iadd, 1) := by decide +kernel
theorem dL_law_214 : decode cL_law 214 = .ok (.iaload, 1) := by decide +kernel
theorem dL_law_215 : decode cL_law 215 = .ok (.aload_n 0, 1) := by decide +kernel
theorem dL_law_216 : decode cL_law 216 = .ok (.iload_n 3, 1) := by decide +kernel
theorem dL_law_217 : decode cL_law 217 = .ok (.iconst 2, 1) := by decide +kernel
theorem dL_law_218 : decode cL_law 218 = .ok (.iadd, 1) := by decide +kernel
theorem dL_law_219 : decode cL_law 219 = .ok (.iaload, 1) := by decide +kernel
theorem dL_law_220 : decode cL_law 220 = .ok (.aload_n 0, 1) := by decide +kernel
theorem dL_law_221 : decode cL_law 221 = .ok (.iload_n 3, 1) := by decide +kernel
theorem dL_law_222 : decode cL_law 222 = .ok (.iconst 3, 1) := by decide +kernel
theorem dL_law_223 : decode cL_law 223 = .ok (.iadd, 1) := by decide +kernel
theorem dL_law_224 : decode cL_law 224 = .ok (.iaload, 1) := by decide +kernel
theorem dL_law_225 : decode cL_law 225 = .ok (.invokevirtual 26, 3) := by decide +kernel
theorem dL_law_228 : decode cL_law 228 = .ok (.if_icmp .eq 443, 3) := by decide +kernel
theorem dL_law_231 : decode cL_law 231 = .ok (.iconst 0, 1) := by decide +kernel
theorem dL_law_232 : decode cL_law 232 = .ok (.ireturn, 1) := by decide +kernel
theorem dL_law_233 : decode cL_law 233 = .ok (.aload_n 1, 1) := by decide +kernel
theorem dL_law_234 : decode cL_law 234 = .ok (.aload_n 0, 1) := by decide +kernel
theorem dL_law_235 : decode cL_law 235 = .ok (.iload_n 3, 1) := by decide +kernel
theorem dL_law_236 : decode cL_law 236 = .ok (.iconst 1, 1) := by decide +kernel
theorem dL_law_237 : decode cL_law 237 = .ok (.iadd, 1) := by decide +kernel
theorem dL_law_238 : decode cL_law 238 = .ok (.iaload, 1) := by decide +kernel
theorem dL_law_239 : decode cL_law 239 = .ok (.invokevirtual 27, 3) := by decide +kernel
theorem dL_law_242 : decode cL_law 242 = .ok (.aload_n 2, 1) := by decide +kernel
theorem dL_law_243 : decode cL_law 243 = .ok (.aload_n 0, 1) := by decide +kernel
theorem dL_law_244 : decode cL_law 244 = .ok (.iload_n 3, 1) := by decide +kernel
theorem dL_law_245 : decode cL_law 245 = .ok (.iconst 1, 1) := by decide +kernel
theorem dL_law_246 : decode cL_law 246 = .ok (.iadd, 1) := by decide +kernel
theorem dL_law_247 : decode cL_law 247 = .ok (.iaload, 1) := by decide +kernel
theorem dL_law_248 : decode cL_law 248 = .ok (.invokevirtual 30, 3) := by decide +kernel
theorem dL_law_251 : decode cL_law 251 = .ok (.if_icmp .eq 420, 3) := by decide +kernel
theorem dL_law_254 : decode cL_law 254 = .ok (.iconst 0, 1) := by decide +kernel
theorem dL_law_255 : decode cL_law 255 = .ok (.ireturn, 1) := by decide +kernel
theorem dL_law_256 : decode cL_law 256 = .ok (.aload_n 1, 1) := by decide +kernel
theorem dL_law_257 : decode cL_law 257 = .ok (.aload_n 0, 1) := by decide +kernel
theorem dL_law_258 : decode cL_law 258 = .ok (.iload_n 3, 1) := by decide +kernel
theorem dL_law_259 : decode cL_law 259 = .ok (.iconst 1, 1) := by decide +kernel
theorem dL_law_260 : decode cL_law 260 = .ok (.iadd, 1) := by decide +kernel
theorem dL_law_261 : decode cL_law 261 = .ok (.iaload, 1) := by decide +kernel
theorem dL_law_262 : decode cL_law 262 = .ok (.invokevirtual 31, 3) := by decide +kernel
theorem dL_law_265 : decode cL_law 265 = .ok (.aload_n 2, 1) := by decide +kernel
theorem dL_law_266 : decode cL_law 266 = .ok (.aload_n 0, 1) := by decide +kernel
theorem dL_law_267 : decode cL_law 267 = .ok (.iload_n 3, 1) := by decide +kernel
theorem dL_law_268 : decode cL_law 268 = .ok (.iconst 1, 1) := by decide +kernel
theorem dL_law_269 : decode cL_law 269 = .ok (.iadd, 1) := by decide +kernel
theorem dL_law_270 : decode cL_law 270 = .ok (.iaload, 1) := by decide +kernel
theorem dL_law_271 : decode cL_law 271 = .ok (.invokevirtual 34, 3) := by decide +kernel
theorem dL_law_274 : decode cL_law 274 = .ok (.if_icmp .eq 397, 3) := by decide +kernel
theorem dL_law_277 : decode cL_law 277 = .ok (.iconst 0, 1) := by decide +kernel
theorem dL_law_278 : decode cL_law 278 = .ok (.ireturn, 1) := by decide +kernel
theorem dL_law_279 : decode cL_law 279 = .ok (.aload_n 1, 1) := by decide +kernel
theorem dL_law_280 : decode cL_law 280 = .ok (.aload_n 0, 1) := by decide +kernel
theorem dL_law_281 : decode cL_law 281 = .ok (.iload_n 3, 1) := by decide +kernel
theorem dL_law_282 : decode cL_law 282 = .ok (.iconst 1, 1) := by decide +kernel
theorem dL_law_283 : decode cL_law 283 = .ok (.iadd, 1) := by decide +kernel
theorem dL_law_284 : decode cL_law 284 = .ok (.iaload, 1) := by decide +kernel
theorem dL_law_285 : decode cL_law 285 = .ok (.invokevirtual 35, 3) := by decide +kernel
theorem dL_law_288 : decode cL_law 288 = .ok (.aload_n 2, 1) := by decide +kernel
theorem dL_law_289 : decode cL_law 289 = .ok (.aload_n 0, 1) := by decide +kernel
theorem dL_law_290 : decode cL_law 290 = .ok (.iload_n 3, 1) := by decide +kernel
theorem dL_law_291 : decode cL_law 291 = .ok (.iconst 1, 1) := by decide +kernel
theorem dL_law_292 : decode cL_law 292 = .ok (.iadd, 1) := by decide +kernel
theorem dL_law_293 : decode cL_law 293 = .ok (.iaload, 1) := by decide +kernel
theorem dL_law_294 : decode cL_law 294 = .ok (.invokevirtual 38, 3) := by decide +kernel
theorem dL_law_297 : decode cL_law 297 = .ok (.if_icmp .eq 374, 3) := by decide +kernel
theorem dL_law_300 : decode cL_law 300 = .ok (.iconst 0, 1) := by decide +kernel
theorem dL_law_301 : decode cL_law 301 = .ok (.ireturn, 1) := by decide +kernel
theorem dL_law_302 : decode cL_law 302 = .ok (.aload_n 1, 1) := by decide +kernel
theorem dL_law_303 : decode cL_law 303 = .ok (.aload_n 0, 1) := by decide +kernel
theorem dL_law_304 : decode cL_law 304 = .ok (.iload_n 3, 1) := by decide +kernel
theorem dL_law_305 : decode cL_law 305 = .ok (.iconst 1, 1) := by decide +kernel
theorem dL_law_306 : decode cL_law 306 = .ok (.iadd, 1) := by decide +kernel
theorem dL_law_307 : decode cL_law 307 = .ok (.iaload, 1) := by decide +kernel
theorem dL_law_308 : decode cL_law 308 = .ok (.invokevirtual 39, 3) := by decide +kernel
theorem dL_law_311 : decode cL_law 311 = .ok (.aload_n 2, 1) := by decide +kernel
theorem dL_law_312 : decode cL_law 312 = .ok (.aload_n 0, 1) := by decide +kernel
theorem dL_law_313 : decode cL_law 313 = .ok (.iload_n 3, 1) := by decide +kernel
theorem dL_law_314 : decode cL_law 314 = .ok (.iconst 1, 1) := by decide +kernel
theorem dL_law_315 : decode cL_law 315 = .ok (.iadd, 1) := by decide +kernel
theorem dL_law_316 : decode cL_law 316 = .ok (.iaload, 1) := by decide +kernel
theorem dL_law_317 : decode cL_law 317 = .ok (.invokevirtual 42, 3) := by decide +kernel
theorem dL_law_320 : decode cL_law 320 = .ok (.if_icmp .eq 351, 3) := by decide +kernel
theorem dL_law_323 : decode cL_law 323 = .ok (.iconst 0, 1) := by decide +kernel
theorem dL_law_324 : decode cL_law 324 = .ok (.ireturn, 1) := by decide +kernel
theorem dL_law_325 : decode cL_law 325 = .ok (.aload_n 1, 1) := by decide +kernel
theorem dL_law_326 : decode cL_law 326 = .ok (.invokevirtual 43, 3) := by decide +kernel
theorem dL_law_329 : decode cL_law 329 = .ok (.aload_n 2, 1) := by decide +kernel
theorem dL_law_330 : decode cL_law 330 = .ok (.invokevirtual 47, 3) := by decide +kernel
theorem dL_law_333 : decode cL_law 333 = .ok (.if_icmp .eq 338, 3) := by decide +kernel
theorem dL_law_336 : decode cL_law 336 = .ok (.iconst 0, 1) := by decide +kernel
theorem dL_law_337 : decode cL_law 337 = .ok (.ireturn, 1) := by decide +kernel
theorem dL_law_338 : decode cL_law 338 = .ok (.aload_n 1, 1) := by decide +kernel
theorem dL_law_339 : decode cL_law 339 = .ok (.aload_n 0, 1) := by decide +kernel
theorem dL_law_340 : decode cL_law 340 = .ok (.iload_n 3, 1) := by decide +kernel
theorem dL_law_341 : decode cL_law 341 = .ok (.iconst 1, 1) := by decide +kernel
theorem dL_law_342 : decode cL_law 342 = .ok (.iadd, 1) := by decide +kernel
theorem dL_law_343 : decode cL_law 343 = .ok (.iaload, 1) := by decide +kernel
theorem dL_law_344 : decode cL_law 344 = .ok (.invokevirtual 48, 3) := by decide +kernel
theorem dL_law_347 : decode cL_law 347 = .ok (.aload_n 2, 1) := by decide +kernel
theorem dL_law_348 : decode cL_law 348 = .ok (.aload_n 0, 1) := by decide +kernel
theorem dL_law_349 : decode cL_law 349 = .ok (.iload_n 3, 1) := by decide +kernel
theorem dL_law_350 : decode cL_law 350 = .ok (.iconst 1, 1) := by decide +kernel
theorem dL_law_351 : decode cL_law 351 = .ok (.iadd, 1) := by decide +kernel
theorem dL_law_352 : decode cL_law 352 = .ok (.iaload, 1) := by decide +kernel
theorem dL_law_353 : decode cL_law 353 = .ok (.invokevirtual 51, 3) := by decide +kernel
theorem dL_law_356 : decode cL_law 356 = .ok (.if_icmp .eq 315, 3) := by decide +kernel
theorem dL_law_359 : decode cL_law 359 = .ok (.iconst 0, 1) := by decide +kernel
theorem dL_law_360 : decode cL_law 360 = .ok (.ireturn, 1) := by decide +kernel
theorem dL_law_361 : decode cL_law 361 = .ok (.aload_n 1, 1) := by decide +kernel
theorem dL_law_362 : decode cL_law 362 = .ok (.aload_n 0, 1) := by decide +kernel
theorem dL_law_363 : decode cL_law 363 = .ok (.iload_n 3, 1) := by decide +kernel
theorem dL_law_364 : decode cL_law 364 = .ok (.iconst 1, 1) := by decide +kernel
theorem dL_law_365 : decode cL_law 365 = .ok (.iadd, 1) := by decide +kernel
theorem dL_law_366 : decode cL_law 366 = .ok (.iaload, 1) := by decide +kernel
theorem dL_law_367 : decode cL_law 367 = .ok (.aload_n 0, 1) := by decide +kernel
theorem dL_law_368 : decode cL_law 368 = .ok (.iload_n 3, 1) := by decide +kernel
theorem dL_law_369 : decode cL_law 369 = .ok (.iconst 2, 1) := by decide +kernel
theorem dL_law_370 : decode cL_law 370 = .ok (.iadd, 1) := by decide +kernel
theorem dL_law_371 : decode cL_law 371 = .ok (.iaload, 1) := by decide +kernel
theorem dL_law_372 : decode cL_law 372 = .ok (.invokevirtual 52, 3) := by decide +kernel
theorem dL_law_375 : decode cL_law 375 = .ok (.aload_n 2, 1) := by decide +kernel
theorem dL_law_376 : decode cL_law 376 = .ok (.aload_n 0, 1) := by decide +kernel
theorem dL_law_377 : decode cL_law 377 = .ok (.iload_n 3, 1) := by decide +kernel
theorem dL_law_378 : decode cL_law 378 = .ok (.iconst 1, 1) := by decide +kernel
theorem dL_law_379 : decode cL_law 379 = .ok (.iadd, 1) := by decide +kernel
theorem dL_law_380 : decode cL_law 380 = .ok (.iaload, 1) := by decide +kernel
theorem dL_law_381 : decode cL_law 381 = .ok (.aload_n 0, 1) := by decide +kernel
theorem dL_law_382 : decode cL_law 382 = .ok (.iload_n 3, 1) := by decide +kernel
theorem dL_law_383 : decode cL_law 383 = .ok (.iconst 2, 1) := by decide +kernel
theorem dL_law_384 : decode cL_law 384 = .ok (.iadd, 1) := by decide +kernel
theorem dL_law_385 : decode cL_law 385 = .ok (.iaload, 1) := by decide +kernel
theorem dL_law_386 : decode cL_law 386 = .ok (.invokevirtual 56, 3) := by decide +kernel
theorem dL_law_389 : decode cL_law 389 = .ok (.if_icmp .eq 282, 3) := by decide +kernel
theorem dL_law_392 : decode cL_law 392 = .ok (.iconst 0, 1) := by decide +kernel
theorem dL_law_393 : decode cL_law 393 = .ok (.ireturn, 1) := by decide +kernel
theorem dL_law_394 : decode cL_law 394 = .ok (.aload_n 1, 1) := by decide +kernel
theorem dL_law_395 : decode cL_law 395 = .ok (.aload_n 0, 1) := by decide +kernel
theorem dL_law_396 : decode cL_law 396 = .ok (.iload_n 3, 1) := by decide +kernel
theorem dL_law_397 : decode cL_law 397 = .ok (.iconst 1, 1) := by decide +kernel
theorem dL_law_398 : decode cL_law 398 = .ok (.iadd, 1) := by decide +kernel
theorem dL_law_399 : decode cL_law 399 = .ok (.iaload, 1) := by decide +kernel
theorem dL_law_400 : decode cL_law 400 = .ok (.aload_n 0, 1) := by decide +kernel
theorem dL_law_401 : decode cL_law 401 = .ok (.iload_n 3, 1) := by decide +kernel
theorem dL_law_402 : decode cL_law 402 = .ok (.iconst 2, 1) := by decide +kernel
theorem dL_law_403 : decode cL_law 403 = .ok (.iadd, 1) := by decide +kernel
theorem dL_law_404 : decode cL_law 404 = .ok (.iaload, 1) := by decide +kernel
theorem dL_law_405 : decode cL_law 405 = .ok (.invokevirtual 57, 3) := by decide +kernel
theorem dL_law_408 : decode cL_law 408 = .ok (.aload_n 2, 1) := by decide +kernel
theorem dL_law_409 : decode cL_law 409 = .ok (.aload_n 0, 1) := by decide +kernel
theorem dL_law_410 : decode cL_law 410 = .ok (.iload_n 3, 1) := by decide +kernel
theorem dL_law_411 : decode cL_law 411 = .ok (.iconst 1, 1) := by decide +kernel
theorem dL_law_412 : decode cL_law 412 = .ok (.iadd, 1) := by decide +kernel
theorem dL_law_413 : decode cL_law 413 = .ok (.iaload, 1) := by decide +kernel
theorem dL_law_414 : decode cL_law 414 = .ok (.aload_n 0, 1) := by decide +kernel
theorem dL_law_415 : decode cL_law 415 = .ok (.iload_n 3, 1) := by decide +kernel
theorem dL_law_416 : decode cL_law 416 = .ok (.iconst 2, 1) := by decide +kernel
theorem dL_law_417 : decode cL_law 417 = .ok (.iadd, 1) := by decide +kernel
theorem dL_law_418 : decode cL_law 418 = .ok (.iaload, 1) := by decide +kernel
theorem dL_law_419 : decode cL_law 419 = .ok (.invokevirtual 60, 3) := by decide +kernel
theorem dL_law_422 : decode cL_law 422 = .ok (.if_icmp .eq 249, 3) := by decide +kernel
theorem dL_law_425 : decode cL_law 425 = .ok (.iconst 0, 1) := by decide +kernel
theorem dL_law_426 : decode cL_law 426 = .ok (.ireturn, 1) := by decide +kernel
theorem dL_law_427 : decode cL_law 427 = .ok (.aload_n 1, 1) := by decide +kernel
theorem dL_law_428 : decode cL_law 428 = .ok (.aload_n 0, 1) := by decide +kernel
theorem dL_law_429 : decode cL_law 429 = .ok (.iload_n 3, 1) := by decide +kernel
theorem dL_law_430 : decode cL_law 430 = .ok (.iconst 1, 1) := by decide +kernel
theorem dL_law_431 : decode cL_law 431 = .ok (.iadd, 1) := by decide +kernel
theorem dL_law_432 : decode cL_law 432 = .ok (.iaload, 1) := by decide +kernel
theorem dL_law_433 : decode cL_law 433 = .ok (.aload_n 0, 1) := by decide +kernel
theorem dL_law_434 : decode cL_law 434 = .ok (.iload_n 3, 1) := by decide +kernel
theorem dL_law_435 : decode cL_law 435 = .ok (.iconst 2, 1) := by decide +kernel
theorem dL_law_436 : decode cL_law 436 = .ok (.iadd, 1) := by decide +kernel
theorem dL_law_437 : decode cL_law 437 = .ok (.iaload, 1) := by decide +kernel
theorem dL_law_438 : decode cL_law 438 = .ok (.invokevirtual 61, 3) := by decide +kernel
theorem dL_law_441 : decode cL_law 441 = .ok (.aload_n 2, 1) := by decide +kernel
theorem dL_law_442 : decode cL_law 442 = .ok (.aload_n 0, 1) := by decide +kernel
theorem dL_law_443 : decode cL_law 443 = .ok (.iload_n 3, 1) := by decide +kernel
theorem dL_law_444 : decode cL_law 444 = .ok (.iconst 1, 1) := by decide +kernel
theorem dL_law_445 : decode cL_law 445 = .ok (.iadd, 1) := by decide +kernel
theorem dL_law_446 : decode cL_law 446 = .ok (.iaload, 1) := by decide +kernel
theorem dL_law_447 : decode cL_law 447 = .ok (.aload_n 0, 1) := by decide +kernel
theorem dL_law_448 : decode cL_law 448 = .ok (.iload_n 3, 1) := by decide +kernel
theorem dL_law_449 : decode cL_law 449 = .ok (.iconst 2, 1) := by decide +kernel
theorem dL_law_450 : decode cL_law 450 = .ok (.iadd, 1) := by decide +kernel
theorem dL_law_451 : decode cL_law 451 = .ok (.iaload, 1) := by decide +kernel
theorem dL_law_452 : decode cL_law 452 = .ok (.invokevirtual 64, 3) := by decide +kernel
theorem dL_law_455 : decode cL_law 455 = .ok (.if_icmp .eq 216, 3) := by decide +kernel
theorem dL_law_458 : decode cL_law 458 = .ok (.iconst 0, 1) := by decide +kernel
theorem dL_law_459 : decode cL_law 459 = .ok (.ireturn, 1) := by decide +kernel
theorem dL_law_460 : decode cL_law 460 = .ok (.aload_n 1, 1) := by decide +kernel
theorem dL_law_461 : decode cL_law 461 = .ok (.aload_n 0, 1) := by decide +kernel
theorem dL_law_462 : decode cL_law 462 = .ok (.iload_n 3, 1) := by decide +kernel
theorem dL_law_463 : decode cL_law 463 = .ok (.iconst 1, 1) := by decide +kernel
theorem dL_law_464 : decode cL_law 464 = .ok (.iadd, 1) := by decide +kernel
theorem dL_law_465 : decode cL_law 465 = .ok (.iaload, 1) := by decide +kernel
theorem dL_law_466 : decode cL_law 466 = .ok (.aload_n 0, 1) := by decide +kernel
theorem dL_law_467 : decode cL_law 467 = .ok (.iload_n 3, 1) := by decide +kernel
theorem dL_law_468 : decode cL_law 468 = .ok (.iconst 2, 1) := by decide +kernel
theorem dL_law_469 : decode cL_law 469 = .ok (.iadd, 1) := by decide +kernel
theorem dL_law_470 : decode cL_law 470 = .ok (.iaload, 1) := by decide +kernel
theorem dL_law_471 : decode cL_law 471 = .ok (.invokevirtual 65, 3) := by decide +kernel
theorem dL_law_474 : decode cL_law 474 = .ok (.aload_n 2, 1) := by decide +kernel
theorem dL_law_475 : decode cL_law 475 = .ok (.aload_n 0, 1) := by decide +kernel
theorem dL_law_476 : decode cL_law 476 = .ok (.iload_n 3, 1) := by decide +kernel
theorem dL_law_477 : decode cL_law 477 = .ok (.iconst 1, 1) := by decide +kernel
theorem dL_law_478 : decode cL_law 478 = .ok (.iadd, 1) := by decide +kernel
theorem dL_law_479 : decode cL_law 479 = .ok (.iaload, 1) := by decide +kernel
theorem dL_law_480 : decode cL_law 480 = .ok (.aload_n 0, 1) := by decide +kernel
theorem dL_law_481 : decode cL_law 481 = .ok (.iload_n 3, 1) := by decide +kernel
theorem dL_law_482 : decode cL_law 482 = .ok (.iconst 2, 1) := by decide +kernel
theorem dL_law_483 : decode cL_law 483 = .ok (.iadd, 1) := by decide +kernel
theorem dL_law_484 : decode cL_law 484 = .ok (.iaload, 1) := by decide +kernel
theorem dL_law_485 : decode cL_law 485 = .ok (.invokevirtual 68, 3) := by decide +kernel
theorem dL_law_488 : decode cL_law 488 = .ok (.if_icmp .eq 183, 3) := by decide +kernel
theorem dL_law_491 : decode cL_law 491 = .ok (.iconst 0, 1) := by decide +kernel
theorem dL_law_492 : decode cL_law 492 = .ok (.ireturn, 1) := by decide +kernel
theorem dL_law_493 : decode cL_law 493 = .ok (.aload_n 1, 1) := by decide +kernel
theorem dL_law_494 : decode cL_law 494 = .ok (.aload_n 0, 1) := by decide +kernel
theorem dL_law_495 : decode cL_law 495 = .ok (.iload_n 3, 1) := by decide +kernel
theorem dL_law_496 : decode cL_law 496 = .ok (.iconst 1, 1) := by decide +kernel
theorem dL_law_497 : decode cL_law 497 = .ok (.iadd, 1) := by decide +kernel
theorem dL_law_498 : decode cL_law 498 = .ok (.iaload, 1) := by decide +kernel
theorem dL_law_499 : decode cL_law 499 = .ok (.aload_n 0, 1) := by decide +kernel
theorem dL_law_500 : decode cL_law 500 = .ok (.iload_n 3, 1) := by decide +kernel
theorem dL_law_501 : decode cL_law 501 = .ok (.iconst 2, 1) := by decide +kernel
theorem dL_law_502 : decode cL_law 502 = .ok (.iadd, 1) := by decide +kernel
theorem dL_law_503 : decode cL_law 503 = .ok (.iaload, 1) := by decide +kernel
theorem dL_law_504 : decode cL_law 504 = .ok (.aload_n 0, 1) := by decide +kernel
theorem dL_law_505 : decode cL_law 505 = .ok (.iload_n 3, 1) := by decide +kernel
theorem dL_law_506 : decode cL_law 506 = .ok (.iconst 3, 1) := by decide +kernel
theorem dL_law_507 : decode cL_law 507 = .ok (.iadd, 1) := by decide +kernel
theorem dL_law_508 : decode cL_law 508 = .ok (.iaload, 1) := by decide +kernel
theorem dL_law_509 : decode cL_law 509 = .ok (.aload_n 0, 1) := by decide +kernel
theorem dL_law_510 : decode cL_law 510 = .ok (.iload_n 3, 1) := by decide +kernel
theorem dL_law_511 : decode cL_law 511 = .ok (.iconst 4, 1) := by decide +kernel
theorem dL_law_512 : decode cL_law 512 = .ok (.iadd, 1) := by decide +kernel
theorem dL_law_513 : decode cL_law 513 = .ok (.iaload, 1) := by decide +kernel
theorem dL_law_514 : decode cL_law 514 = .ok (.aload_n 0, 1) := by decide +kernel
theorem dL_law_515 : decode cL_law 515 = .ok (.iload_n 3, 1) := by decide +kernel
theorem dL_law_516 : decode cL_law 516 = .ok (.iconst 5, 1) := by decide +kernel
theorem dL_law_517 : decode cL_law 517 = .ok (.iadd, 1) := by decide +kernel
theorem dL_law_518 : decode cL_law 518 = .ok (.iaload, 1) := by decide +kernel
theorem dL_law_519 : decode cL_law 519 = .ok (.invokevirtual 69, 3) := by decide +kernel
theorem dL_law_522 : decode cL_law 522 = .ok (.aload_n 2, 1) := by decide +kernel
theorem dL_law_523 : decode cL_law 523 = .ok (.aload_n 0, 1) := by decide +kernel
theorem dL_law_524 : decode cL_law 524 = .ok (.iload_n 3, 1) := by decide +kernel
theorem dL_law_525 : decode cL_law 525 = .ok (.iconst 1, 1) := by decide +kernel
theorem dL_law_526 : decode cL_law 526 = .ok (.iadd, 1) := by decide +kernel
theorem dL_law_527 : decode cL_law 527 = .ok (.iaload, 1) := by decide +kernel
theorem dL_law_528 : decode cL_law 528 = .ok (.aload_n 0, 1) := by decide +kernel
theorem dL_law_529 : decode cL_law 529 = .ok (.iload_n 3, 1) := by decide +kernel
theorem dL_law_530 : decode cL_law 530 = .ok (.iconst 2, 1) := by decide +kernel
theorem dL_law_531 : decode cL_law 531 = .ok (.iadd, 1) := by decide +kernel
theorem dL_law_532 : decode cL_law 532 = .ok (.iaload, 1) := by decide +kernel
theorem dL_law_533 : decode cL_law 533 = .ok (.aload_n 0, 1) := by decide +kernel
theorem dL_law_534 : decode cL_law 534 = .ok (.iload_n 3, 1) := by decide +kernel
theorem dL_law_535 : decode cL_law 535 = .ok (.iconst 3, 1) := by decide +kernel
theorem dL_law_536 : decode cL_law 536 = .ok (.iadd, 1) := by decide +kernel
theorem dL_law_537 : decode cL_law 537 = .ok (.iaload, 1) := by decide +kernel
theorem dL_law_538 : decode cL_law 538 = .ok (.aload_n 0, 1) := by decide +kernel
theorem dL_law_539 : decode cL_law 539 = .ok (.iload_n 3, 1) := by decide +kernel
theorem dL_law_540 : decode cL_law 540 = .ok (.iconst 4, 1) := by decide +kernel
theorem dL_law_541 : decode cL_law 541 = .ok (.iadd, 1) := by decide +kernel
theorem dL_law_542 : decode cL_law 542 = .ok (.iaload, 1) := by decide +kernel
theorem dL_law_543 : decode cL_law 543 = .ok (.aload_n 0, 1) := by decide +kernel
theorem dL_law_544 : decode cL_law 544 = .ok (.iload_n 3, 1) := by decide +kernel
theorem dL_law_545 : decode cL_law 545 = .ok (.iconst 5, 1) := by decide +kernel
theorem dL_law_546 : decode cL_law 546 = .ok (.iadd, 1) := by decide +kernel
theorem dL_law_547 : decode cL_law 547 = .ok (.iaload, 1) := by decide +kernel
theorem dL_law_548 : decode cL_law 548 = .ok (.invokevirtual 73, 3) := by decide +kernel
theorem dL_law_551 : decode cL_law 551 = .ok (.if_icmp .eq 120, 3) := by decide +kernel
theorem dL_law_554 : decode cL_law 554 = .ok (.iconst 0, 1) := by decide +kernel
theorem dL_law_555 : decode cL_law 555 = .ok (.ireturn, 1) := by decide +kernel
theorem dL_law_556 : decode cL_law 556 = .ok (.aload_n 1, 1) := by decide +kernel
theorem dL_law_557 : decode cL_law 557 = .ok (.aload_n 0, 1) := by decide +kernel
theorem dL_law_558 : decode cL_law 558 = .ok (.iload_n 3, 1) := by decide +kernel
theorem dL_law_559 : decode cL_law 559 = .ok (.iconst 1, 1) := by decide +kernel
theorem dL_law_560 : decode cL_law 560 = .ok (.iadd, 1) := by decide +kernel
theorem dL_law_561 : decode cL_law 561 = .ok (.iaload, 1) := by decide +kernel
theorem dL_law_562 : decode cL_law 562 = .ok (.aload_n 0, 1) := by decide +kernel
theorem dL_law_563 : decode cL_law 563 = .ok (.iload_n 3, 1) := by decide +kernel
theorem dL_law_564 : decode cL_law 564 = .ok (.iconst 2, 1) := by decide +kernel
theorem dL_law_565 : decode cL_law 565 = .ok (.iadd, 1) := by decide +kernel
theorem dL_law_566 : decode cL_law 566 = .ok (.iaload, 1) := by decide +kernel
theorem dL_law_567 : decode cL_law 567 = .ok (.invokevirtual 74, 3) := by decide +kernel
theorem dL_law_570 : decode cL_law 570 = .ok (.aload_n 2, 1) := by decide +kernel
theorem dL_law_571 : decode cL_law 571 = .ok (.aload_n 0, 1) := by decide +kernel
theorem dL_law_572 : decode cL_law 572 = .ok (.iload_n 3, 1) := by decide +kernel
theorem dL_law_573 : decode cL_law 573 = .ok (.iconst 1, 1) := by decide +kernel
theorem dL_law_574 : decode cL_law 574 = .ok (.iadd, 1) := by decide +kernel
theorem dL_law_575 : decode cL_law 575 = .ok (.iaload, 1) := by decide +kernel
theorem dL_law_576 : decode cL_law 576 = .ok (.aload_n 0, 1) := by decide +kernel
theorem dL_law_577 : decode cL_law 577 = .ok (.iload_n 3, 1) := by decide +kernel
theorem dL_law_578 : decode cL_law 578 = .ok (.iconst 2, 1) := by decide +kernel
theorem dL_law_579 : decode cL_law 579 = .ok (.iadd, 1) := by decide +kernel
theorem dL_law_580 : decode cL_law 580 = .ok (.iaload, 1) := by decide +kernel
theorem dL_law_581 : decode cL_law 581 = .ok (.invokevirtual 77, 3) := by decide +kernel
theorem dL_law_584 : decode cL_law 584 = .ok (.if_icmp .eq 87, 3) := by decide +kernel
theorem dL_law_587 : decode cL_law 587 = .ok (.iconst 0, 1) := by decide +kernel
theorem dL_law_588 : decode cL_law 588 = .ok (.ireturn, 1) := by decide +kernel
theorem dL_law_589 : decode cL_law 589 = .ok (.aload_n 1, 1) := by decide +kernel
theorem dL_law_590 : decode cL_law 590 = .ok (.aload_n 0, 1) := by decide +kernel
theorem dL_law_591 : decode cL_law 591 = .ok (.iload_n 3, 1) := by decide +kernel
theorem dL_law_592 : decode cL_law 592 = .ok (.iconst 1, 1) := by decide +kernel
theorem dL_law_593 : decode cL_law 593 = .ok (.iadd, 1) := by decide +kernel
theorem dL_law_594 : decode cL_law 594 = .ok (.iaload, 1) := by decide +kernel
theorem dL_law_595 : decode cL_law 595 = .ok (.invokevirtual 78, 3) := by decide +kernel
theorem dL_law_598 : decode cL_law 598 = .ok (.aload_n 2, 1) := by decide +kernel
theorem dL_law_599 : decode cL_law 599 = .ok (.aload_n 0, 1) := by decide +kernel
theorem dL_law_600 : decode cL_law 600 = .ok (.iload_n 3, 1) := by decide +kernel
theorem dL_law_601 : decode cL_law 601 = .ok (.iconst 1, 1) := by decide +kernel
theorem dL_law_602 : decode cL_law 602 = .ok (.iadd, 1) := by decide +kernel
theorem dL_law_603 : decode cL_law 603 = .ok (.iaload, 1) := by decide +kernel
theorem dL_law_604 : decode cL_law 604 = .ok (.invokevirtual 81, 3) := by decide +kernel
theorem dL_law_607 : decode cL_law 607 = .ok (.if_icmp .eq 64, 3) := by decide +kernel
theorem dL_law_610 : decode cL_law 610 = .ok (.iconst 0, 1) := by decide +kernel
theorem dL_law_611 : decode cL_law 611 = .ok (.ireturn, 1) := by decide +kernel
theorem dL_law_612 : decode cL_law 612 = .ok (.aload_n 1, 1) := by decide +kernel
theorem dL_law_613 : decode cL_law 613 = .ok (.aload_n 0, 1) := by decide +kernel
theorem dL_law_614 : decode cL_law 614 = .ok (.iload_n 3, 1) := by decide +kernel
theorem dL_law_615 : decode cL_law 615 = .ok (.iconst 1, 1) := by decide +kernel
theorem dL_law_616 : decode cL_law 616 = .ok (.iadd, 1) := by decide +kernel
theorem dL_law_617 : decode cL_law 617 = .ok (.iaload, 1) := by decide +kernel
theorem dL_law_618 : decode cL_law 618 = .ok (.invokevirtual 82, 3) := by decide +kernel
theorem dL_law_621 : decode cL_law 621 = .ok (.aload_n 2, 1) := by decide +kernel
theorem dL_law_622 : decode cL_law 622 = .ok (.aload_n 0, 1) := by decide +kernel
theorem dL_law_623 : decode cL_law 623 = .ok (.iload_n 3, 1) := by decide +kernel
theorem dL_law_624 : decode cL_law 624 = .ok (.iconst 1, 1) := by decide +kernel
theorem dL_law_625 : decode cL_law 625 = .ok (.iadd, 1) := by decide +kernel
theorem dL_law_626 : decode cL_law 626 = .ok (.iaload, 1) := by decide +kernel
theorem dL_law_627 : decode cL_law 627 = .ok (.invokevirtual 85, 3) := by decide +kernel
theorem dL_law_630 : decode cL_law 630 = .ok (.if_icmp .eq 41, 3) := by decide +kernel
theorem dL_law_633 : decode cL_law 633 = .ok (.iconst 0, 1) := by decide +kernel
theorem dL_law_634 : decode cL_law 634 = .ok (.ireturn, 1) := by decide +kernel
theorem dL_law_635 : decode cL_law 635 = .ok (.aload_n 1, 1) := by decide +kernel
theorem dL_law_636 : decode cL_law 636 = .ok (.aload_n 0, 1) := by decide +kernel
theorem dL_law_637 : decode cL_law 637 = .ok (.iload_n 3, 1) := by decide +kernel
theorem dL_law_638 : decode cL_law 638 = .ok (.iconst 1, 1) := by decide +kernel
theorem dL_law_639 : decode cL_law 639 = .ok (.iadd, 1) := by decide +kernel
theorem dL_law_640 : decode cL_law 640 = .ok (.iaload, 1) := by decide +kernel
theorem dL_law_641 : decode cL_law 641 = .ok (.invokevirtual 86, 3) := by decide +kernel
theorem dL_law_644 : decode cL_law 644 = .ok (.aload_n 2, 1) := by decide +kernel
theorem dL_law_645 : decode cL_law 645 = .ok (.aload_n 0, 1) := by decide +kernel
theorem dL_law_646 : decode cL_law 646 = .ok (.iload_n 3, 1) := by decide +kernel
theorem dL_law_647 : decode cL_law 647 = .ok (.iconst 1, 1) := by decide +kernel
theorem dL_law_648 : decode cL_law 648 = .ok (.iadd, 1) := by decide +kernel
theorem dL_law_649 : decode cL_law 649 = .ok (.iaload, 1) := by decide +kernel
theorem dL_law_650 : decode cL_law 650 = .ok (.invokevirtual 89, 3) := by decide +kernel
theorem dL_law_653 : decode cL_law 653 = .ok (.if_icmp .eq 18, 3) := by decide +kernel
theorem dL_law_656 : decode cL_law 656 = .ok (.iconst 0, 1) := by decide +kernel
theorem dL_law_657 : decode cL_law 657 = .ok (.ireturn, 1) := by decide +kernel
theorem dL_law_658 : decode cL_law 658 = .ok (.aload_n 1, 1) := by decide +kernel
theorem dL_law_659 : decode cL_law 659 = .ok (.invokevirtual 90, 3) := by decide +kernel
theorem dL_law_662 : decode cL_law 662 = .ok (.aload_n 2, 1) := by decide +kernel
theorem dL_law_663 : decode cL_law 663 = .ok (.invokevirtual 93, 3) := by decide +kernel
theorem dL_law_666 : decode cL_law 666 = .ok (.if_icmp .eq 5, 3) := by decide +kernel
theorem dL_law_669 : decode cL_law 669 = .ok (.iconst 0, 1) := by decide +kernel
theorem dL_law_670 : decode cL_law 670 = .ok (.ireturn, 1) := by decide +kernel
theorem dL_law_671 : decode cL_law 671 = .ok (.iinc 3 6, 3) := by decide +kernel
theorem dL_law_674 : decode cL_law 674 = .ok (.goto (-656), 3) := by decide +kernel
theorem dL_law_677 : decode cL_law 677 = .ok (.iconst 1, 1) := by decide +kernel
theorem dL_law_678 : decode cL_law 678 = .ok (.ireturn, 1) := by decide +kernel
