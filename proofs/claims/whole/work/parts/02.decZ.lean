theorem dX0_init_0 : decode cX0_init 0 = .ok (.aload_n 0, 1) := by decide +kernel
theorem dX0_init_1 : decode cX0_init 1 = .ok (.invokespecial 3, 3) := by decide +kernel
theorem dX0_init_4 : decode cX0_init 4 = .ok (.aload_n 0, 1) := by decide +kernel
theorem dX0_init_5 : decode cX0_init 5 = .ok (.bipush 6, 2) := by decide +kernel
theorem dX0_init_7 : decode cX0_init 7 = .ok (.newarray .int, 2) := by decide +kernel
theorem dX0_init_9 : decode cX0_init 9 = .ok (.putfield 9, 3) := by decide +kernel
theorem dX0_init_12 : decode cX0_init 12 = .ok (.return_, 1) := by decide +kernel
theorem dX0_begin_0 : decode cX0_begin 0 = .ok (.aload_n 0, 1) := by decide +kernel
theorem dX0_begin_1 : decode cX0_begin 1 = .ok (.iload_n 1, 1) := by decide +kernel
theorem dX0_begin_2 : decode cX0_begin 2 = .ok (.putfield 15, 3) := by decide +kernel
theorem dX0_begin_5 : decode cX0_begin 5 = .ok (.aload_n 0, 1) := by decide +kernel
theorem dX0_begin_6 : decode cX0_begin 6 = .ok (.iconst 0, 1) := by decide +kernel
theorem dX0_begin_7 : decode cX0_begin 7 = .ok (.putfield 19, 3) := by decide +kernel
theorem dX0_begin_10 : decode cX0_begin 10 = .ok (.aload_n 0, 1) := by decide +kernel
theorem dX0_begin_11 : decode cX0_begin 11 = .ok (.iconst 0, 1) := by decide +kernel
theorem dX0_begin_12 : decode cX0_begin 12 = .ok (.putfield 22, 3) := by decide +kernel
theorem dX0_begin_15 : decode cX0_begin 15 = .ok (.aload_n 0, 1) := by decide +kernel
theorem dX0_begin_16 : decode cX0_begin 16 = .ok (.getfield 9, 3) := by decide +kernel
theorem dX0_begin_19 : decode cX0_begin 19 = .ok (.iconst 0, 1) := by decide +kernel
theorem dX0_begin_20 : decode cX0_begin 20 = .ok (.invokestatic 25, 3) := by decide +kernel
theorem dX0_begin_23 : decode cX0_begin 23 = .ok (.return_, 1) := by decide +kernel
theorem dX0_copy_0 : decode cX0_copy 0 = .ok (.aload_n 0, 1) := by decide +kernel
theorem dX0_copy_1 : decode cX0_copy 1 = .ok (.aload_n 1, 1) := by decide +kernel
theorem dX0_copy_2 : decode cX0_copy 2 = .ok (.getfield 15, 3) := by decide +kernel
theorem dX0_copy_5 : decode cX0_copy 5 = .ok (.putfield 15, 3) := by decide +kernel
theorem dX0_copy_8 : decode cX0_copy 8 = .ok (.aload_n 0, 1) := by decide +kernel
theorem dX0_copy_9 : decode cX0_copy 9 = .ok (.aload_n 1, 1) := by decide +kernel
theorem dX0_copy_10 : decode cX0_copy 10 = .ok (.getfield 19, 3) := by decide +kernel
theorem dX0_copy_13 : decode cX0_copy 13 = .ok (.putfield 19, 3) := by decide +kernel
theorem dX0_copy_16 : decode cX0_copy 16 = .ok (.aload_n 0, 1) := by decide +kernel
theorem dX0_copy_17 : decode cX0_copy 17 = .ok (.aload_n 1, 1) := by decide +kernel
theorem dX0_copy_18 : decode cX0_copy 18 = .ok (.getfield 22, 3) := by decide +kernel
theorem dX0_copy_21 : decode cX0_copy 21 = .ok (.putfield 22, 3) := by decide +kernel
theorem dX0_copy_24 : decode cX0_copy 24 = .ok (.aload_n 1, 1) := by decide +kernel
theorem dX0_copy_25 : decode cX0_copy 25 = .ok (.getfield 9, 3) := by decide +kernel
theorem dX0_copy_28 : decode cX0_copy 28 = .ok (.iconst 0, 1) := by decide +kernel
theorem dX0_copy_29 : decode cX0_copy 29 = .ok (.aload_n 0, 1) := by decide +kernel
theorem dX0_copy_30 : decode cX0_copy 30 = .ok (.getfield 9, 3) := by decide +kernel
theorem dX0_copy_33 : decode cX0_copy 33 = .ok (.iconst 0, 1) := by decide +kernel
theorem dX0_copy_34 : decode cX0_copy 34 = .ok (.bipush 6, 2) := by decide +kernel
theorem dX0_copy_36 : decode cX0_copy 36 = .ok (.invokestatic 31, 3) := by decide +kernel
theorem dX0_copy_39 : decode cX0_copy 39 = .ok (.return_, 1) := by decide +kernel
theorem dX0_isServed_0 : decode cX0_isServed 0 = .ok (.aload_n 0, 1) := by decide +kernel
theorem dX0_isServed_1 : decode cX0_isServed 1 = .ok (.getfield 22, 3) := by decide +kernel
theorem dX0_isServed_4 : decode cX0_isServed 4 = .ok (.iload_n 1, 1) := by decide +kernel
theorem dX0_isServed_5 : decode cX0_isServed 5 = .ok (.invokestatic 37, 3) := by decide +kernel
theorem dX0_isServed_8 : decode cX0_isServed 8 = .ok (.ireturn, 1) := by decide +kernel
theorem dX0_servedNumber_0 : decode cX0_servedNumber 0 = .ok (.aload_n 0, 1) := by decide +kernel
theorem dX0_servedNumber_1 : decode cX0_servedNumber 1 = .ok (.getfield 22, 3) := by decide +kernel
theorem dX0_servedNumber_4 : decode cX0_servedNumber 4 = .ok (.invokestatic 41, 3) := by decide +kernel
theorem dX0_servedNumber_7 : decode cX0_servedNumber 7 = .ok (.ireturn, 1) := by decide +kernel
theorem dX0_forgo_0 : decode cX0_forgo 0 = .ok (.aload_n 0, 1) := by decide +kernel
theorem dX0_forgo_1 : decode cX0_forgo 1 = .ok (.getfield 9, 3) := by decide +kernel
theorem dX0_forgo_4 : decode cX0_forgo 4 = .ok (.iload_n 1, 1) := by decide +kernel
theorem dX0_forgo_5 : decode cX0_forgo 5 = .ok (.iconst 0, 1) := by decide +kernel
theorem dX0_forgo_6 : decode cX0_forgo 6 = .ok (.iastore, 1) := by decide +kernel
theorem dX0_forgo_7 : decode cX0_forgo 7 = .ok (.aload_n 0, 1) := by decide +kernel
theorem dX0_forgo_8 : decode cX0_forgo 8 = .ok (.dup, 1) := by decide +kernel
theorem dX0_forgo_9 : decode cX0_forgo 9 = .ok (.getfield 22, 3) := by decide +kernel
theorem dX0_forgo_12 : decode cX0_forgo 12 = .ok (.iconst 1, 1) := by decide +kernel
theorem dX0_forgo_13 : decode cX0_forgo 13 = .ok (.iload_n 1, 1) := by decide +kernel
theorem dX0_forgo_14 : decode cX0_forgo 14 = .ok (.ishl, 1) := by decide +kernel
theorem dX0_forgo_15 : decode cX0_forgo 15 = .ok (.iconst (-1), 1) := by decide +kernel
theorem dX0_forgo_16 : decode cX0_forgo 16 = .ok (.ixor, 1) := by decide +kernel
theorem dX0_forgo_17 : decode cX0_forgo 17 = .ok (.iand, 1) := by decide +kernel
theorem dX0_forgo_18 : decode cX0_forgo 18 = .ok (.putfield 22, 3) := by decide +kernel
theorem dX0_forgo_21 : decode cX0_forgo 21 = .ok (.return_, 1) := by decide +kernel
theorem dX0_pass_0 : decode cX0_pass 0 = .ok (.aload_n 0, 1) := by decide +kernel
theorem dX0_pass_1 : decode cX0_pass 1 = .ok (.invokevirtual 47, 3) := by decide +kernel
theorem dX0_pass_4 : decode cX0_pass 4 = .ok (.istore_n 3, 1) := by decide +kernel
theorem dX0_pass_5 : decode cX0_pass 5 = .ok (.aload_n 0, 1) := by decide +kernel
theorem dX0_pass_6 : decode cX0_pass 6 = .ok (.iload_n 1, 1) := by decide +kernel
theorem dX0_pass_7 : decode cX0_pass 7 = .ok (.putfield 15, 3) := by decide +kernel
theorem dX0_pass_10 : decode cX0_pass 10 = .ok (.aload_n 0, 1) := by decide +kernel
theorem dX0_pass_11 : decode cX0_pass 11 = .ok (.dup, 1) := by decide +kernel
theorem dX0_pass_12 : decode cX0_pass 12 = .ok (.getfield 19, 3) := by decide +kernel
theorem dX0_pass_15 : decode cX0_pass 15 = .ok (.iconst 1, 1) := by decide +kernel
theorem dX0_pass_16 : decode cX0_pass 16 = .ok (.iadd, 1) := by decide +kernel
theorem dX0_pass_17 : decode cX0_pass 17 = .ok (.putfield 19, 3) := by decide +kernel
theorem dX0_pass_20 : decode cX0_pass 20 = .ok (.iconst 0, 1) := by decide +kernel
theorem dX0_pass_21 : decode cX0_pass 21 = .ok (.istore 4, 2) := by decide +kernel
theorem dX0_pass_23 : decode cX0_pass 23 = .ok (.iload 4, 2) := by decide +kernel
theorem dX0_pass_25 : decode cX0_pass 25 = .ok (.aload_n 2, 1) := by decide +kernel
theorem dX0_pass_26 : decode cX0_pass 26 = .ok (.getfield 51, 3) := by decide +kernel
theorem dX0_pass_29 : decode cX0_pass 29 = .ok (.if_icmp .ge 25, 3) := by decide +kernel
theorem dX0_pass_32 : decode cX0_pass 32 = .ok (.aload_n 0, 1) := by decide +kernel
theorem dX0_pass_33 : decode cX0_pass 33 = .ok (.iload 4, 2) := by decide +kernel
theorem dX0_pass_35 : decode cX0_pass 35 = .ok (.invokevirtual 56, 3) := by decide +kernel
theorem dX0_pass_38 : decode cX0_pass 38 = .ok (.ifCond .ne 10, 3) := by decide +kernel
theorem dX0_pass_41 : decode cX0_pass 41 = .ok (.aload_n 0, 1) := by decide +kernel
theorem dX0_pass_42 : decode cX0_pass 42 = .ok (.iload 4, 2) := by decide +kernel
theorem dX0_pass_44 : decode cX0_pass 44 = .ok (.aload_n 2, 1) := by decide +kernel
theorem dX0_pass_45 : decode cX0_pass 45 = .ok (.invokevirtual 60, 3) := by decide +kernel
theorem dX0_pass_48 : decode cX0_pass 48 = .ok (.iinc 4 1, 3) := by decide +kernel
theorem dX0_pass_51 : decode cX0_pass 51 = .ok (.goto (-28), 3) := by decide +kernel
theorem dX0_pass_54 : decode cX0_pass 54 = .ok (.aload_n 0, 1) := by decide +kernel
theorem dX0_pass_55 : decode cX0_pass 55 = .ok (.invokevirtual 47, 3) := by decide +kernel
theorem dX0_pass_58 : decode cX0_pass 58 = .ok (.iload_n 3, 1) := by decide +kernel
theorem dX0_pass_59 : decode cX0_pass 59 = .ok (.isub, 1) := by decide +kernel
theorem dX0_pass_60 : decode cX0_pass 60 = .ok (.ireturn, 1) := by decide +kernel
theorem dX0_meet_0 : decode cX0_meet 0 = .ok (.aload_n 0, 1) := by decide +kernel
theorem dX0_meet_1 : decode cX0_meet 1 = .ok (.getfield 9, 3) := by decide +kernel
theorem dX0_meet_4 : decode cX0_meet 4 = .ok (.iload_n 1, 1) := by decide +kernel
theorem dX0_meet_5 : decode cX0_meet 5 = .ok (.aload_n 2, 1) := by decide +kernel
theorem dX0_meet_6 : decode cX0_meet 6 = .ok (.iload_n 1, 1) := by decide +kernel
theorem dX0_meet_7 : decode cX0_meet 7 = .ok (.aload_n 0, 1) := by decide +kernel
theorem dX0_meet_8 : decode cX0_meet 8 = .ok (.getfield 9, 3) := by decide +kernel
theorem dX0_meet_11 : decode cX0_meet 11 = .ok (.iload_n 1, 1) := by decide +kernel
theorem dX0_meet_12 : decode cX0_meet 12 = .ok (.iaload, 1) := by decide +kernel
theorem dX0_meet_13 : decode cX0_meet 13 = .ok (.aload_n 2, 1) := by decide +kernel
theorem dX0_meet_14 : decode cX0_meet 14 = .ok (.getfield 64, 3) := by decide +kernel
theorem dX0_meet_17 : decode cX0_meet 17 = .ok (.iload_n 1, 1) := by decide +kernel
theorem dX0_meet_18 : decode cX0_meet 18 = .ok (.iaload, 1) := by decide +kernel
theorem dX0_meet_19 : decode cX0_meet 19 = .ok (.aload_n 0, 1) := by decide +kernel
theorem dX0_meet_20 : decode cX0_meet 20 = .ok (.getfield 15, 3) := by decide +kernel
theorem dX0_meet_23 : decode cX0_meet 23 = .ok (.if_icmp .ne 7, 3) := by decide +kernel
theorem dX0_meet_26 : decode cX0_meet 26 = .ok (.iconst 1, 1) := by decide +kernel
theorem dX0_meet_27 : decode cX0_meet 27 = .ok (.goto 4, 3) := by decide +kernel
theorem dX0_meet_30 : decode cX0_meet 30 = .ok (.iconst 0, 1) := by decide +kernel
theorem dX0_meet_31 : decode cX0_meet 31 = .ok (.aload_n 0, 1) := by decide +kernel
theorem dX0_meet_32 : decode cX0_meet 32 = .ok (.getfield 19, 3) := by decide +kernel
theorem dX0_meet_35 : decode cX0_meet 35 = .ok (.invokevirtual 67, 3) := by decide +kernel
theorem dX0_meet_38 : decode cX0_meet 38 = .ok (.iastore, 1) := by decide +kernel
theorem dX0_meet_39 : decode cX0_meet 39 = .ok (.aload_n 0, 1) := by decide +kernel
theorem dX0_meet_40 : decode cX0_meet 40 = .ok (.getfield 9, 3) := by decide +kernel
theorem dX0_meet_43 : decode cX0_meet 43 = .ok (.iload_n 1, 1) := by decide +kernel
theorem dX0_meet_44 : decode cX0_meet 44 = .ok (.iaload, 1) := by decide +kernel
theorem dX0_meet_45 : decode cX0_meet 45 = .ok (.aload_n 2, 1) := by decide +kernel
theorem dX0_meet_46 : decode cX0_meet 46 = .ok (.iload_n 1, 1) := by decide +kernel
theorem dX0_meet_47 : decode cX0_meet 47 = .ok (.invokevirtual 71, 3) := by decide +kernel
theorem dX0_meet_50 : decode cX0_meet 50 = .ok (.if_icmp .lt 15, 3) := by decide +kernel
theorem dX0_meet_53 : decode cX0_meet 53 = .ok (.aload_n 0, 1) := by decide +kernel
theorem dX0_meet_54 : decode cX0_meet 54 = .ok (.dup, 1) := by decide +kernel
theorem dX0_meet_55 : decode cX0_meet 55 = .ok (.getfield 22, 3) := by decide +kernel
theorem dX0_meet_58 : decode cX0_meet 58 = .ok (.iconst 1, 1) := by decide +kernel
theorem dX0_meet_59 : decode cX0_meet 59 = .ok (.iload_n 1, 1) := by decide +kernel
theorem dX0_meet_60 : decode cX0_meet 60 = .ok (.ishl, 1) := by decide +kernel
theorem dX0_meet_61 : decode cX0_meet 61 = .ok (.ior, 1) := by decide +kernel
theorem dX0_meet_62 : decode cX0_meet 62 = .ok (.putfield 22, 3) := by decide +kernel
theorem dX0_meet_65 : decode cX0_meet 65 = .ok (.return_, 1) := by decide +kernel
theorem dX0_countedByAll_0 : decode cX0_countedByAll 0 = .ok (.aload_n 0, 1) := by decide +kernel
theorem dX0_countedByAll_1 : decode cX0_countedByAll 1 = .ok (.iconst 0, 1) := by decide +kernel
theorem dX0_countedByAll_2 : decode cX0_countedByAll 2 = .ok (.invokevirtual 74, 3) := by decide +kernel
theorem dX0_countedByAll_5 : decode cX0_countedByAll 5 = .ok (.ireturn, 1) := by decide +kernel
theorem dX0_countedByUnserved_0 : decode cX0_countedByUnserved 0 = .ok (.aload_n 0, 1) := by decide +kernel
theorem dX0_countedByUnserved_1 : decode cX0_countedByUnserved 1 = .ok (.aload_n 0, 1) := by decide +kernel
theorem dX0_countedByUnserved_2 : decode cX0_countedByUnserved 2 = .ok (.getfield 22, 3) := by decide +kernel
theorem dX0_countedByUnserved_5 : decode cX0_countedByUnserved 5 = .ok (.invokevirtual 74, 3) := by decide +kernel
theorem dX0_countedByUnserved_8 : decode cX0_countedByUnserved 8 = .ok (.ireturn, 1) := by decide +kernel
theorem dX0_countedBy_0 : decode cX0_countedBy 0 = .ok (.iconst 0, 1) := by decide +kernel
theorem dX0_countedBy_1 : decode cX0_countedBy 1 = .ok (.istore_n 2, 1) := by decide +kernel
theorem dX0_countedBy_2 : decode cX0_countedBy 2 = .ok (.iconst 0, 1) := by decide +kernel
theorem dX0_countedBy_3 : decode cX0_countedBy 3 = .ok (.istore_n 3, 1) := by decide +kernel
theorem dX0_countedBy_4 : decode cX0_countedBy 4 = .ok (.iload_n 3, 1) := by decide +kernel
theorem dX0_countedBy_5 : decode cX0_countedBy 5 = .ok (.bipush 6, 2) := by decide +kernel
theorem dX0_countedBy_7 : decode cX0_countedBy 7 = .ok (.if_icmp .ge 26, 3) := by decide +kernel
theorem dX0_countedBy_10 : decode cX0_countedBy 10 = .ok (.iload_n 1, 1) := by decide +kernel
theorem dX0_countedBy_11 : decode cX0_countedBy 11 = .ok (.iload_n 3, 1) := by decide +kernel
theorem dX0_countedBy_12 : decode cX0_countedBy 12 = .ok (.invokestatic 37, 3) := by decide +kernel
theorem dX0_countedBy_15 : decode cX0_countedBy 15 = .ok (.ifCond .ne 12, 3) := by decide +kernel
theorem dX0_countedBy_18 : decode cX0_countedBy 18 = .ok (.iload_n 2, 1) := by decide +kernel
theorem dX0_countedBy_19 : decode cX0_countedBy 19 = .ok (.aload_n 0, 1) := by decide +kernel
theorem dX0_countedBy_20 : decode cX0_countedBy 20 = .ok (.getfield 9, 3) := by decide +kernel
theorem dX0_countedBy_23 : decode cX0_countedBy 23 = .ok (.iload_n 3, 1) := by decide +kernel
theorem dX0_countedBy_24 : decode cX0_countedBy 24 = .ok (.iaload, 1) := by decide +kernel
theorem dX0_countedBy_25 : decode cX0_countedBy 25 = .ok (.iadd, 1) := by decide +kernel
theorem dX0_countedBy_26 : decode cX0_countedBy 26 = .ok (.istore_n 2, 1) := by decide +kernel
theorem dX0_countedBy_27 : decode cX0_countedBy 27 = .ok (.iinc 3 1, 3) := by decide +kernel
theorem dX0_countedBy_30 : decode cX0_countedBy 30 = .ok (.goto (-26), 3) := by decide +kernel
theorem dX0_countedBy_33 : decode cX0_countedBy 33 = .ok (.iload_n 2, 1) := by decide +kernel
theorem dX0_countedBy_34 : decode cX0_countedBy 34 = .ok (.ireturn, 1) := by decide +kernel
theorem dX1_init_0 : decode cX1_init 0 = .ok (.aload_n 0, 1) := by decide +kernel
theorem dX1_init_1 : decode cX1_init 1 = .ok (.invokespecial 3, 3) := by decide +kernel
theorem dX1_init_4 : decode cX1_init 4 = .ok (.aload_n 0, 1) := by decide +kernel
theorem dX1_init_5 : decode cX1_init 5 = .ok (.bipush 6, 2) := by decide +kernel
theorem dX1_init_7 : decode cX1_init 7 = .ok (.newarray .int, 2) := by decide +kernel
theorem dX1_init_9 : decode cX1_init 9 = .ok (.putfield 9, 3) := by decide +kernel
theorem dX1_init_12 : decode cX1_init 12 = .ok (.aload_n 0, 1) := by decide +kernel
theorem dX1_init_13 : decode cX1_init 13 = .ok (.bipush 6, 2) := by decide +kernel
theorem dX1_init_15 : decode cX1_init 15 = .ok (.newarray .int, 2) := by decide +kernel
theorem dX1_init_17 : decode cX1_init 17 = .ok (.putfield 15, 3) := by decide +kernel
theorem dX1_init_20 : decode cX1_init 20 = .ok (.aload_n 0, 1) := by decide +kernel
theorem dX1_init_21 : decode cX1_init 21 = .ok (.bipush 6, 2) := by decide +kernel
theorem dX1_init_23 : decode cX1_init 23 = .ok (.newarray .int, 2) := by decide +kernel
theorem dX1_init_25 : decode cX1_init 25 = .ok (.putfield 18, 3) := by decide +kernel
theorem dX1_init_28 : decode cX1_init 28 = .ok (.aload_n 0, 1) := by decide +kernel
theorem dX1_init_29 : decode cX1_init 29 = .ok (.bipush 6, 2) := by decide +kernel
theorem dX1_init_31 : decode cX1_init 31 = .ok (.newarray .int, 2) := by decide +kernel
theorem dX1_init_33 : decode cX1_init 33 = .ok (.putfield 21, 3) := by decide +kernel
theorem dX1_init_36 : decode cX1_init 36 = .ok (.return_, 1) := by decide +kernel
theorem dX1_settle_0 : decode cX1_settle 0 = .ok (.aload_n 0, 1) := by decide +kernel
theorem dX1_settle_1 : decode cX1_settle 1 = .ok (.aload_n 1, 1) := by decide +kernel
theorem dX1_settle_2 : decode cX1_settle 2 = .ok (.getfield 24, 3) := by decide +kernel
theorem dX1_settle_5 : decode cX1_settle 5 = .ok (.putfield 30, 3) := by decide +kernel
theorem dX1_settle_8 : decode cX1_settle 8 = .ok (.iconst 0, 1) := by decide +kernel
theorem dX1_settle_9 : decode cX1_settle 9 = .ok (.istore_n 2, 1) := by decide +kernel
theorem dX1_settle_10 : decode cX1_settle 10 = .ok (.iload_n 2, 1) := by decide +kernel
theorem dX1_settle_11 : decode cX1_settle 11 = .ok (.aload_n 0, 1) := by decide +kernel
theorem dX1_settle_12 : decode cX1_settle 12 = .ok (.getfield 30, 3) := by decide +kernel
theorem dX1_settle_15 : decode cX1_settle 15 = .ok (.if_icmp .ge 65, 3) := by decide +kernel
theorem dX1_settle_18 : decode cX1_settle 18 = .ok (.aload_n 1, 1) := by decide +kernel
theorem dX1_settle_19 : decode cX1_settle 19 = .ok (.iload_n 2, 1) := by decide +kernel
theorem dX1_settle_20 : decode cX1_settle 20 = .ok (.invokevirtual 33, 3) := by decide +kernel
theorem dX1_settle_23 : decode cX1_settle 23 = .ok (.istore_n 3, 1) := by decide +kernel
theorem dX1_settle_24 : decode cX1_settle 24 = .ok (.aload_n 0, 1) := by decide +kernel
theorem dX1_settle_25 : decode cX1_settle 25 = .ok (.getfield 15, 3) := by decide +kernel
theorem dX1_settle_28 : decode cX1_settle 28 = .ok (.iload_n 2, 1) := by decide +kernel
theorem dX1_settle_29 : decode cX1_settle 29 = .ok (.aload_n 1, 1) := by decide +kernel
theorem dX1_settle_30 : decode cX1_settle 30 = .ok (.iload_n 3, 1) := by decide +kernel
theorem dX1_settle_31 : decode cX1_settle 31 = .ok (.invokevirtual 37, 3) := by decide +kernel
theorem dX1_settle_34 : decode cX1_settle 34 = .ok (.iastore, 1) := by decide +kernel
theorem dX1_settle_35 : decode cX1_settle 35 = .ok (.aload_n 0, 1) := by decide +kernel
theorem dX1_settle_36 : decode cX1_settle 36 = .ok (.getfield 9, 3) := by decide +kernel
theorem dX1_settle_39 : decode cX1_settle 39 = .ok (.iload_n 2, 1) := by decide +kernel
theorem dX1_settle_40 : decode cX1_settle 40 = .ok (.aload_n 1, 1) := by decide +kernel
theorem dX1_settle_41 : decode cX1_settle 41 = .ok (.iload_n 3, 1) := by decide +kernel
theorem dX1_settle_42 : decode cX1_settle 42 = .ok (.iconst 1, 1) := by decide +kernel
theorem dX1_settle_43 : decode cX1_settle 43 = .ok (.iadd, 1) := by decide +kernel
theorem dX1_settle_44 : decode cX1_settle 44 = .ok (.invokevirtual 40, 3) := by decide +kernel
theorem dX1_settle_47 : decode cX1_settle 47 = .ok (.iastore, 1) := by decide +kernel
theorem dX1_settle_48 : decode cX1_settle 48 = .ok (.aload_n 0, 1) := by decide +kernel
theorem dX1_settle_49 : decode cX1_settle 49 = .ok (.getfield 18, 3) := by decide +kernel
theorem dX1_settle_52 : decode cX1_settle 52 = .ok (.iload_n 2, 1) := by decide +kernel
theorem dX1_settle_53 : decode cX1_settle 53 = .ok (.aload_n 1, 1) := by decide +kernel
theorem dX1_settle_54 : decode cX1_settle 54 = .ok (.iload_n 3, 1) := by decide +kernel
theorem dX1_settle_55 : decode cX1_settle 55 = .ok (.iconst 2, 1) := by decide +kernel
theorem dX1_settle_56 : decode cX1_settle 56 = .ok (.iadd, 1) := by decide +kernel
theorem dX1_settle_57 : decode cX1_settle 57 = .ok (.invokevirtual 40, 3) := by decide +kernel
theorem dX1_settle_60 : decode cX1_settle 60 = .ok (.iastore, 1) := by decide +kernel
theorem dX1_settle_61 : decode cX1_settle 61 = .ok (.aload_n 0, 1) := by decide +kernel
theorem dX1_settle_62 : decode cX1_settle 62 = .ok (.getfield 21, 3) := by decide +kernel
theorem dX1_settle_65 : decode cX1_settle 65 = .ok (.iload_n 2, 1) := by decide +kernel
theorem dX1_settle_66 : decode cX1_settle 66 = .ok (.aload_n 1, 1) := by decide +kernel
theorem dX1_settle_67 : decode cX1_settle 67 = .ok (.iload_n 3, 1) := by decide +kernel
theorem dX1_settle_68 : decode cX1_settle 68 = .ok (.iconst 3, 1) := by decide +kernel
theorem dX1_settle_69 : decode cX1_settle 69 = .ok (.iadd, 1) := by decide +kernel
theorem dX1_settle_70 : decode cX1_settle 70 = .ok (.invokevirtual 40, 3) := by decide +kernel
theorem dX1_settle_73 : decode cX1_settle 73 = .ok (.iastore, 1) := by decide +kernel
theorem dX1_settle_74 : decode cX1_settle 74 = .ok (.iinc 2 1, 3) := by decide +kernel
theorem dX1_settle_77 : decode cX1_settle 77 = .ok (.goto (-67), 3) := by decide +kernel
theorem dX1_settle_80 : decode cX1_settle 80 = .ok (.return_, 1) := by decide +kernel
theorem dX1_copy_0 : decode cX1_copy 0 = .ok (.aload_n 0, 1) := by decide +kernel
theorem dX1_copy_1 : decode cX1_copy 1 = .ok (.aload_n 1, 1) := by decide +kernel
theorem dX1_copy_2 : decode cX1_copy 2 = .ok (.getfield 30, 3) := by decide +kernel
theorem dX1_copy_5 : decode cX1_copy 5 = .ok (.putfield 30, 3) := by decide +kernel
theorem dX1_copy_8 : decode cX1_copy 8 = .ok (.aload_n 1, 1) := by decide +kernel
theorem dX1_copy_9 : decode cX1_copy 9 = .ok (.getfield 9, 3) := by decide +kernel
theorem dX1_copy_12 : decode cX1_copy 12 = .ok (.iconst 0, 1) := by decide +kernel
theorem dX1_copy_13 : decode cX1_copy 13 = .ok (.aload_n 0, 1) := by decide +kernel
theorem dX1_copy_14 : decode cX1_copy 14 = .ok (.getfield 9, 3) := by decide +kernel
theorem dX1_copy_17 : decode cX1_copy 17 = .ok (.iconst 0, 1) := by decide +kernel
theorem dX1_copy_18 : decode cX1_copy 18 = .ok (.bipush 6, 2) := by decide +kernel
theorem dX1_copy_20 : decode cX1_copy 20 = .ok (.invokestatic 43, 3) := by decide +kernel
theorem dX1_copy_23 : decode cX1_copy 23 = .ok (.aload_n 1, 1) := by decide +kernel
theorem dX1_copy_24 : decode cX1_copy 24 = .ok (.getfield 15, 3) := by decide +kernel
theorem dX1_copy_27 : decode cX1_copy 27 = .ok (.iconst 0, 1) := by decide +kernel
theorem dX1_copy_28 : decode cX1_copy 28 = .ok (.aload_n 0, 1) := by decide +kernel
theorem dX1_copy_29 : decode cX1_copy 29 = .ok (.getfield 15, 3) := by decide +kernel
theorem dX1_copy_32 : decode cX1_copy 32 = .ok (.iconst 0, 1) := by decide +kernel
theorem dX1_copy_33 : decode cX1_copy 33 = .ok (.bipush 6, 2) := by decide +kernel
theorem dX1_copy_35 : decode cX1_copy 35 = .ok (.invokestatic 43, 3) := by decide +kernel
theorem dX1_copy_38 : decode cX1_copy 38 = .ok (.aload_n 1, 1) := by decide +kernel
theorem dX1_copy_39 : decode cX1_copy 39 = .ok (.getfield 18, 3) := by decide +kernel
theorem dX1_copy_42 : decode cX1_copy 42 = .ok (.iconst 0, 1) := by decide +kernel
theorem dX1_copy_43 : decode cX1_copy 43 = .ok (.aload_n 0, 1) := by decide +kernel
theorem dX1_copy_44 : decode cX1_copy 44 = .ok (.getfield 18, 3) := by decide +kernel
theorem dX1_copy_47 : decode cX1_copy 47 = .ok (.iconst 0, 1) := by decide +kernel
theorem dX1_copy_48 : decode cX1_copy 48 = .ok (.bipush 6, 2) := by decide +kernel
theorem dX1_copy_50 : decode cX1_copy 50 = .ok (.invokestatic 43, 3) := by decide +kernel
theorem dX1_copy_53 : decode cX1_copy 53 = .ok (.aload_n 1, 1) := by decide +kernel
theorem dX1_copy_54 : decode cX1_copy 54 = .ok (.getfield 21, 3) := by decide +kernel
theorem dX1_copy_57 : decode cX1_copy 57 = .ok (.iconst 0, 1) := by decide +kernel
theorem dX1_copy_58 : decode cX1_copy 58 = .ok (.aload_n 0, 1) := by decide +kernel
theorem dX1_copy_59 : decode cX1_copy 59 = .ok (.getfield 21, 3) := by decide +kernel
theorem dX1_copy_62 : decode cX1_copy 62 = .ok (.iconst 0, 1) := by decide +kernel
theorem dX1_copy_63 : decode cX1_copy 63 = .ok (.bipush 6, 2) := by decide +kernel
theorem dX1_copy_65 : decode cX1_copy 65 = .ok (.invokestatic 43, 3) := by decide +kernel
theorem dX1_copy_68 : decode cX1_copy 68 = .ok (.return_, 1) := by decide +kernel
theorem dX1_needs_0 : decode cX1_needs 0 = .ok (.getstatic 49, 3) := by decide +kernel
theorem dX1_needs_3 : decode cX1_needs 3 = .ok (.aload_n 0, 1) := by decide +kernel
theorem dX1_needs_4 : decode cX1_needs 4 = .ok (.getfield 15, 3) := by decide +kernel
theorem dX1_needs_7 : decode cX1_needs 7 = .ok (.iload_n 1, 1) := by decide +kernel
theorem dX1_needs_8 : decode cX1_needs 8 = .ok (.iaload, 1) := by decide +kernel
theorem dX1_needs_9 : decode cX1_needs 9 = .ok (.iaload, 1) := by decide +kernel
theorem dX1_needs_10 : decode cX1_needs 10 = .ok (.ireturn, 1) := by decide +kernel
theorem dX1_isOfKind_0 : decode cX1_isOfKind 0 = .ok (.iload_n 2, 1) := by decide +kernel
theorem dX1_isOfKind_1 : decode cX1_isOfKind 1 = .ok (.ifCond .eq 28, 3) := by decide +kernel
theorem dX1_isOfKind_4 : decode cX1_isOfKind 4 = .ok (.aload_n 0, 1) := by decide +kernel
theorem dX1_isOfKind_5 : decode cX1_isOfKind 5 = .ok (.getfield 15, 3) := by decide +kernel
theorem dX1_isOfKind_8 : decode cX1_isOfKind 8 = .ok (.iload_n 1, 1) := by decide +kernel
theorem dX1_isOfKind_9 : decode cX1_isOfKind 9 = .ok (.iaload, 1) := by decide +kernel
theorem dX1_isOfKind_10 : decode cX1_isOfKind 10 = .ok (.iload_n 2, 1) := by decide +kernel
theorem dX1_isOfKind_11 : decode cX1_isOfKind 11 = .ok (.if_icmp .eq 18, 3) := by decide +kernel
theorem dX1_isOfKind_14 : decode cX1_isOfKind 14 = .ok (.iload_n 2, 1) := by decide +kernel
theorem dX1_isOfKind_15 : decode cX1_isOfKind 15 = .ok (.iconst 1, 1) := by decide +kernel
theorem dX1_isOfKind_16 : decode cX1_isOfKind 16 = .ok (.if_icmp .ne 17, 3) := by decide +kernel
theorem dX1_isOfKind_19 : decode cX1_isOfKind 19 = .ok (.aload_n 0, 1) := by decide +kernel
theorem dX1_isOfKind_20 : decode cX1_isOfKind 20 = .ok (.getfield 15, 3) := by decide +kernel
theorem dX1_isOfKind_23 : decode cX1_isOfKind 23 = .ok (.iload_n 1, 1) := by decide +kernel
theorem dX1_isOfKind_24 : decode cX1_isOfKind 24 = .ok (.iaload, 1) := by decide +kernel
theorem dX1_isOfKind_25 : decode cX1_isOfKind 25 = .ok (.iconst 4, 1) := by decide +kernel
theorem dX1_isOfKind_26 : decode cX1_isOfKind 26 = .ok (.if_icmp .ne 7, 3) := by decide +kernel
theorem dX1_isOfKind_29 : decode cX1_isOfKind 29 = .ok (.iconst 1, 1) := by decide +kernel
theorem dX1_isOfKind_30 : decode cX1_isOfKind 30 = .ok (.goto 4, 3) := by decide +kernel
theorem dX1_isOfKind_33 : decode cX1_isOfKind 33 = .ok (.iconst 0, 1) := by decide +kernel
theorem dX1_isOfKind_34 : decode cX1_isOfKind 34 = .ok (.ireturn, 1) := by decide +kernel
theorem dX1_whoLivesAt_0 : decode cX1_whoLivesAt 0 = .ok (.iconst 0, 1) := by decide +kernel
theorem dX1_whoLivesAt_1 : decode cX1_whoLivesAt 1 = .ok (.istore_n 2, 1) := by decide +kernel
theorem dX1_whoLivesAt_2 : decode cX1_whoLivesAt 2 = .ok (.iconst 0, 1) := by decide +kernel
theorem dX1_whoLivesAt_3 : decode cX1_whoLivesAt 3 = .ok (.istore_n 3, 1) := by decide +kernel
theorem dX1_whoLivesAt_4 : decode cX1_whoLivesAt 4 = .ok (.iload_n 3, 1) := by decide +kernel
theorem dX1_whoLivesAt_5 : decode cX1_whoLivesAt 5 = .ok (.aload_n 0, 1) := by decide +kernel
theorem dX1_whoLivesAt_6 : decode cX1_whoLivesAt 6 = .ok (.getfield 30, 3) := by decide +kernel
theorem dX1_whoLivesAt_9 : decode cX1_whoLivesAt 9 = .ok (.if_icmp .ge 25, 3) := by decide +kernel
theorem dX1_whoLivesAt_12 : decode cX1_whoLivesAt 12 = .ok (.aload_n 0, 1) := by decide +kernel
theorem dX1_whoLivesAt_13 : decode cX1_whoLivesAt 13 = .ok (.getfield 9, 3) := by decide +kernel
theorem dX1_whoLivesAt_16 : decode cX1_whoLivesAt 16 = .ok (.iload_n 3, 1) := by decide +kernel
theorem dX1_whoLivesAt_17 : decode cX1_whoLivesAt 17 = .ok (.iaload, 1) := by decide +kernel
theorem dX1_whoLivesAt_18 : decode cX1_whoLivesAt 18 = .ok (.iload_n 1, 1) := by decide +kernel
theorem dX1_whoLivesAt_19 : decode cX1_whoLivesAt 19 = .ok (.if_icmp .ne 9, 3) := by decide +kernel
theorem dX1_whoLivesAt_22 : decode cX1_whoLivesAt 22 = .ok (.iload_n 2, 1) := by decide +kernel
theorem dX1_whoLivesAt_23 : decode cX1_whoLivesAt 23 = .ok (.iconst 1, 1) := by decide +kernel
theorem dX1_whoLivesAt_24 : decode cX1_whoLivesAt 24 = .ok (.iload_n 3, 1) := by decide +kernel
theorem dX1_whoLivesAt_25 : decode cX1_whoLivesAt 25 = .ok (.ishl, 1) := by decide +kernel
theorem dX1_whoLivesAt_26 : decode cX1_whoLivesAt 26 = .ok (.ior, 1) := by decide +kernel
theorem dX1_whoLivesAt_27 : decode cX1_whoLivesAt 27 = .ok (.istore_n 2, 1) := by decide +kernel
theorem dX1_whoLivesAt_28 : decode cX1_whoLivesAt 28 = .ok (.iinc 3 1, 3) := by decide +kernel
theorem dX1_whoLivesAt_31 : decode cX1_whoLivesAt 31 = .ok (.goto (-27), 3) := by decide +kernel
theorem dX1_whoLivesAt_34 : decode cX1_whoLivesAt 34 = .ok (.iload_n 2, 1) := by decide +kernel
theorem dX1_whoLivesAt_35 : decode cX1_whoLivesAt 35 = .ok (.ireturn, 1) := by decide +kernel
theorem dX1_countedAfter_0 : decode cX1_countedAfter 0 = .ok (.iload_n 3, 1) := by decide +kernel
theorem dX1_countedAfter_1 : decode cX1_countedAfter 1 = .ok (.ifCond .ne 19, 3) := by decide +kernel
theorem dX1_countedAfter_4 : decode cX1_countedAfter 4 = .ok (.aload_n 0, 1) := by decide +kernel
theorem dX1_countedAfter_5 : decode cX1_countedAfter 5 = .ok (.getfield 15, 3) := by decide +kernel
theorem dX1_countedAfter_8 : decode cX1_countedAfter 8 = .ok (.iload_n 1, 1) := by decide +kernel
theorem dX1_countedAfter_9 : decode cX1_countedAfter 9 = .ok (.iaload, 1) := by decide +kernel
theorem dX1_countedAfter_10 : decode cX1_countedAfter 10 = .ok (.iconst 3, 1) := by decide +kernel
theorem dX1_countedAfter_11 : decode cX1_countedAfter 11 = .ok (.if_icmp .ne 7, 3) := by decide +kernel
theorem dX1_countedAfter_14 : decode cX1_countedAfter 14 = .ok (.iconst 0, 1) := by decide +kernel
theorem dX1_countedAfter_15 : decode cX1_countedAfter 15 = .ok (.goto 4, 3) := by decide +kernel
theorem dX1_countedAfter_18 : decode cX1_countedAfter 18 = .ok (.iload_n 2, 1) := by decide +kernel
theorem dX1_countedAfter_19 : decode cX1_countedAfter 19 = .ok (.ireturn, 1) := by decide +kernel
theorem dX1_countedAfter_20 : decode cX1_countedAfter 20 = .ok (.iload 4, 2) := by decide +kernel
theorem dX1_countedAfter_22 : decode cX1_countedAfter 22 = .ok (.aload_n 0, 1) := by decide +kernel
theorem dX1_countedAfter_23 : decode cX1_countedAfter 23 = .ok (.getfield 18, 3) := by decide +kernel
theorem dX1_countedAfter_26 : decode cX1_countedAfter 26 = .ok (.iload_n 1, 1) := by decide +kernel
theorem dX1_countedAfter_27 : decode cX1_countedAfter 27 = .ok (.iaload, 1) := by decide +kernel
theorem dX1_countedAfter_28 : decode cX1_countedAfter 28 = .ok (.if_icmp .lt 24, 3) := by decide +kernel
theorem dX1_countedAfter_31 : decode cX1_countedAfter 31 = .ok (.aload_n 0, 1) := by decide +kernel
theorem dX1_countedAfter_32 : decode cX1_countedAfter 32 = .ok (.getfield 15, 3) := by decide +kernel
theorem dX1_countedAfter_35 : decode cX1_countedAfter 35 = .ok (.iload_n 1, 1) := by decide +kernel
theorem dX1_countedAfter_36 : decode cX1_countedAfter 36 = .ok (.iaload, 1) := by decide +kernel
theorem dX1_countedAfter_37 : decode cX1_countedAfter 37 = .ok (.iconst 2, 1) := by decide +kernel
theorem dX1_countedAfter_38 : decode cX1_countedAfter 38 = .ok (.if_icmp .ne 10, 3) := by decide +kernel
theorem dX1_countedAfter_41 : decode cX1_countedAfter 41 = .ok (.iload 4, 2) := by decide +kernel
theorem dX1_countedAfter_43 : decode cX1_countedAfter 43 = .ok (.iconst 2, 1) := by decide +kernel
theorem dX1_countedAfter_44 : decode cX1_countedAfter 44 = .ok (.irem, 1) := by decide +kernel
theorem dX1_countedAfter_45 : decode cX1_countedAfter 45 = .ok (.ifCond .eq 7, 3) := by decide +kernel
theorem dX1_countedAfter_48 : decode cX1_countedAfter 48 = .ok (.iconst 1, 1) := by decide +kernel
theorem dX1_countedAfter_49 : decode cX1_countedAfter 49 = .ok (.goto 4, 3) := by decide +kernel
theorem dX1_countedAfter_52 : decode cX1_countedAfter 52 = .ok (.iconst 0, 1) := by decide +kernel
theorem dX1_countedAfter_53 : decode cX1_countedAfter 53 = .ok (.istore 5, 2) := by decide +kernel
theorem dX1_countedAfter_55 : decode cX1_countedAfter 55 = .ok (.iload 5, 2) := by decide +kernel
theorem dX1_countedAfter_57 : decode cX1_countedAfter 57 = .ok (.ifCond .eq 9, 3) := by decide +kernel
theorem dX1_countedAfter_60 : decode cX1_countedAfter 60 = .ok (.iload_n 2, 1) := by decide +kernel
theorem dX1_countedAfter_61 : decode cX1_countedAfter 61 = .ok (.iconst 1, 1) := by decide +kernel
theorem dX1_countedAfter_62 : decode cX1_countedAfter 62 = .ok (.iadd, 1) := by decide +kernel
theorem dX1_countedAfter_63 : decode cX1_countedAfter 63 = .ok (.goto 4, 3) := by decide +kernel
theorem dX1_countedAfter_66 : decode cX1_countedAfter 66 = .ok (.iload_n 2, 1) := by decide +kernel
theorem dX1_countedAfter_67 : decode cX1_countedAfter 67 = .ok (.ireturn, 1) := by decide +kernel
theorem dX2_init_0 : decode cX2_init 0 = .ok (.aload_n 0, 1) := by decide +kernel
theorem dX2_init_1 : decode cX2_init 1 = .ok (.invokespecial 3, 3) := by decide +kernel
theorem dX2_init_4 : decode cX2_init 4 = .ok (.aload_n 0, 1) := by decide +kernel
theorem dX2_init_5 : decode cX2_init 5 = .ok (.bipush 6, 2) := by decide +kernel
theorem dX2_init_7 : decode cX2_init 7 = .ok (.newarray .int, 2) := by decide +kernel
theorem dX2_init_9 : decode cX2_init 9 = .ok (.putfield 9, 3) := by decide +kernel
theorem dX2_init_12 : decode cX2_init 12 = .ok (.aload_n 0, 1) := by decide +kernel
theorem dX2_init_13 : decode cX2_init 13 = .ok (.bipush 6, 2) := by decide +kernel
theorem dX2_init_15 : decode cX2_init 15 = .ok (.newarray .boolean, 2) := by decide +kernel
theorem dX2_init_17 : decode cX2_init 17 = .ok (.putfield 15, 3) := by decide +kernel
theorem dX2_init_20 : decode cX2_init 20 = .ok (.return_, 1) := by decide +kernel
theorem dX2_copy_0 : decode cX2_copy 0 = .ok (.aload_n 0, 1) := by decide +kernel
theorem dX2_copy_1 : decode cX2_copy 1 = .ok (.aload_n 1, 1) := by decide +kernel
theorem dX2_copy_2 : decode cX2_copy 2 = .ok (.getfield 19, 3) := by decide +kernel
theorem dX2_copy_5 : decode cX2_copy 5 = .ok (.putfield 19, 3) := by decide +kernel
theorem dX2_copy_8 : decode cX2_copy 8 = .ok (.iconst 0, 1) := by decide +kernel
theorem dX2_copy_9 : decode cX2_copy 9 = .ok (.istore_n 2, 1) := by decide +kernel
theorem dX2_copy_10 : decode cX2_copy 10 = .ok (.iload_n 2, 1) := by decide +kernel
theorem dX2_copy_11 : decode cX2_copy 11 = .ok (.bipush 6, 2) := by decide +kernel
theorem dX2_copy_13 : decode cX2_copy 13 = .ok (.if_icmp .ge 33, 3) := by decide +kernel
theorem dX2_copy_16 : decode cX2_copy 16 = .ok (.aload_n 0, 1) := by decide +kernel
theorem dX2_copy_17 : decode cX2_copy 17 = .ok (.getfield 9, 3) := by decide +kernel
theorem dX2_copy_20 : decode cX2_copy 20 = .ok (.iload_n 2, 1) := by decide +kernel
theorem dX2_copy_21 : decode cX2_copy 21 = .ok (.aload_n 1, 1) := by decide +kernel
theorem dX2_copy_22 : decode cX2_copy 22 = .ok (.getfield 9, 3) := by decide +kernel
theorem dX2_copy_25 : decode cX2_copy 25 = .ok (.iload_n 2, 1) := by decide +kernel
theorem dX2_copy_26 : decode cX2_copy 26 = .ok (.iaload, 1) := by decide +kernel
theorem dX2_copy_27 : decode cX2_copy 27 = .ok (.iastore, 1) := by decide +kernel
theorem dX2_copy_28 : decode cX2_copy 28 = .ok (.aload_n 0, 1) := by decide +kernel
theorem dX2_copy_29 : decode cX2_copy 29 = .ok (.getfield 15, 3) := by decide +kernel
theorem dX2_copy_32 : decode cX2_copy 32 = .ok (.iload_n 2, 1) := by decide +kernel
theorem dX2_copy_33 : decode cX2_copy 33 = .ok (.aload_n 1, 1) := by decide +kernel
theorem dX2_copy_34 : decode cX2_copy 34 = .ok (.getfield 15, 3) := by decide +kernel
theorem dX2_copy_37 : decode cX2_copy 37 = .ok (.iload_n 2, 1) := by decide +kernel
theorem dX2_copy_38 : decode cX2_copy 38 = .ok (.baload, 1) := by decide +kernel
theorem dX2_copy_39 : decode cX2_copy 39 = .ok (.bastore, 1) := by decide +kernel
theorem dX2_copy_40 : decode cX2_copy 40 = .ok (.iinc 2 1, 3) := by decide +kernel
theorem dX2_copy_43 : decode cX2_copy 43 = .ok (.goto (-33), 3) := by decide +kernel
theorem dX2_copy_46 : decode cX2_copy 46 = .ok (.return_, 1) := by decide +kernel
theorem dX3_init_0 : decode cX3_init 0 = .ok (.aload_n 0, 1) := by decide +kernel
theorem dX3_init_1 : decode cX3_init 1 = .ok (.invokespecial 3, 3) := by decide +kernel
theorem dX3_init_4 : decode cX3_init 4 = .ok (.aload_n 0, 1) := by decide +kernel
theorem dX3_init_5 : decode cX3_init 5 = .ok (.bipush 60, 2) := by decide +kernel
theorem dX3_init_7 : decode cX3_init 7 = .ok (.newarray .int, 2) := by decide +kernel
theorem dX3_init_9 : decode cX3_init 9 = .ok (.putfield 9, 3) := by decide +kernel
theorem dX3_init_12 : decode cX3_init 12 = .ok (.return_, 1) := by decide +kernel
theorem dX3_firstFault_0 : decode cX3_firstFault 0 = .ok (.aload_n 0, 1) := by decide +kernel
theorem dX3_firstFault_1 : decode cX3_firstFault 1 = .ok (.iconst 0, 1) := by decide +kernel
theorem dX3_firstFault_2 : decode cX3_firstFault 2 = .ok (.putfield 15, 3) := by decide +kernel
theorem dX3_firstFault_5 : decode cX3_firstFault 5 = .ok (.aload_n 0, 1) := by decide +kernel
theorem dX3_firstFault_6 : decode cX3_firstFault 6 = .ok (.iconst 0, 1) := by decide +kernel
theorem dX3_firstFault_7 : decode cX3_firstFault 7 = .ok (.putfield 19, 3) := by decide +kernel
theorem dX3_firstFault_10 : decode cX3_firstFault 10 = .ok (.aload_n 0, 1) := by decide +kernel
theorem dX3_firstFault_11 : decode cX3_firstFault 11 = .ok (.iconst (-1), 1) := by decide +kernel
theorem dX3_firstFault_12 : decode cX3_firstFault 12 = .ok (.putfield 22, 3) := by decide +kernel
theorem dX3_firstFault_15 : decode cX3_firstFault 15 = .ok (.iconst 0, 1) := by decide +kernel
theorem dX3_firstFault_16 : decode cX3_firstFault 16 = .ok (.istore_n 1, 1) := by decide +kernel
theorem dX3_firstFault_17 : decode cX3_firstFault 17 = .ok (.iload_n 1, 1) := by decide +kernel
theorem dX3_firstFault_18 : decode cX3_firstFault 18 = .ok (.aload_n 0, 1) := by decide +kernel
theorem dX3_firstFault_19 : decode cX3_firstFault 19 = .ok (.getfield 25, 3) := by decide +kernel
theorem dX3_firstFault_22 : decode cX3_firstFault 22 = .ok (.if_icmp .ge 19, 3) := by decide +kernel
theorem dX3_firstFault_25 : decode cX3_firstFault 25 = .ok (.aload_n 0, 1) := by decide +kernel
theorem dX3_firstFault_26 : decode cX3_firstFault 26 = .ok (.iload_n 1, 1) := by decide +kernel
theorem dX3_firstFault_27 : decode cX3_firstFault 27 = .ok (.invokevirtual 28, 3) := by decide +kernel
theorem dX3_firstFault_30 : decode cX3_firstFault 30 = .ok (.ifCond .ne 5, 3) := by decide +kernel
theorem dX3_firstFault_33 : decode cX3_firstFault 33 = .ok (.iload_n 1, 1) := by decide +kernel
theorem dX3_firstFault_34 : decode cX3_firstFault 34 = .ok (.ireturn, 1) := by decide +kernel
theorem dX3_firstFault_35 : decode cX3_firstFault 35 = .ok (.iinc 1 1, 3) := by decide +kernel
theorem dX3_firstFault_38 : decode cX3_firstFault 38 = .ok (.goto (-21), 3) := by decide +kernel
theorem dX3_firstFault_41 : decode cX3_firstFault 41 = .ok (.aload_n 0, 1) := by decide +kernel
theorem dX3_firstFault_42 : decode cX3_firstFault 42 = .ok (.getfield 25, 3) := by decide +kernel
theorem dX3_firstFault_45 : decode cX3_firstFault 45 = .ok (.ireturn, 1) := by decide +kernel
theorem dX3_isSuburb_0 : decode cX3_isSuburb 0 = .ok (.aload_n 0, 1) := by decide +kernel
theorem dX3_isSuburb_1 : decode cX3_isSuburb 1 = .ok (.invokevirtual 32, 3) := by decide +kernel
theorem dX3_isSuburb_4 : decode cX3_isSuburb 4 = .ok (.aload_n 0, 1) := by decide +kernel
theorem dX3_isSuburb_5 : decode cX3_isSuburb 5 = .ok (.getfield 25, 3) := by decide +kernel
theorem dX3_isSuburb_8 : decode cX3_isSuburb 8 = .ok (.if_icmp .ne 32, 3) := by decide +kernel
theorem dX3_isSuburb_11 : decode cX3_isSuburb 11 = .ok (.aload_n 0, 1) := by decide +kernel
theorem dX3_isSuburb_12 : decode cX3_isSuburb 12 = .ok (.getfield 19, 3) := by decide +kernel
theorem dX3_isSuburb_15 : decode cX3_isSuburb 15 = .ok (.iconst 2, 1) := by decide +kernel
theorem dX3_isSuburb_16 : decode cX3_isSuburb 16 = .ok (.if_icmp .lt 24, 3) := by decide +kernel
theorem dX3_isSuburb_19 : decode cX3_isSuburb 19 = .ok (.aload_n 0, 1) := by decide +kernel
theorem dX3_isSuburb_20 : decode cX3_isSuburb 20 = .ok (.getfield 25, 3) := by decide +kernel
theorem dX3_isSuburb_23 : decode cX3_isSuburb 23 = .ok (.aload_n 0, 1) := by decide +kernel
theorem dX3_isSuburb_24 : decode cX3_isSuburb 24 = .ok (.aload_n 0, 1) := by decide +kernel
theorem dX3_isSuburb_25 : decode cX3_isSuburb 25 = .ok (.getfield 19, 3) := by decide +kernel
theorem dX3_isSuburb_28 : decode cX3_isSuburb 28 = .ok (.invokevirtual 36, 3) := by decide +kernel
theorem dX3_isSuburb_31 : decode cX3_isSuburb 31 = .ok (.iconst 1, 1) := by decide +kernel
theorem dX3_isSuburb_32 : decode cX3_isSuburb 32 = .ok (.isub, 1) := by decide +kernel
theorem dX3_isSuburb_33 : decode cX3_isSuburb 33 = .ok (.if_icmp .ne 7, 3) := by decide +kernel
theorem dX3_isSuburb_36 : decode cX3_isSuburb 36 = .ok (.iconst 1, 1) := by decide +kernel
theorem dX3_isSuburb_37 : decode cX3_isSuburb 37 = .ok (.goto 4, 3) := by decide +kernel
theorem dX3_isSuburb_40 : decode cX3_isSuburb 40 = .ok (.iconst 0, 1) := by decide +kernel
theorem dX3_isSuburb_41 : decode cX3_isSuburb 41 = .ok (.ireturn, 1) := by decide +kernel
theorem dX3_roadStart_0 : decode cX3_roadStart 0 = .ok (.iconst 3, 1) := by decide +kernel
theorem dX3_roadStart_1 : decode cX3_roadStart 1 = .ok (.iconst 3, 1) := by decide +kernel
theorem dX3_roadStart_2 : decode cX3_roadStart 2 = .ok (.iload_n 1, 1) := by decide +kernel
theorem dX3_roadStart_3 : decode cX3_roadStart 3 = .ok (.imul, 1) := by decide +kernel
theorem dX3_roadStart_4 : decode cX3_roadStart 4 = .ok (.iadd, 1) := by decide +kernel
theorem dX3_roadStart_5 : decode cX3_roadStart 5 = .ok (.ireturn, 1) := by decide +kernel
theorem dX3_personStart_0 : decode cX3_personStart 0 = .ok (.aload_n 0, 1) := by decide +kernel
theorem dX3_personStart_1 : decode cX3_personStart 1 = .ok (.getfield 22, 3) := by decide +kernel
theorem dX3_personStart_4 : decode cX3_personStart 4 = .ok (.iconst 5, 1) := by decide +kernel
theorem dX3_personStart_5 : decode cX3_personStart 5 = .ok (.iload_n 1, 1) := by decide +kernel
theorem dX3_personStart_6 : decode cX3_personStart 6 = .ok (.imul, 1) := by decide +kernel
theorem dX3_personStart_7 : decode cX3_personStart 7 = .ok (.iadd, 1) := by decide +kernel
theorem dX3_personStart_8 : decode cX3_personStart 8 = .ok (.ireturn, 1) := by decide +kernel
theorem dX3_digitAt_0 : decode cX3_digitAt 0 = .ok (.iload_n 1, 1) := by decide +kernel
theorem dX3_digitAt_1 : decode cX3_digitAt 1 = .ok (.ifCond .lt 23, 3) := by decide +kernel
theorem dX3_digitAt_4 : decode cX3_digitAt 4 = .ok (.iload_n 1, 1) := by decide +kernel
theorem dX3_digitAt_5 : decode cX3_digitAt 5 = .ok (.aload_n 0, 1) := by decide +kernel
theorem dX3_digitAt_6 : decode cX3_digitAt 6 = .ok (.getfield 25, 3) := by decide +kernel
theorem dX3_digitAt_9 : decode cX3_digitAt 9 = .ok (.if_icmp .ge 15, 3) := by decide +kernel
theorem dX3_digitAt_12 : decode cX3_digitAt 12 = .ok (.aload_n 0, 1) := by decide +kernel
theorem dX3_digitAt_13 : decode cX3_digitAt 13 = .ok (.getfield 9, 3) := by decide +kernel
theorem dX3_digitAt_16 : decode cX3_digitAt 16 = .ok (.iload_n 1, 1) := by decide +kernel
theorem dX3_digitAt_17 : decode cX3_digitAt 17 = .ok (.iaload, 1) := by decide +kernel
theorem dX3_digitAt_18 : decode cX3_digitAt 18 = .ok (.bipush 48, 2) := by decide +kernel
theorem dX3_digitAt_20 : decode cX3_digitAt 20 = .ok (.isub, 1) := by decide +kernel
theorem dX3_digitAt_21 : decode cX3_digitAt 21 = .ok (.goto 4, 3) := by decide +kernel
theorem dX3_digitAt_24 : decode cX3_digitAt 24 = .ok (.iconst 0, 1) := by decide +kernel
theorem dX3_digitAt_25 : decode cX3_digitAt 25 = .ok (.ireturn, 1) := by decide +kernel
theorem dX3_kindAt_0 : decode cX3_kindAt 0 = .ok (.iload_n 1, 1) := by decide +kernel
theorem dX3_kindAt_1 : decode cX3_kindAt 1 = .ok (.ifCond .lt 26, 3) := by decide +kernel
theorem dX3_kindAt_4 : decode cX3_kindAt 4 = .ok (.iload_n 1, 1) := by decide +kernel
theorem dX3_kindAt_5 : decode cX3_kindAt 5 = .ok (.aload_n 0, 1) := by decide +kernel
theorem dX3_kindAt_6 : decode cX3_kindAt 6 = .ok (.getfield 25, 3) := by decide +kernel
theorem dX3_kindAt_9 : decode cX3_kindAt 9 = .ok (.if_icmp .ge 18, 3) := by decide +kernel
theorem dX3_kindAt_12 : decode cX3_kindAt 12 = .ok (.ldc 40, 2) := by decide +kernel
theorem dX3_kindAt_14 : decode cX3_kindAt 14 = .ok (.aload_n 0, 1) := by decide +kernel
theorem dX3_kindAt_15 : decode cX3_kindAt 15 = .ok (.getfield 9, 3) := by decide +kernel
theorem dX3_kindAt_18 : decode cX3_kindAt 18 = .ok (.iload_n 1, 1) := by decide +kernel
theorem dX3_kindAt_19 : decode cX3_kindAt 19 = .ok (.iaload, 1) := by decide +kernel
theorem dX3_kindAt_20 : decode cX3_kindAt 20 = .ok (.i2c, 1) := by decide +kernel
theorem dX3_kindAt_21 : decode cX3_kindAt 21 = .ok (.invokevirtual 42, 3) := by decide +kernel
theorem dX3_kindAt_24 : decode cX3_kindAt 24 = .ok (.goto 4, 3) := by decide +kernel
theorem dX3_kindAt_27 : decode cX3_kindAt 27 = .ok (.iconst (-1), 1) := by decide +kernel
theorem dX3_kindAt_28 : decode cX3_kindAt 28 = .ok (.ireturn, 1) := by decide +kernel
theorem dX3_takes_0 : decode cX3_takes 0 = .ok (.iload_n 1, 1) := by decide +kernel
theorem dX3_takes_1 : decode cX3_takes 1 = .ok (.iconst 3, 1) := by decide +kernel
theorem dX3_takes_2 : decode cX3_takes 2 = .ok (.if_icmp .ge 9, 3) := by decide +kernel
theorem dX3_takes_5 : decode cX3_takes 5 = .ok (.aload_n 0, 1) := by decide +kernel
theorem dX3_takes_6 : decode cX3_takes 6 = .ok (.iload_n 1, 1) := by decide +kernel
theorem dX3_takes_7 : decode cX3_takes 7 = .ok (.invokevirtual 47, 3) := by decide +kernel
theorem dX3_takes_10 : decode cX3_takes 10 = .ok (.ireturn, 1) := by decide +kernel
theorem dX3_takes_11 : decode cX3_takes 11 = .ok (.aload_n 0, 1) := by decide +kernel
theorem dX3_takes_12 : decode cX3_takes 12 = .ok (.getfield 22, 3) := by decide +kernel
theorem dX3_takes_15 : decode cX3_takes 15 = .ok (.iconst (-1), 1) := by decide +kernel
theorem dX3_takes_16 : decode cX3_takes 16 = .ok (.if_icmp .ne 11, 3) := by decide +kernel
theorem dX3_takes_19 : decode cX3_takes 19 = .ok (.aload_n 0, 1) := by decide +kernel
theorem dX3_takes_20 : decode cX3_takes 20 = .ok (.iload_n 1, 1) := by decide +kernel
theorem dX3_takes_21 : decode cX3_takes 21 = .ok (.invokevirtual 50, 3) := by decide +kernel
theorem dX3_takes_24 : decode cX3_takes 24 = .ok (.goto 8, 3) := by decide +kernel
theorem dX3_takes_27 : decode cX3_takes 27 = .ok (.aload_n 0, 1) := by decide +kernel
theorem dX3_takes_28 : decode cX3_takes 28 = .ok (.iload_n 1, 1) := by decide +kernel
theorem dX3_takes_29 : decode cX3_takes 29 = .ok (.invokevirtual 53, 3) := by decide +kernel
theorem dX3_takes_32 : decode cX3_takes 32 = .ok (.ireturn, 1) := by decide +kernel
theorem dX3_takesHead_0 : decode cX3_takesHead 0 = .ok (.iload_n 1, 1) := by decide +kernel
theorem dX3_takesHead_1 : decode cX3_takesHead 1 = .ok (.lookupswitch 45 #[(0, 27), (1, 39)], 27) := by decide +kernel
theorem dX3_takesHead_28 : decode cX3_takesHead 28 = .ok (.aload_n 0, 1) := by decide +kernel
theorem dX3_takesHead_29 : decode cX3_takesHead 29 = .ok (.iconst 0, 1) := by decide +kernel
theorem dX3_takesHead_30 : decode cX3_takesHead 30 = .ok (.invokevirtual 56, 3) := by decide +kernel
theorem dX3_takesHead_33 : decode cX3_takesHead 33 = .ok (.iconst 2, 1) := by decide +kernel
theorem dX3_takesHead_34 : decode cX3_takesHead 34 = .ok (.bipush 6, 2) := by decide +kernel
theorem dX3_takesHead_36 : decode cX3_takesHead 36 = .ok (.invokestatic 59, 3) := by decide +kernel
theorem dX3_takesHead_39 : decode cX3_takesHead 39 = .ok (.ireturn, 1) := by decide +kernel
theorem dX3_takesHead_40 : decode cX3_takesHead 40 = .ok (.aload_n 0, 1) := by decide +kernel
theorem dX3_takesHead_41 : decode cX3_takesHead 41 = .ok (.iconst 1, 1) := by decide +kernel
theorem dX3_takesHead_42 : decode cX3_takesHead 42 = .ok (.invokevirtual 63, 3) := by decide +kernel
theorem dX3_takesHead_45 : decode cX3_takesHead 45 = .ok (.ireturn, 1) := by decide +kernel
theorem dX3_takesHead_46 : decode cX3_takesHead 46 = .ok (.aload_n 0, 1) := by decide +kernel
theorem dX3_takesHead_47 : decode cX3_takesHead 47 = .ok (.getfield 9, 3) := by decide +kernel
theorem dX3_takesHead_50 : decode cX3_takesHead 50 = .ok (.iload_n 1, 1) := by decide +kernel
theorem dX3_takesHead_51 : decode cX3_takesHead 51 = .ok (.iaload, 1) := by decide +kernel
theorem dX3_takesHead_52 : decode cX3_takesHead 52 = .ok (.bipush 59, 2) := by decide +kernel
theorem dX3_takesHead_54 : decode cX3_takesHead 54 = .ok (.if_icmp .ne 7, 3) := by decide +kernel
theorem dX3_takesHead_57 : decode cX3_takesHead 57 = .ok (.iconst 1, 1) := by decide +kernel
theorem dX3_takesHead_58 : decode cX3_takesHead 58 = .ok (.goto 4, 3) := by decide +kernel
theorem dX3_takesHead_61 : decode cX3_takesHead 61 = .ok (.iconst 0, 1) := by decide +kernel
theorem dX3_takesHead_62 : decode cX3_takesHead 62 = .ok (.ireturn, 1) := by decide +kernel
theorem dX3_takesRoads_0 : decode cX3_takesRoads 0 = .ok (.iload_n 1, 1) := by decide +kernel
theorem dX3_takesRoads_1 : decode cX3_takesRoads 1 = .ok (.iconst 3, 1) := by decide +kernel
theorem dX3_takesRoads_2 : decode cX3_takesRoads 2 = .ok (.isub, 1) := by decide +kernel
theorem dX3_takesRoads_3 : decode cX3_takesRoads 3 = .ok (.iconst 3, 1) := by decide +kernel
theorem dX3_takesRoads_4 : decode cX3_takesRoads 4 = .ok (.irem, 1) := by decide +kernel
theorem dX3_takesRoads_5 : decode cX3_takesRoads 5 = .ok (.istore_n 2, 1) := by decide +kernel
theorem dX3_takesRoads_6 : decode cX3_takesRoads 6 = .ok (.iload_n 2, 1) := by decide +kernel
theorem dX3_takesRoads_7 : decode cX3_takesRoads 7 = .ok (.ifCond .ne 9, 3) := by decide +kernel
theorem dX3_takesRoads_10 : decode cX3_takesRoads 10 = .ok (.aload_n 0, 1) := by decide +kernel
theorem dX3_takesRoads_11 : decode cX3_takesRoads 11 = .ok (.iload_n 1, 1) := by decide +kernel
theorem dX3_takesRoads_12 : decode cX3_takesRoads 12 = .ok (.invokevirtual 63, 3) := by decide +kernel
theorem dX3_takesRoads_15 : decode cX3_takesRoads 15 = .ok (.ireturn, 1) := by decide +kernel
theorem dX3_takesRoads_16 : decode cX3_takesRoads 16 = .ok (.iload_n 2, 1) := by decide +kernel
theorem dX3_takesRoads_17 : decode cX3_takesRoads 17 = .ok (.iconst 1, 1) := by decide +kernel
theorem dX3_takesRoads_18 : decode cX3_takesRoads 18 = .ok (.if_icmp .ne 34, 3) := by decide +kernel
theorem dX3_takesRoads_21 : decode cX3_takesRoads 21 = .ok (.aload_n 0, 1) := by decide +kernel
theorem dX3_takesRoads_22 : decode cX3_takesRoads 22 = .ok (.iload_n 1, 1) := by decide +kernel
theorem dX3_takesRoads_23 : decode cX3_takesRoads 23 = .ok (.invokevirtual 63, 3) := by decide +kernel
theorem dX3_takesRoads_26 : decode cX3_takesRoads 26 = .ok (.ifCond .eq 24, 3) := by decide +kernel
theorem dX3_takesRoads_29 : decode cX3_takesRoads 29 = .ok (.aload_n 0, 1) := by decide +kernel
theorem dX3_takesRoads_30 : decode cX3_takesRoads 30 = .ok (.getfield 9, 3) := by decide +kernel
theorem dX3_takesRoads_33 : decode cX3_takesRoads 33 = .ok (.iload_n 1, 1) := by decide +kernel
theorem dX3_takesRoads_34 : decode cX3_takesRoads 34 = .ok (.iaload, 1) := by decide +kernel
theorem dX3_takesRoads_35 : decode cX3_takesRoads 35 = .ok (.aload_n 0, 1) := by decide +kernel
theorem dX3_takesRoads_36 : decode cX3_takesRoads 36 = .ok (.getfield 9, 3) := by decide +kernel
theorem dX3_takesRoads_39 : decode cX3_takesRoads 39 = .ok (.iload_n 1, 1) := by decide +kernel
theorem dX3_takesRoads_40 : decode cX3_takesRoads 40 = .ok (.iconst 1, 1) := by decide +kernel
theorem dX3_takesRoads_41 : decode cX3_takesRoads 41 = .ok (.isub, 1) := by decide +kernel
theorem dX3_takesRoads_42 : decode cX3_takesRoads 42 = .ok (.iaload, 1) := by decide +kernel
theorem dX3_takesRoads_43 : decode cX3_takesRoads 43 = .ok (.if_icmp .eq 7, 3) := by decide +kernel
theorem dX3_takesRoads_46 : decode cX3_takesRoads 46 = .ok (.iconst 1, 1) := by decide +kernel
theorem dX3_takesRoads_47 : decode cX3_takesRoads 47 = .ok (.goto 4, 3) := by decide +kernel
theorem dX3_takesRoads_50 : decode cX3_takesRoads 50 = .ok (.iconst 0, 1) := by decide +kernel
theorem dX3_takesRoads_51 : decode cX3_takesRoads 51 = .ok (.ireturn, 1) := by decide +kernel
theorem dX3_takesRoads_52 : decode cX3_takesRoads 52 = .ok (.aload_n 0, 1) := by decide +kernel
theorem dX3_takesRoads_53 : decode cX3_takesRoads 53 = .ok (.dup, 1) := by decide +kernel
theorem dX3_takesRoads_54 : decode cX3_takesRoads 54 = .ok (.getfield 15, 3) := by decide +kernel
theorem dX3_takesRoads_57 : decode cX3_takesRoads 57 = .ok (.iconst 1, 1) := by decide +kernel
theorem dX3_takesRoads_58 : decode cX3_takesRoads 58 = .ok (.iadd, 1) := by decide +kernel
theorem dX3_takesRoads_59 : decode cX3_takesRoads 59 = .ok (.putfield 15, 3) := by decide +kernel
theorem dX3_takesRoads_62 : decode cX3_takesRoads 62 = .ok (.aload_n 0, 1) := by decide +kernel
theorem dX3_takesRoads_63 : decode cX3_takesRoads 63 = .ok (.getfield 9, 3) := by decide +kernel
theorem dX3_takesRoads_66 : decode cX3_takesRoads 66 = .ok (.iload_n 1, 1) := by decide +kernel
theorem dX3_takesRoads_67 : decode cX3_takesRoads 67 = .ok (.iaload, 1) := by decide +kernel
theorem dX3_takesRoads_68 : decode cX3_takesRoads 68 = .ok (.bipush 59, 2) := by decide +kernel
theorem dX3_takesRoads_70 : decode cX3_takesRoads 70 = .ok (.if_icmp .ne 12, 3) := by decide +kernel
theorem dX3_takesRoads_73 : decode cX3_takesRoads 73 = .ok (.aload_n 0, 1) := by decide +kernel
theorem dX3_takesRoads_74 : decode cX3_takesRoads 74 = .ok (.iload_n 1, 1) := by decide +kernel
theorem dX3_takesRoads_75 : decode cX3_takesRoads 75 = .ok (.iconst 1, 1) := by decide +kernel
theorem dX3_takesRoads_76 : decode cX3_takesRoads 76 = .ok (.iadd, 1) := by decide +kernel
theorem dX3_takesRoads_77 : decode cX3_takesRoads 77 = .ok (.putfield 22, 3) := by decide +kernel
theorem dX3_takesRoads_80 : decode cX3_takesRoads 80 = .ok (.iconst 1, 1) := by decide +kernel
theorem dX3_takesRoads_81 : decode cX3_takesRoads 81 = .ok (.ireturn, 1) := by decide +kernel
theorem dX3_takesRoads_82 : decode cX3_takesRoads 82 = .ok (.aload_n 0, 1) := by decide +kernel
theorem dX3_takesRoads_83 : decode cX3_takesRoads 83 = .ok (.getfield 9, 3) := by decide +kernel
theorem dX3_takesRoads_86 : decode cX3_takesRoads 86 = .ok (.iload_n 1, 1) := by decide +kernel
theorem dX3_takesRoads_87 : decode cX3_takesRoads 87 = .ok (.iaload, 1) := by decide +kernel
theorem dX3_takesRoads_88 : decode cX3_takesRoads 88 = .ok (.bipush 44, 2) := by decide +kernel
theorem dX3_takesRoads_90 : decode cX3_takesRoads 90 = .ok (.if_icmp .ne 16, 3) := by decide +kernel
theorem dX3_takesRoads_93 : decode cX3_takesRoads 93 = .ok (.aload_n 0, 1) := by decide +kernel
theorem dX3_takesRoads_94 : decode cX3_takesRoads 94 = .ok (.getfield 15, 3) := by decide +kernel
theorem dX3_takesRoads_97 : decode cX3_takesRoads 97 = .ok (.bipush 8, 2) := by decide +kernel
theorem dX3_takesRoads_99 : decode cX3_takesRoads 99 = .ok (.if_icmp .ge 7, 3) := by decide +kernel
theorem dX3_takesRoads_102 : decode cX3_takesRoads 102 = .ok (.iconst 1, 1) := by decide +kernel
theorem dX3_takesRoads_103 : decode cX3_takesRoads 103 = .ok (.goto 4, 3) := by decide +kernel
theorem dX3_takesRoads_106 : decode cX3_takesRoads 106 = .ok (.iconst 0, 1) := by decide +kernel
theorem dX3_takesRoads_107 : decode cX3_takesRoads 107 = .ok (.ireturn, 1) := by decide +kernel
theorem dX3_takesPeople_0 : decode cX3_takesPeople 0 = .ok (.iload_n 1, 1) := by decide +kernel
theorem dX3_takesPeople_1 : decode cX3_takesPeople 1 = .ok (.aload_n 0, 1) := by decide +kernel
theorem dX3_takesPeople_2 : decode cX3_takesPeople 2 = .ok (.getfield 22, 3) := by decide +kernel
theorem dX3_takesPeople_5 : decode cX3_takesPeople 5 = .ok (.isub, 1) := by decide +kernel
theorem dX3_takesPeople_6 : decode cX3_takesPeople 6 = .ok (.iconst 5, 1) := by decide +kernel
theorem dX3_takesPeople_7 : decode cX3_takesPeople 7 = .ok (.irem, 1) := by decide +kernel
theorem dX3_takesPeople_8 : decode cX3_takesPeople 8 = .ok (.tableswitch 75 0 3 #[32, 47, 53, 59], 32) := by decide +kernel
theorem dX3_takesPeople_40 : decode cX3_takesPeople 40 = .ok (.aload_n 0, 1) := by decide +kernel
theorem dX3_takesPeople_41 : decode cX3_takesPeople 41 = .ok (.iload_n 1, 1) := by decide +kernel
theorem dX3_takesPeople_42 : decode cX3_takesPeople 42 = .ok (.invokevirtual 66, 3) := by decide +kernel
theorem dX3_takesPeople_45 : decode cX3_takesPeople 45 = .ok (.iconst (-1), 1) := by decide +kernel
theorem dX3_takesPeople_46 : decode cX3_takesPeople 46 = .ok (.if_icmp .eq 7, 3) := by decide +kernel
theorem dX3_takesPeople_49 : decode cX3_takesPeople 49 = .ok (.iconst 1, 1) := by decide +kernel
theorem dX3_takesPeople_50 : decode cX3_takesPeople 50 = .ok (.goto 4, 3) := by decide +kernel
theorem dX3_takesPeople_53 : decode cX3_takesPeople 53 = .ok (.iconst 0, 1) := by decide +kernel
theorem dX3_takesPeople_54 : decode cX3_takesPeople 54 = .ok (.ireturn, 1) := by decide +kernel
theorem dX3_takesPeople_55 : decode cX3_takesPeople 55 = .ok (.aload_n 0, 1) := by decide +kernel
theorem dX3_takesPeople_56 : decode cX3_takesPeople 56 = .ok (.iload_n 1, 1) := by decide +kernel
theorem dX3_takesPeople_57 : decode cX3_takesPeople 57 = .ok (.invokevirtual 63, 3) := by decide +kernel
theorem dX3_takesPeople_60 : decode cX3_takesPeople 60 = .ok (.ireturn, 1) := by decide +kernel
theorem dX3_takesPeople_61 : decode cX3_takesPeople 61 = .ok (.aload_n 0, 1) := by decide +kernel
theorem dX3_takesPeople_62 : decode cX3_takesPeople 62 = .ok (.iload_n 1, 1) := by decide +kernel
theorem dX3_takesPeople_63 : decode cX3_takesPeople 63 = .ok (.invokevirtual 69, 3) := by decide +kernel
theorem dX3_takesPeople_66 : decode cX3_takesPeople 66 = .ok (.ireturn, 1) := by decide +kernel
theorem dX3_takesPeople_67 : decode cX3_takesPeople 67 = .ok (.aload_n 0, 1) := by decide +kernel
theorem dX3_takesPeople_68 : decode cX3_takesPeople 68 = .ok (.dup, 1) := by decide +kernel
theorem dX3_takesPeople_69 : decode cX3_takesPeople 69 = .ok (.getfield 19, 3) := by decide +kernel
theorem dX3_takesPeople_72 : decode cX3_takesPeople 72 = .ok (.iconst 1, 1) := by decide +kernel
theorem dX3_takesPeople_73 : decode cX3_takesPeople 73 = .ok (.iadd, 1) := by decide +kernel
theorem dX3_takesPeople_74 : decode cX3_takesPeople 74 = .ok (.putfield 19, 3) := by decide +kernel
theorem dX3_takesPeople_77 : decode cX3_takesPeople 77 = .ok (.aload_n 0, 1) := by decide +kernel
theorem dX3_takesPeople_78 : decode cX3_takesPeople 78 = .ok (.iload_n 1, 1) := by decide +kernel
theorem dX3_takesPeople_79 : decode cX3_takesPeople 79 = .ok (.invokevirtual 69, 3) := by decide +kernel
theorem dX3_takesPeople_82 : decode cX3_takesPeople 82 = .ok (.ireturn, 1) := by decide +kernel
theorem dX3_takesPeople_83 : decode cX3_takesPeople 83 = .ok (.aload_n 0, 1) := by decide +kernel
theorem dX3_takesPeople_84 : decode cX3_takesPeople 84 = .ok (.getfield 9, 3) := by decide +kernel
theorem dX3_takesPeople_87 : decode cX3_takesPeople 87 = .ok (.iload_n 1, 1) := by decide +kernel
theorem dX3_takesPeople_88 : decode cX3_takesPeople 88 = .ok (.iaload, 1) := by decide +kernel
theorem dX3_takesPeople_89 : decode cX3_takesPeople 89 = .ok (.bipush 44, 2) := by decide +kernel
theorem dX3_takesPeople_91 : decode cX3_takesPeople 91 = .ok (.if_icmp .ne 16, 3) := by decide +kernel
theorem dX3_takesPeople_94 : decode cX3_takesPeople 94 = .ok (.aload_n 0, 1) := by decide +kernel
theorem dX3_takesPeople_95 : decode cX3_takesPeople 95 = .ok (.getfield 19, 3) := by decide +kernel
theorem dX3_takesPeople_98 : decode cX3_takesPeople 98 = .ok (.bipush 6, 2) := by decide +kernel
theorem dX3_takesPeople_100 : decode cX3_takesPeople 100 = .ok (.if_icmp .ge 7, 3) := by decide +kernel
theorem dX3_takesPeople_103 : decode cX3_takesPeople 103 = .ok (.iconst 1, 1) := by decide +kernel
theorem dX3_takesPeople_104 : decode cX3_takesPeople 104 = .ok (.goto 4, 3) := by decide +kernel
theorem dX3_takesPeople_107 : decode cX3_takesPeople 107 = .ok (.iconst 0, 1) := by decide +kernel
theorem dX3_takesPeople_108 : decode cX3_takesPeople 108 = .ok (.ireturn, 1) := by decide +kernel
theorem dX3_isDigitAt_0 : decode cX3_isDigitAt 0 = .ok (.aload_n 0, 1) := by decide +kernel
theorem dX3_isDigitAt_1 : decode cX3_isDigitAt 1 = .ok (.iload_n 1, 1) := by decide +kernel
theorem dX3_isDigitAt_2 : decode cX3_isDigitAt 2 = .ok (.invokevirtual 56, 3) := by decide +kernel
theorem dX3_isDigitAt_5 : decode cX3_isDigitAt 5 = .ok (.iconst 0, 1) := by decide +kernel
theorem dX3_isDigitAt_6 : decode cX3_isDigitAt 6 = .ok (.bipush 9, 2) := by decide +kernel
theorem dX3_isDigitAt_8 : decode cX3_isDigitAt 8 = .ok (.invokestatic 59, 3) := by decide +kernel
theorem dX3_isDigitAt_11 : decode cX3_isDigitAt 11 = .ok (.ireturn, 1) := by decide +kernel
theorem dX3_isCornerAt_0 : decode cX3_isCornerAt 0 = .ok (.aload_n 0, 1) := by decide +kernel
theorem dX3_isCornerAt_1 : decode cX3_isCornerAt 1 = .ok (.iload_n 1, 1) := by decide +kernel
theorem dX3_isCornerAt_2 : decode cX3_isCornerAt 2 = .ok (.invokevirtual 56, 3) := by decide +kernel
theorem dX3_isCornerAt_5 : decode cX3_isCornerAt 5 = .ok (.iconst 0, 1) := by decide +kernel
theorem dX3_isCornerAt_6 : decode cX3_isCornerAt 6 = .ok (.aload_n 0, 1) := by decide +kernel
theorem dX3_isCornerAt_7 : decode cX3_isCornerAt 7 = .ok (.iconst 0, 1) := by decide +kernel
theorem dX3_isCornerAt_8 : decode cX3_isCornerAt 8 = .ok (.invokevirtual 56, 3) := by decide +kernel
theorem dX3_isCornerAt_11 : decode cX3_isCornerAt 11 = .ok (.iconst 1, 1) := by decide +kernel
theorem dX3_isCornerAt_12 : decode cX3_isCornerAt 12 = .ok (.isub, 1) := by decide +kernel
theorem dX3_isCornerAt_13 : decode cX3_isCornerAt 13 = .ok (.invokestatic 59, 3) := by decide +kernel
theorem dX3_isCornerAt_16 : decode cX3_isCornerAt 16 = .ok (.ireturn, 1) := by decide +kernel
theorem dX4_init_0 : decode cX4_init 0 = .ok (.aload_n 0, 1) := by decide +kernel
theorem dX4_init_1 : decode cX4_init 1 = .ok (.invokespecial 3, 3) := by decide +kernel
theorem dX4_init_4 : decode cX4_init 4 = .ok (.aload_n 0, 1) := by decide +kernel
theorem dX4_init_5 : decode cX4_init 5 = .ok (.iconst 5, 1) := by decide +kernel
theorem dX4_init_6 : decode cX4_init 6 = .ok (.newarray .int, 2) := by decide +kernel
theorem dX4_init_8 : decode cX4_init 8 = .ok (.putfield 9, 3) := by decide +kernel
theorem dX4_init_11 : decode cX4_init 11 = .ok (.aload_n 0, 1) := by decide +kernel
theorem dX4_init_12 : decode cX4_init 12 = .ok (.iconst 5, 1) := by decide +kernel
theorem dX4_init_13 : decode cX4_init 13 = .ok (.newarray .int, 2) := by decide +kernel
theorem dX4_init_15 : decode cX4_init 15 = .ok (.putfield 15, 3) := by decide +kernel
theorem dX4_init_18 : decode cX4_init 18 = .ok (.aload_n 0, 1) := by decide +kernel
theorem dX4_init_19 : decode cX4_init 19 = .ok (.bipush 6, 2) := by decide +kernel
theorem dX4_init_21 : decode cX4_init 21 = .ok (.anewarray 18, 3) := by decide +kernel
theorem dX4_init_24 : decode cX4_init 24 = .ok (.putfield 20, 3) := by decide +kernel
theorem dX4_init_27 : decode cX4_init 27 = .ok (.iconst 0, 1) := by decide +kernel
theorem dX4_init_28 : decode cX4_init 28 = .ok (.istore_n 1, 1) := by decide +kernel
theorem dX4_init_29 : decode cX4_init 29 = .ok (.iload_n 1, 1) := by decide +kernel
theorem dX4_init_30 : decode cX4_init 30 = .ok (.iconst 5, 1) := by decide +kernel
theorem dX4_init_31 : decode cX4_init 31 = .ok (.if_icmp .gt 22, 3) := by decide +kernel
theorem dX4_init_34 : decode cX4_init 34 = .ok (.aload_n 0, 1) := by decide +kernel
theorem dX4_init_35 : decode cX4_init 35 = .ok (.getfield 20, 3) := by decide +kernel
theorem dX4_init_38 : decode cX4_init 38 = .ok (.iload_n 1, 1) := by decide +kernel
theorem dX4_init_39 : decode cX4_init 39 = .ok (.new 18, 3) := by decide +kernel
theorem dX4_init_42 : decode cX4_init 42 = .ok (.dup, 1) := by decide +kernel
theorem dX4_init_43 : decode cX4_init 43 = .ok (.invokespecial 24, 3) := by decide +kernel
theorem dX4_init_46 : decode cX4_init 46 = .ok (.aastore, 1) := by decide +kernel
theorem dX4_init_47 : decode cX4_init 47 = .ok (.iinc 1 1, 3) := by decide +kernel
theorem dX4_init_50 : decode cX4_init 50 = .ok (.goto (-21), 3) := by decide +kernel
theorem dX4_init_53 : decode cX4_init 53 = .ok (.return_, 1) := by decide +kernel
theorem dX4_run_0 : decode cX4_run 0 = .ok (.aload_n 0, 1) := by decide +kernel
theorem dX4_run_1 : decode cX4_run 1 = .ok (.iconst (-1), 1) := by decide +kernel
theorem dX4_run_2 : decode cX4_run 2 = .ok (.putfield 25, 3) := by decide +kernel
theorem dX4_run_5 : decode cX4_run 5 = .ok (.aload_n 0, 1) := by decide +kernel
theorem dX4_run_6 : decode cX4_run 6 = .ok (.iconst (-1), 1) := by decide +kernel
theorem dX4_run_7 : decode cX4_run 7 = .ok (.putfield 29, 3) := by decide +kernel
theorem dX4_run_10 : decode cX4_run 10 = .ok (.aload_n 0, 1) := by decide +kernel
theorem dX4_run_11 : decode cX4_run 11 = .ok (.getfield 20, 3) := by decide +kernel
theorem dX4_run_14 : decode cX4_run 14 = .ok (.iconst 0, 1) := by decide +kernel
theorem dX4_run_15 : decode cX4_run 15 = .ok (.aaload, 1) := by decide +kernel
theorem dX4_run_16 : decode cX4_run 16 = .ok (.aload_n 3, 1) := by decide +kernel
theorem dX4_run_17 : decode cX4_run 17 = .ok (.invokevirtual 32, 3) := by decide +kernel
theorem dX4_run_20 : decode cX4_run 20 = .ok (.aload_n 0, 1) := by decide +kernel
theorem dX4_run_21 : decode cX4_run 21 = .ok (.aload_n 1, 1) := by decide +kernel
theorem dX4_run_22 : decode cX4_run 22 = .ok (.aload_n 2, 1) := by decide +kernel
theorem dX4_run_23 : decode cX4_run 23 = .ok (.iconst 0, 1) := by decide +kernel
theorem dX4_run_24 : decode cX4_run 24 = .ok (.iload 4, 2) := by decide +kernel
theorem dX4_run_26 : decode cX4_run 26 = .ok (.invokevirtual 36, 3) := by decide +kernel
theorem dX4_run_29 : decode cX4_run 29 = .ok (.return_, 1) := by decide +kernel
theorem dX4_extend_0 : decode cX4_extend 0 = .ok (.iload_n 3, 1) := by decide +kernel
theorem dX4_extend_1 : decode cX4_extend 1 = .ok (.iload 4, 2) := by decide +kernel
theorem dX4_extend_3 : decode cX4_extend 3 = .ok (.if_icmp .ge 8, 3) := by decide +kernel
theorem dX4_extend_6 : decode cX4_extend 6 = .ok (.iload_n 3, 1) := by decide +kernel
theorem dX4_extend_7 : decode cX4_extend 7 = .ok (.iconst 5, 1) := by decide +kernel
theorem dX4_extend_8 : decode cX4_extend 8 = .ok (.if_icmp .lt 14, 3) := by decide +kernel
theorem dX4_extend_11 : decode cX4_extend 11 = .ok (.aload_n 0, 1) := by decide +kernel
theorem dX4_extend_12 : decode cX4_extend 12 = .ok (.aload_n 0, 1) := by decide +kernel
theorem dX4_extend_13 : decode cX4_extend 13 = .ok (.getfield 20, 3) := by decide +kernel
theorem dX4_extend_16 : decode cX4_extend 16 = .ok (.iload_n 3, 1) := by decide +kernel
theorem dX4_extend_17 : decode cX4_extend 17 = .ok (.aaload, 1) := by decide +kernel
theorem dX4_extend_18 : decode cX4_extend 18 = .ok (.invokevirtual 40, 3) := by decide +kernel
theorem dX4_extend_21 : decode cX4_extend 21 = .ok (.return_, 1) := by decide +kernel
theorem dX4_extend_22 : decode cX4_extend 22 = .ok (.aload_n 0, 1) := by decide +kernel
theorem dX4_extend_23 : decode cX4_extend 23 = .ok (.getfield 20, 3) := by decide +kernel
theorem dX4_extend_26 : decode cX4_extend 26 = .ok (.iload_n 3, 1) := by decide +kernel
theorem dX4_extend_27 : decode cX4_extend 27 = .ok (.aaload, 1) := by decide +kernel
theorem dX4_extend_28 : decode cX4_extend 28 = .ok (.astore 5, 2) := by decide +kernel
theorem dX4_extend_30 : decode cX4_extend 30 = .ok (.aload_n 0, 1) := by decide +kernel
theorem dX4_extend_31 : decode cX4_extend 31 = .ok (.getfield 20, 3) := by decide +kernel
theorem dX4_extend_34 : decode cX4_extend 34 = .ok (.iload_n 3, 1) := by decide +kernel
theorem dX4_extend_35 : decode cX4_extend 35 = .ok (.iconst 1, 1) := by decide +kernel
theorem dX4_extend_36 : decode cX4_extend 36 = .ok (.iadd, 1) := by decide +kernel
theorem dX4_extend_37 : decode cX4_extend 37 = .ok (.aaload, 1) := by decide +kernel
theorem dX4_extend_38 : decode cX4_extend 38 = .ok (.astore 6, 2) := by decide +kernel
theorem dX4_extend_40 : decode cX4_extend 40 = .ok (.iconst 0, 1) := by decide +kernel
theorem dX4_extend_41 : decode cX4_extend 41 = .ok (.istore 7, 2) := by decide +kernel
theorem dX4_extend_43 : decode cX4_extend 43 = .ok (.iload 7, 2) := by decide +kernel
theorem dX4_extend_45 : decode cX4_extend 45 = .ok (.aload_n 1, 1) := by decide +kernel
theorem dX4_extend_46 : decode cX4_extend 46 = .ok (.getfield 43, 3) := by decide +kernel
theorem dX4_extend_49 : decode cX4_extend 49 = .ok (.if_icmp .ge 62, 3) := by decide +kernel
theorem dX4_extend_52 : decode cX4_extend 52 = .ok (.aload_n 1, 1) := by decide +kernel
theorem dX4_extend_53 : decode cX4_extend 53 = .ok (.getfield 48, 3) := by decide +kernel
theorem dX4_extend_56 : decode cX4_extend 56 = .ok (.aload 5, 2) := by decide +kernel
theorem dX4_extend_58 : decode cX4_extend 58 = .ok (.getfield 51, 3) := by decide +kernel
theorem dX4_extend_61 : decode cX4_extend 61 = .ok (.iaload, 1) := by decide +kernel
theorem dX4_extend_62 : decode cX4_extend 62 = .ok (.iload 7, 2) := by decide +kernel
theorem dX4_extend_64 : decode cX4_extend 64 = .ok (.invokestatic 54, 3) := by decide +kernel
theorem dX4_extend_67 : decode cX4_extend 67 = .ok (.ifCond .eq 38, 3) := by decide +kernel
theorem dX4_extend_70 : decode cX4_extend 70 = .ok (.aload_n 0, 1) := by decide +kernel
theorem dX4_extend_71 : decode cX4_extend 71 = .ok (.getfield 15, 3) := by decide +kernel
theorem dX4_extend_74 : decode cX4_extend 74 = .ok (.iload_n 3, 1) := by decide +kernel
theorem dX4_extend_75 : decode cX4_extend 75 = .ok (.iload 7, 2) := by decide +kernel
theorem dX4_extend_77 : decode cX4_extend 77 = .ok (.iastore, 1) := by decide +kernel
theorem dX4_extend_78 : decode cX4_extend 78 = .ok (.aload 6, 2) := by decide +kernel
theorem dX4_extend_80 : decode cX4_extend 80 = .ok (.aload 5, 2) := by decide +kernel
theorem dX4_extend_82 : decode cX4_extend 82 = .ok (.invokevirtual 32, 3) := by decide +kernel
theorem dX4_extend_85 : decode cX4_extend 85 = .ok (.aload 6, 2) := by decide +kernel
theorem dX4_extend_87 : decode cX4_extend 87 = .ok (.iload 7, 2) := by decide +kernel
theorem dX4_extend_89 : decode cX4_extend 89 = .ok (.aload_n 2, 1) := by decide +kernel
theorem dX4_extend_90 : decode cX4_extend 90 = .ok (.invokevirtual 58, 3) := by decide +kernel
theorem dX4_extend_93 : decode cX4_extend 93 = .ok (.pop, 1) := by decide +kernel
theorem dX4_extend_94 : decode cX4_extend 94 = .ok (.aload_n 0, 1) := by decide +kernel
theorem dX4_extend_95 : decode cX4_extend 95 = .ok (.aload_n 1, 1) := by decide +kernel
theorem dX4_extend_96 : decode cX4_extend 96 = .ok (.aload_n 2, 1) := by decide +kernel
theorem dX4_extend_97 : decode cX4_extend 97 = .ok (.iload_n 3, 1) := by decide +kernel
theorem dX4_extend_98 : decode cX4_extend 98 = .ok (.iconst 1, 1) := by decide +kernel
theorem dX4_extend_99 : decode cX4_extend 99 = .ok (.iadd, 1) := by decide +kernel
theorem dX4_extend_100 : decode cX4_extend 100 = .ok (.iload 4, 2) := by decide +kernel
theorem dX4_extend_102 : decode cX4_extend 102 = .ok (.invokevirtual 36, 3) := by decide +kernel
theorem dX4_extend_105 : decode cX4_extend 105 = .ok (.iinc 7 1, 3) := by decide +kernel
theorem dX4_extend_108 : decode cX4_extend 108 = .ok (.goto (-65), 3) := by decide +kernel
theorem dX4_extend_111 : decode cX4_extend 111 = .ok (.return_, 1) := by decide +kernel
theorem dX4_judge_0 : decode cX4_judge 0 = .ok (.aload_n 1, 1) := by decide +kernel
theorem dX4_judge_1 : decode cX4_judge 1 = .ok (.invokevirtual 62, 3) := by decide +kernel
theorem dX4_judge_4 : decode cX4_judge 4 = .ok (.aload_n 0, 1) := by decide +kernel
theorem dX4_judge_5 : decode cX4_judge 5 = .ok (.getfield 20, 3) := by decide +kernel
theorem dX4_judge_8 : decode cX4_judge 8 = .ok (.iconst 0, 1) := by decide +kernel
theorem dX4_judge_9 : decode cX4_judge 9 = .ok (.aaload, 1) := by decide +kernel
theorem dX4_judge_10 : decode cX4_judge 10 = .ok (.invokevirtual 62, 3) := by decide +kernel
theorem dX4_judge_13 : decode cX4_judge 13 = .ok (.isub, 1) := by decide +kernel
theorem dX4_judge_14 : decode cX4_judge 14 = .ok (.istore_n 2, 1) := by decide +kernel
theorem dX4_judge_15 : decode cX4_judge 15 = .ok (.aload_n 1, 1) := by decide +kernel
theorem dX4_judge_16 : decode cX4_judge 16 = .ok (.invokevirtual 66, 3) := by decide +kernel
theorem dX4_judge_19 : decode cX4_judge 19 = .ok (.istore_n 3, 1) := by decide +kernel
theorem dX4_judge_20 : decode cX4_judge 20 = .ok (.iload_n 2, 1) := by decide +kernel
theorem dX4_judge_21 : decode cX4_judge 21 = .ok (.aload_n 0, 1) := by decide +kernel
theorem dX4_judge_22 : decode cX4_judge 22 = .ok (.getfield 25, 3) := by decide +kernel
theorem dX4_judge_25 : decode cX4_judge 25 = .ok (.if_icmp .gt 19, 3) := by decide +kernel
theorem dX4_judge_28 : decode cX4_judge 28 = .ok (.iload_n 2, 1) := by decide +kernel
theorem dX4_judge_29 : decode cX4_judge 29 = .ok (.aload_n 0, 1) := by decide +kernel
theorem dX4_judge_30 : decode cX4_judge 30 = .ok (.getfield 25, 3) := by decide +kernel
theorem dX4_judge_33 : decode cX4_judge 33 = .ok (.if_icmp .ne 35, 3) := by decide +kernel
theorem dX4_judge_36 : decode cX4_judge 36 = .ok (.iload_n 3, 1) := by decide +kernel
theorem dX4_judge_37 : decode cX4_judge 37 = .ok (.aload_n 0, 1) := by decide +kernel
theorem dX4_judge_38 : decode cX4_judge 38 = .ok (.getfield 29, 3) := by decide +kernel
theorem dX4_judge_41 : decode cX4_judge 41 = .ok (.if_icmp .le 27, 3) := by decide +kernel
theorem dX4_judge_44 : decode cX4_judge 44 = .ok (.aload_n 0, 1) := by decide +kernel
theorem dX4_judge_45 : decode cX4_judge 45 = .ok (.iload_n 2, 1) := by decide +kernel
theorem dX4_judge_46 : decode cX4_judge 46 = .ok (.putfield 25, 3) := by decide +kernel
theorem dX4_judge_49 : decode cX4_judge 49 = .ok (.aload_n 0, 1) := by decide +kernel
theorem dX4_judge_50 : decode cX4_judge 50 = .ok (.iload_n 3, 1) := by decide +kernel
theorem dX4_judge_51 : decode cX4_judge 51 = .ok (.putfield 29, 3) := by decide +kernel
theorem dX4_judge_54 : decode cX4_judge 54 = .ok (.aload_n 0, 1) := by decide +kernel
theorem dX4_judge_55 : decode cX4_judge 55 = .ok (.getfield 15, 3) := by decide +kernel
theorem dX4_judge_58 : decode cX4_judge 58 = .ok (.iconst 0, 1) := by decide +kernel
theorem dX4_judge_59 : decode cX4_judge 59 = .ok (.aload_n 0, 1) := by decide +kernel
theorem dX4_judge_60 : decode cX4_judge 60 = .ok (.getfield 9, 3) := by decide +kernel
theorem dX4_judge_63 : decode cX4_judge 63 = .ok (.iconst 0, 1) := by decide +kernel
theorem dX4_judge_64 : decode cX4_judge 64 = .ok (.iconst 5, 1) := by decide +kernel
theorem dX4_judge_65 : decode cX4_judge 65 = .ok (.invokestatic 69, 3) := by decide +kernel
theorem dX4_judge_68 : decode cX4_judge 68 = .ok (.return_, 1) := by decide +kernel
theorem dX5_init_0 : decode cX5_init 0 = .ok (.aload_n 0, 1) := by decide +kernel
theorem dX5_init_1 : decode cX5_init 1 = .ok (.invokespecial 3, 3) := by decide +kernel
theorem dX5_init_4 : decode cX5_init 4 = .ok (.aload_n 0, 1) := by decide +kernel
theorem dX5_init_5 : decode cX5_init 5 = .ok (.bipush 6, 2) := by decide +kernel
theorem dX5_init_7 : decode cX5_init 7 = .ok (.newarray .long, 2) := by decide +kernel
theorem dX5_init_9 : decode cX5_init 9 = .ok (.putfield 9, 3) := by decide +kernel
theorem dX5_init_12 : decode cX5_init 12 = .ok (.aload_n 0, 1) := by decide +kernel
theorem dX5_init_13 : decode cX5_init 13 = .ok (.bipush 6, 2) := by decide +kernel
theorem dX5_init_15 : decode cX5_init 15 = .ok (.newarray .long, 2) := by decide +kernel
theorem dX5_init_17 : decode cX5_init 17 = .ok (.putfield 15, 3) := by decide +kernel
theorem dX5_init_20 : decode cX5_init 20 = .ok (.return_, 1) := by decide +kernel
theorem dX5_run_0 : decode cX5_run 0 = .ok (.aload_n 0, 1) := by decide +kernel
theorem dX5_run_1 : decode cX5_run 1 = .ok (.getfield 9, 3) := by decide +kernel
theorem dX5_run_4 : decode cX5_run 4 = .ok (.lconst 0, 1) := by decide +kernel
theorem dX5_run_5 : decode cX5_run 5 = .ok (.invokestatic 18, 3) := by decide +kernel
theorem dX5_run_8 : decode cX5_run 8 = .ok (.aload_n 0, 1) := by decide +kernel
theorem dX5_run_9 : decode cX5_run 9 = .ok (.getfield 9, 3) := by decide +kernel
theorem dX5_run_12 : decode cX5_run 12 = .ok (.iload_n 2, 1) := by decide +kernel
theorem dX5_run_13 : decode cX5_run 13 = .ok (.lconst 1, 1) := by decide +kernel
theorem dX5_run_14 : decode cX5_run 14 = .ok (.lastore, 1) := by decide +kernel
theorem dX5_run_15 : decode cX5_run 15 = .ok (.aload_n 0, 1) := by decide +kernel
theorem dX5_run_16 : decode cX5_run 16 = .ok (.lconst 1, 1) := by decide +kernel
theorem dX5_run_17 : decode cX5_run 17 = .ok (.putfield 24, 3) := by decide +kernel
theorem dX5_run_20 : decode cX5_run 20 = .ok (.iconst 0, 1) := by decide +kernel
theorem dX5_run_21 : decode cX5_run 21 = .ok (.istore 4, 2) := by decide +kernel
theorem dX5_run_23 : decode cX5_run 23 = .ok (.iload 4, 2) := by decide +kernel
theorem dX5_run_25 : decode cX5_run 25 = .ok (.iload_n 3, 1) := by decide +kernel
theorem dX5_run_26 : decode cX5_run 26 = .ok (.if_icmp .ge 26, 3) := by decide +kernel
theorem dX5_run_29 : decode cX5_run 29 = .ok (.aload_n 0, 1) := by decide +kernel
theorem dX5_run_30 : decode cX5_run 30 = .ok (.aload_n 1, 1) := by decide +kernel
theorem dX5_run_31 : decode cX5_run 31 = .ok (.invokevirtual 28, 3) := by decide +kernel
theorem dX5_run_34 : decode cX5_run 34 = .ok (.aload_n 0, 1) := by decide +kernel
theorem dX5_run_35 : decode cX5_run 35 = .ok (.dup, 1) := by decide +kernel
theorem dX5_run_36 : decode cX5_run 36 = .ok (.getfield 24, 3) := by decide +kernel
theorem dX5_run_39 : decode cX5_run 39 = .ok (.ldc2_w 32, 3) := by decide +kernel
theorem dX5_run_42 : decode cX5_run 42 = .ok (.lmul, 1) := by decide +kernel
theorem dX5_run_43 : decode cX5_run 43 = .ok (.putfield 24, 3) := by decide +kernel
theorem dX5_run_46 : decode cX5_run 46 = .ok (.iinc 4 1, 3) := by decide +kernel
theorem dX5_run_49 : decode cX5_run 49 = .ok (.goto (-26), 3) := by decide +kernel
theorem dX5_run_52 : decode cX5_run 52 = .ok (.return_, 1) := by decide +kernel
theorem dX5_above_0 : decode cX5_above 0 = .ok (.aload_n 0, 1) := by decide +kernel
theorem dX5_above_1 : decode cX5_above 1 = .ok (.getfield 9, 3) := by decide +kernel
theorem dX5_above_4 : decode cX5_above 4 = .ok (.iload_n 1, 1) := by decide +kernel
theorem dX5_above_5 : decode cX5_above 5 = .ok (.laload, 1) := by decide +kernel
theorem dX5_above_6 : decode cX5_above 6 = .ok (.aload_n 0, 1) := by decide +kernel
theorem dX5_above_7 : decode cX5_above 7 = .ok (.iload_n 1, 1) := by decide +kernel
theorem dX5_above_8 : decode cX5_above 8 = .ok (.invokevirtual 34, 3) := by decide +kernel
theorem dX5_above_11 : decode cX5_above 11 = .ok (.ldiv, 1) := by decide +kernel
theorem dX5_above_12 : decode cX5_above 12 = .ok (.l2i, 1) := by decide +kernel
theorem dX5_above_13 : decode cX5_above 13 = .ok (.ireturn, 1) := by decide +kernel
theorem dX5_below_0 : decode cX5_below 0 = .ok (.aload_n 0, 1) := by decide +kernel
theorem dX5_below_1 : decode cX5_below 1 = .ok (.getfield 24, 3) := by decide +kernel
theorem dX5_below_4 : decode cX5_below 4 = .ok (.aload_n 0, 1) := by decide +kernel
theorem dX5_below_5 : decode cX5_below 5 = .ok (.iload_n 1, 1) := by decide +kernel
theorem dX5_below_6 : decode cX5_below 6 = .ok (.invokevirtual 34, 3) := by decide +kernel
theorem dX5_below_9 : decode cX5_below 9 = .ok (.ldiv, 1) := by decide +kernel
theorem dX5_below_10 : decode cX5_below 10 = .ok (.l2i, 1) := by decide +kernel
theorem dX5_below_11 : decode cX5_below 11 = .ok (.ireturn, 1) := by decide +kernel
theorem dX5_scatter_0 : decode cX5_scatter 0 = .ok (.iconst 0, 1) := by decide +kernel
theorem dX5_scatter_1 : decode cX5_scatter 1 = .ok (.istore_n 2, 1) := by decide +kernel
theorem dX5_scatter_2 : decode cX5_scatter 2 = .ok (.iload_n 2, 1) := by decide +kernel
theorem dX5_scatter_3 : decode cX5_scatter 3 = .ok (.aload_n 1, 1) := by decide +kernel
theorem dX5_scatter_4 : decode cX5_scatter 4 = .ok (.getfield 38, 3) := by decide +kernel
theorem dX5_scatter_7 : decode cX5_scatter 7 = .ok (.if_icmp .ge 38, 3) := by decide +kernel
theorem dX5_scatter_10 : decode cX5_scatter 10 = .ok (.aload_n 0, 1) := by decide +kernel
theorem dX5_scatter_11 : decode cX5_scatter 11 = .ok (.getfield 15, 3) := by decide +kernel
theorem dX5_scatter_14 : decode cX5_scatter 14 = .ok (.iload_n 2, 1) := by decide +kernel
theorem dX5_scatter_15 : decode cX5_scatter 15 = .ok (.aload_n 1, 1) := by decide +kernel
theorem dX5_scatter_16 : decode cX5_scatter 16 = .ok (.getfield 44, 3) := by decide +kernel
theorem dX5_scatter_19 : decode cX5_scatter 19 = .ok (.iload_n 2, 1) := by decide +kernel
theorem dX5_scatter_20 : decode cX5_scatter 20 = .ok (.iaload, 1) := by decide +kernel
theorem dX5_scatter_21 : decode cX5_scatter 21 = .ok (.ifCond .ne 16, 3) := by decide +kernel
theorem dX5_scatter_24 : decode cX5_scatter 24 = .ok (.aload_n 0, 1) := by decide +kernel
theorem dX5_scatter_25 : decode cX5_scatter 25 = .ok (.getfield 9, 3) := by decide +kernel
theorem dX5_scatter_28 : decode cX5_scatter 28 = .ok (.iload_n 2, 1) := by decide +kernel
theorem dX5_scatter_29 : decode cX5_scatter 29 = .ok (.laload, 1) := by decide +kernel
theorem dX5_scatter_30 : decode cX5_scatter 30 = .ok (.ldc2_w 32, 3) := by decide +kernel
theorem dX5_scatter_33 : decode cX5_scatter 33 = .ok (.lmul, 1) := by decide +kernel
theorem dX5_scatter_34 : decode cX5_scatter 34 = .ok (.goto 4, 3) := by decide +kernel
theorem dX5_scatter_37 : decode cX5_scatter 37 = .ok (.lconst 0, 1) := by decide +kernel
theorem dX5_scatter_38 : decode cX5_scatter 38 = .ok (.lastore, 1) := by decide +kernel
theorem dX5_scatter_39 : decode cX5_scatter 39 = .ok (.iinc 2 1, 3) := by decide +kernel
theorem dX5_scatter_42 : decode cX5_scatter 42 = .ok (.goto (-40), 3) := by decide +kernel
theorem dX5_scatter_45 : decode cX5_scatter 45 = .ok (.iconst 0, 1) := by decide +kernel
theorem dX5_scatter_46 : decode cX5_scatter 46 = .ok (.istore_n 2, 1) := by decide +kernel
theorem dX5_scatter_47 : decode cX5_scatter 47 = .ok (.iload_n 2, 1) := by decide +kernel
theorem dX5_scatter_48 : decode cX5_scatter 48 = .ok (.aload_n 1, 1) := by decide +kernel
theorem dX5_scatter_49 : decode cX5_scatter 49 = .ok (.getfield 48, 3) := by decide +kernel
theorem dX5_scatter_52 : decode cX5_scatter 52 = .ok (.if_icmp .ge 56, 3) := by decide +kernel
theorem dX5_scatter_55 : decode cX5_scatter 55 = .ok (.aload_n 1, 1) := by decide +kernel
theorem dX5_scatter_56 : decode cX5_scatter 56 = .ok (.getfield 51, 3) := by decide +kernel
theorem dX5_scatter_59 : decode cX5_scatter 59 = .ok (.iload_n 2, 1) := by decide +kernel
theorem dX5_scatter_60 : decode cX5_scatter 60 = .ok (.iaload, 1) := by decide +kernel
theorem dX5_scatter_61 : decode cX5_scatter 61 = .ok (.istore_n 3, 1) := by decide +kernel
theorem dX5_scatter_62 : decode cX5_scatter 62 = .ok (.aload_n 1, 1) := by decide +kernel
theorem dX5_scatter_63 : decode cX5_scatter 63 = .ok (.getfield 54, 3) := by decide +kernel
theorem dX5_scatter_66 : decode cX5_scatter 66 = .ok (.iload_n 2, 1) := by decide +kernel
theorem dX5_scatter_67 : decode cX5_scatter 67 = .ok (.iaload, 1) := by decide +kernel
theorem dX5_scatter_68 : decode cX5_scatter 68 = .ok (.istore 4, 2) := by decide +kernel
theorem dX5_scatter_70 : decode cX5_scatter 70 = .ok (.aload_n 0, 1) := by decide +kernel
theorem dX5_scatter_71 : decode cX5_scatter 71 = .ok (.getfield 15, 3) := by decide +kernel
theorem dX5_scatter_74 : decode cX5_scatter 74 = .ok (.iload 4, 2) := by decide +kernel
theorem dX5_scatter_76 : decode cX5_scatter 76 = .ok (.dup2, 1) := by decide +kernel
theorem dX5_scatter_77 : decode cX5_scatter 77 = .ok (.laload, 1) := by decide +kernel
theorem dX5_scatter_78 : decode cX5_scatter 78 = .ok (.aload_n 0, 1) := by decide +kernel
theorem dX5_scatter_79 : decode cX5_scatter 79 = .ok (.aload_n 1, 1) := by decide +kernel
theorem dX5_scatter_80 : decode cX5_scatter 80 = .ok (.iload_n 3, 1) := by decide +kernel
theorem dX5_scatter_81 : decode cX5_scatter 81 = .ok (.invokevirtual 57, 3) := by decide +kernel
theorem dX5_scatter_84 : decode cX5_scatter 84 = .ok (.ladd, 1) := by decide +kernel
theorem dX5_scatter_85 : decode cX5_scatter 85 = .ok (.lastore, 1) := by decide +kernel
theorem dX5_scatter_86 : decode cX5_scatter 86 = .ok (.aload_n 0, 1) := by decide +kernel
theorem dX5_scatter_87 : decode cX5_scatter 87 = .ok (.getfield 15, 3) := by decide +kernel
theorem dX5_scatter_90 : decode cX5_scatter 90 = .ok (.iload_n 3, 1) := by decide +kernel
theorem dX5_scatter_91 : decode cX5_scatter 91 = .ok (.dup2, 1) := by decide +kernel
theorem dX5_scatter_92 : decode cX5_scatter 92 = .ok (.laload, 1) := by decide +kernel
theorem dX5_scatter_93 : decode cX5_scatter 93 = .ok (.aload_n 0, 1) := by decide +kernel
theorem dX5_scatter_94 : decode cX5_scatter 94 = .ok (.aload_n 1, 1) := by decide +kernel
theorem dX5_scatter_95 : decode cX5_scatter 95 = .ok (.iload 4, 2) := by decide +kernel
theorem dX5_scatter_97 : decode cX5_scatter 97 = .ok (.invokevirtual 57, 3) := by decide +kernel
theorem dX5_scatter_100 : decode cX5_scatter 100 = .ok (.ladd, 1) := by decide +kernel
theorem dX5_scatter_101 : decode cX5_scatter 101 = .ok (.lastore, 1) := by decide +kernel
theorem dX5_scatter_102 : decode cX5_scatter 102 = .ok (.iinc 2 1, 3) := by decide +kernel
theorem dX5_scatter_105 : decode cX5_scatter 105 = .ok (.goto (-58), 3) := by decide +kernel
theorem dX5_scatter_108 : decode cX5_scatter 108 = .ok (.aload_n 0, 1) := by decide +kernel
theorem dX5_scatter_109 : decode cX5_scatter 109 = .ok (.getfield 15, 3) := by decide +kernel
theorem dX5_scatter_112 : decode cX5_scatter 112 = .ok (.iconst 0, 1) := by decide +kernel
theorem dX5_scatter_113 : decode cX5_scatter 113 = .ok (.aload_n 0, 1) := by decide +kernel
theorem dX5_scatter_114 : decode cX5_scatter 114 = .ok (.getfield 9, 3) := by decide +kernel
theorem dX5_scatter_117 : decode cX5_scatter 117 = .ok (.iconst 0, 1) := by decide +kernel
theorem dX5_scatter_118 : decode cX5_scatter 118 = .ok (.aload_n 1, 1) := by decide +kernel
theorem dX5_scatter_119 : decode cX5_scatter 119 = .ok (.getfield 38, 3) := by decide +kernel
theorem dX5_scatter_122 : decode cX5_scatter 122 = .ok (.invokestatic 61, 3) := by decide +kernel
theorem dX5_scatter_125 : decode cX5_scatter 125 = .ok (.return_, 1) := by decide +kernel
theorem dX5_partPerRoad_0 : decode cX5_partPerRoad 0 = .ok (.aload_n 1, 1) := by decide +kernel
theorem dX5_partPerRoad_1 : decode cX5_partPerRoad 1 = .ok (.getfield 44, 3) := by decide +kernel
theorem dX5_partPerRoad_4 : decode cX5_partPerRoad 4 = .ok (.iload_n 2, 1) := by decide +kernel
theorem dX5_partPerRoad_5 : decode cX5_partPerRoad 5 = .ok (.iaload, 1) := by decide +kernel
theorem dX5_partPerRoad_6 : decode cX5_partPerRoad 6 = .ok (.istore_n 3, 1) := by decide +kernel
theorem dX5_partPerRoad_7 : decode cX5_partPerRoad 7 = .ok (.iload_n 3, 1) := by decide +kernel
theorem dX5_partPerRoad_8 : decode cX5_partPerRoad 8 = .ok (.ifCond .le 19, 3) := by decide +kernel
theorem dX5_partPerRoad_11 : decode cX5_partPerRoad 11 = .ok (.aload_n 0, 1) := by decide +kernel
theorem dX5_partPerRoad_12 : decode cX5_partPerRoad 12 = .ok (.getfield 9, 3) := by decide +kernel
theorem dX5_partPerRoad_15 : decode cX5_partPerRoad 15 = .ok (.iload_n 2, 1) := by decide +kernel
theorem dX5_partPerRoad_16 : decode cX5_partPerRoad 16 = .ok (.laload, 1) := by decide +kernel
theorem dX5_partPerRoad_17 : decode cX5_partPerRoad 17 = .ok (.ldc2_w 32, 3) := by decide +kernel
theorem dX5_partPerRoad_20 : decode cX5_partPerRoad 20 = .ok (.iload_n 3, 1) := by decide +kernel
theorem dX5_partPerRoad_21 : decode cX5_partPerRoad 21 = .ok (.i2l, 1) := by decide +kernel
theorem dX5_partPerRoad_22 : decode cX5_partPerRoad 22 = .ok (.ldiv, 1) := by decide +kernel
theorem dX5_partPerRoad_23 : decode cX5_partPerRoad 23 = .ok (.lmul, 1) := by decide +kernel
theorem dX5_partPerRoad_24 : decode cX5_partPerRoad 24 = .ok (.goto 4, 3) := by decide +kernel
theorem dX5_partPerRoad_27 : decode cX5_partPerRoad 27 = .ok (.lconst 0, 1) := by decide +kernel
theorem dX5_partPerRoad_28 : decode cX5_partPerRoad 28 = .ok (.lreturn, 1) := by decide +kernel
theorem dX5_sharedPart_0 : decode cX5_sharedPart 0 = .ok (.aload_n 0, 1) := by decide +kernel
theorem dX5_sharedPart_1 : decode cX5_sharedPart 1 = .ok (.getfield 24, 3) := by decide +kernel
theorem dX5_sharedPart_4 : decode cX5_sharedPart 4 = .ok (.lstore_n 2, 1) := by decide +kernel
theorem dX5_sharedPart_5 : decode cX5_sharedPart 5 = .ok (.aload_n 0, 1) := by decide +kernel
theorem dX5_sharedPart_6 : decode cX5_sharedPart 6 = .ok (.getfield 9, 3) := by decide +kernel
theorem dX5_sharedPart_9 : decode cX5_sharedPart 9 = .ok (.iload_n 1, 1) := by decide +kernel
theorem dX5_sharedPart_10 : decode cX5_sharedPart 10 = .ok (.laload, 1) := by decide +kernel
theorem dX5_sharedPart_11 : decode cX5_sharedPart 11 = .ok (.lstore 4, 2) := by decide +kernel
theorem dX5_sharedPart_13 : decode cX5_sharedPart 13 = .ok (.iconst 0, 1) := by decide +kernel
theorem dX5_sharedPart_14 : decode cX5_sharedPart 14 = .ok (.istore 6, 2) := by decide +kernel
theorem dX5_sharedPart_16 : decode cX5_sharedPart 16 = .ok (.iload 6, 2) := by decide +kernel
theorem dX5_sharedPart_18 : decode cX5_sharedPart 18 = .ok (.bipush 100, 2) := by decide +kernel
theorem dX5_sharedPart_20 : decode cX5_sharedPart 20 = .ok (.if_icmp .ge 29, 3) := by decide +kernel
theorem dX5_sharedPart_23 : decode cX5_sharedPart 23 = .ok (.lload 4, 2) := by decide +kernel
theorem dX5_sharedPart_25 : decode cX5_sharedPart 25 = .ok (.lconst 0, 1) := by decide +kernel
theorem dX5_sharedPart_26 : decode cX5_sharedPart 26 = .ok (.lcmp, 1) := by decide +kernel
theorem dX5_sharedPart_27 : decode cX5_sharedPart 27 = .ok (.ifCond .eq 22, 3) := by decide +kernel
theorem dX5_sharedPart_30 : decode cX5_sharedPart 30 = .ok (.lload_n 2, 1) := by decide +kernel
theorem dX5_sharedPart_31 : decode cX5_sharedPart 31 = .ok (.lload 4, 2) := by decide +kernel
theorem dX5_sharedPart_33 : decode cX5_sharedPart 33 = .ok (.lrem, 1) := by decide +kernel
theorem dX5_sharedPart_34 : decode cX5_sharedPart 34 = .ok (.lstore 7, 2) := by decide +kernel
theorem dX5_sharedPart_36 : decode cX5_sharedPart 36 = .ok (.lload 4, 2) := by decide +kernel
theorem dX5_sharedPart_38 : decode cX5_sharedPart 38 = .ok (.lstore_n 2, 1) := by decide +kernel
theorem dX5_sharedPart_39 : decode cX5_sharedPart 39 = .ok (.lload 7, 2) := by decide +kernel
theorem dX5_sharedPart_41 : decode cX5_sharedPart 41 = .ok (.lstore 4, 2) := by decide +kernel
theorem dX5_sharedPart_43 : decode cX5_sharedPart 43 = .ok (.iinc 6 1, 3) := by decide +kernel
theorem dX5_sharedPart_46 : decode cX5_sharedPart 46 = .ok (.goto (-30), 3) := by decide +kernel
theorem dX5_sharedPart_49 : decode cX5_sharedPart 49 = .ok (.lload_n 2, 1) := by decide +kernel
theorem dX5_sharedPart_50 : decode cX5_sharedPart 50 = .ok (.lconst 1, 1) := by decide +kernel
theorem dX5_sharedPart_51 : decode cX5_sharedPart 51 = .ok (.invokestatic 67, 3) := by decide +kernel
theorem dX5_sharedPart_54 : decode cX5_sharedPart 54 = .ok (.lreturn, 1) := by decide +kernel
theorem dX6_init_0 : decode cX6_init 0 = .ok (.aload_n 0, 1) := by decide +kernel
theorem dX6_init_1 : decode cX6_init 1 = .ok (.invokespecial 3, 3) := by decide +kernel
theorem dX6_init_4 : decode cX6_init 4 = .ok (.aload_n 0, 1) := by decide +kernel
theorem dX6_init_5 : decode cX6_init 5 = .ok (.bipush 8, 2) := by decide +kernel
theorem dX6_init_7 : decode cX6_init 7 = .ok (.newarray .int, 2) := by decide +kernel
theorem dX6_init_9 : decode cX6_init 9 = .ok (.putfield 9, 3) := by decide +kernel
theorem dX6_init_12 : decode cX6_init 12 = .ok (.aload_n 0, 1) := by decide +kernel
theorem dX6_init_13 : decode cX6_init 13 = .ok (.bipush 8, 2) := by decide +kernel
theorem dX6_init_15 : decode cX6_init 15 = .ok (.newarray .int, 2) := by decide +kernel
theorem dX6_init_17 : decode cX6_init 17 = .ok (.putfield 15, 3) := by decide +kernel
theorem dX6_init_20 : decode cX6_init 20 = .ok (.aload_n 0, 1) := by decide +kernel
theorem dX6_init_21 : decode cX6_init 21 = .ok (.bipush 6, 2) := by decide +kernel
theorem dX6_init_23 : decode cX6_init 23 = .ok (.newarray .int, 2) := by decide +kernel
theorem dX6_init_25 : decode cX6_init 25 = .ok (.putfield 18, 3) := by decide +kernel
theorem dX6_init_28 : decode cX6_init 28 = .ok (.aload_n 0, 1) := by decide +kernel
theorem dX6_init_29 : decode cX6_init 29 = .ok (.bipush 6, 2) := by decide +kernel
theorem dX6_init_31 : decode cX6_init 31 = .ok (.newarray .int, 2) := by decide +kernel
theorem dX6_init_33 : decode cX6_init 33 = .ok (.putfield 21, 3) := by decide +kernel
theorem dX6_init_36 : decode cX6_init 36 = .ok (.aload_n 0, 1) := by decide +kernel
theorem dX6_init_37 : decode cX6_init 37 = .ok (.bipush 6, 2) := by decide +kernel
theorem dX6_init_39 : decode cX6_init 39 = .ok (.bipush 6, 2) := by decide +kernel
theorem dX6_init_41 : decode cX6_init 41 = .ok (.multianewarray 24 2, 4) := by decide +kernel
theorem dX6_init_45 : decode cX6_init 45 = .ok (.putfield 26, 3) := by decide +kernel
theorem dX6_init_48 : decode cX6_init 48 = .ok (.aload_n 0, 1) := by decide +kernel
theorem dX6_init_49 : decode cX6_init 49 = .ok (.bipush 6, 2) := by decide +kernel
theorem dX6_init_51 : decode cX6_init 51 = .ok (.bipush 6, 2) := by decide +kernel
theorem dX6_init_53 : decode cX6_init 53 = .ok (.multianewarray 24 2, 4) := by decide +kernel
theorem dX6_init_57 : decode cX6_init 57 = .ok (.putfield 29, 3) := by decide +kernel
theorem dX6_init_60 : decode cX6_init 60 = .ok (.return_, 1) := by decide +kernel
theorem dX6_build_0 : decode cX6_build 0 = .ok (.aload_n 0, 1) := by decide +kernel
theorem dX6_build_1 : decode cX6_build 1 = .ok (.aload_n 1, 1) := by decide +kernel
theorem dX6_build_2 : decode cX6_build 2 = .ok (.iconst 0, 1) := by decide +kernel
theorem dX6_build_3 : decode cX6_build 3 = .ok (.invokevirtual 32, 3) := by decide +kernel
theorem dX6_build_6 : decode cX6_build 6 = .ok (.putfield 38, 3) := by decide +kernel
theorem dX6_build_9 : decode cX6_build 9 = .ok (.aload_n 0, 1) := by decide +kernel
theorem dX6_build_10 : decode cX6_build 10 = .ok (.aload_n 1, 1) := by decide +kernel
theorem dX6_build_11 : decode cX6_build 11 = .ok (.getfield 42, 3) := by decide +kernel
theorem dX6_build_14 : decode cX6_build 14 = .ok (.putfield 45, 3) := by decide +kernel
theorem dX6_build_17 : decode cX6_build 17 = .ok (.iconst 0, 1) := by decide +kernel
theorem dX6_build_18 : decode cX6_build 18 = .ok (.istore_n 2, 1) := by decide +kernel
theorem dX6_build_19 : decode cX6_build 19 = .ok (.iload_n 2, 1) := by decide +kernel
theorem dX6_build_20 : decode cX6_build 20 = .ok (.aload_n 0, 1) := by decide +kernel
theorem dX6_build_21 : decode cX6_build 21 = .ok (.getfield 38, 3) := by decide +kernel
theorem dX6_build_24 : decode cX6_build 24 = .ok (.if_icmp .ge 25, 3) := by decide +kernel
theorem dX6_build_27 : decode cX6_build 27 = .ok (.aload_n 0, 1) := by decide +kernel
theorem dX6_build_28 : decode cX6_build 28 = .ok (.getfield 18, 3) := by decide +kernel
theorem dX6_build_31 : decode cX6_build 31 = .ok (.iload_n 2, 1) := by decide +kernel
theorem dX6_build_32 : decode cX6_build 32 = .ok (.iconst 1, 1) := by decide +kernel
theorem dX6_build_33 : decode cX6_build 33 = .ok (.iload_n 2, 1) := by decide +kernel
theorem dX6_build_34 : decode cX6_build 34 = .ok (.ishl, 1) := by decide +kernel
theorem dX6_build_35 : decode cX6_build 35 = .ok (.iastore, 1) := by decide +kernel
theorem dX6_build_36 : decode cX6_build 36 = .ok (.aload_n 0, 1) := by decide +kernel
theorem dX6_build_37 : decode cX6_build 37 = .ok (.getfield 21, 3) := by decide +kernel
theorem dX6_build_40 : decode cX6_build 40 = .ok (.iload_n 2, 1) := by decide +kernel
theorem dX6_build_41 : decode cX6_build 41 = .ok (.iconst 0, 1) := by decide +kernel
theorem dX6_build_42 : decode cX6_build 42 = .ok (.iastore, 1) := by decide +kernel
theorem dX6_build_43 : decode cX6_build 43 = .ok (.iinc 2 1, 3) := by decide +kernel
theorem dX6_build_46 : decode cX6_build 46 = .ok (.goto (-27), 3) := by decide +kernel
theorem dX6_build_49 : decode cX6_build 49 = .ok (.iconst 0, 1) := by decide +kernel
theorem dX6_build_50 : decode cX6_build 50 = .ok (.istore_n 2, 1) := by decide +kernel
theorem dX6_build_51 : decode cX6_build 51 = .ok (.iload_n 2, 1) := by decide +kernel
theorem dX6_build_52 : decode cX6_build 52 = .ok (.aload_n 0, 1) := by decide +kernel
theorem dX6_build_53 : decode cX6_build 53 = .ok (.getfield 45, 3) := by decide +kernel
theorem dX6_build_56 : decode cX6_build 56 = .ok (.if_icmp .ge 32, 3) := by decide +kernel
theorem dX6_build_59 : decode cX6_build 59 = .ok (.aload_n 1, 1) := by decide +kernel
theorem dX6_build_60 : decode cX6_build 60 = .ok (.iload_n 2, 1) := by decide +kernel
theorem dX6_build_61 : decode cX6_build 61 = .ok (.invokevirtual 46, 3) := by decide +kernel
theorem dX6_build_64 : decode cX6_build 64 = .ok (.istore_n 3, 1) := by decide +kernel
theorem dX6_build_65 : decode cX6_build 65 = .ok (.aload_n 0, 1) := by decide +kernel
theorem dX6_build_66 : decode cX6_build 66 = .ok (.iload_n 2, 1) := by decide +kernel
theorem dX6_build_67 : decode cX6_build 67 = .ok (.aload_n 1, 1) := by decide +kernel
theorem dX6_build_68 : decode cX6_build 68 = .ok (.iload_n 3, 1) := by decide +kernel
theorem dX6_build_69 : decode cX6_build 69 = .ok (.invokevirtual 32, 3) := by decide +kernel
theorem dX6_build_72 : decode cX6_build 72 = .ok (.aload_n 1, 1) := by decide +kernel
theorem dX6_build_73 : decode cX6_build 73 = .ok (.iload_n 3, 1) := by decide +kernel
theorem dX6_build_74 : decode cX6_build 74 = .ok (.iconst 1, 1) := by decide +kernel
theorem dX6_build_75 : decode cX6_build 75 = .ok (.iadd, 1) := by decide +kernel
theorem dX6_build_76 : decode cX6_build 76 = .ok (.invokevirtual 32, 3) := by decide +kernel
theorem dX6_build_79 : decode cX6_build 79 = .ok (.invokevirtual 49, 3) := by decide +kernel
theorem dX6_build_82 : decode cX6_build 82 = .ok (.iinc 2 1, 3) := by decide +kernel
theorem dX6_build_85 : decode cX6_build 85 = .ok (.goto (-34), 3) := by decide +kernel
theorem dX6_build_88 : decode cX6_build 88 = .ok (.iconst 0, 1) := by decide +kernel
theorem dX6_build_89 : decode cX6_build 89 = .ok (.istore_n 2, 1) := by decide +kernel
theorem dX6_build_90 : decode cX6_build 90 = .ok (.iload_n 2, 1) := by decide +kernel
theorem dX6_build_91 : decode cX6_build 91 = .ok (.aload_n 0, 1) := by decide +kernel
theorem dX6_build_92 : decode cX6_build 92 = .ok (.getfield 38, 3) := by decide +kernel
theorem dX6_build_95 : decode cX6_build 95 = .ok (.if_icmp .ge 14, 3) := by decide +kernel
theorem dX6_build_98 : decode cX6_build 98 = .ok (.aload_n 0, 1) := by decide +kernel
theorem dX6_build_99 : decode cX6_build 99 = .ok (.iload_n 2, 1) := by decide +kernel
theorem dX6_build_100 : decode cX6_build 100 = .ok (.invokevirtual 53, 3) := by decide +kernel
theorem dX6_build_103 : decode cX6_build 103 = .ok (.iinc 2 1, 3) := by decide +kernel
theorem dX6_build_106 : decode cX6_build 106 = .ok (.goto (-16), 3) := by decide +kernel
theorem dX6_build_109 : decode cX6_build 109 = .ok (.aload_n 0, 1) := by decide +kernel
theorem dX6_build_110 : decode cX6_build 110 = .ok (.invokevirtual 57, 3) := by decide +kernel
theorem dX6_build_113 : decode cX6_build 113 = .ok (.return_, 1) := by decide +kernel
theorem dX6_alongRoad_0 : decode cX6_alongRoad 0 = .ok (.aload_n 0, 1) := by decide +kernel
theorem dX6_alongRoad_1 : decode cX6_alongRoad 1 = .ok (.getfield 9, 3) := by decide +kernel
theorem dX6_alongRoad_4 : decode cX6_alongRoad 4 = .ok (.iload_n 1, 1) := by decide +kernel
theorem dX6_alongRoad_5 : decode cX6_alongRoad 5 = .ok (.iaload, 1) := by decide +kernel
theorem dX6_alongRoad_6 : decode cX6_alongRoad 6 = .ok (.iload_n 2, 1) := by decide +kernel
theorem dX6_alongRoad_7 : decode cX6_alongRoad 7 = .ok (.if_icmp .ne 10, 3) := by decide +kernel
theorem dX6_alongRoad_10 : decode cX6_alongRoad 10 = .ok (.aload_n 0, 1) := by decide +kernel
theorem dX6_alongRoad_11 : decode cX6_alongRoad 11 = .ok (.getfield 15, 3) := by decide +kernel
theorem dX6_alongRoad_14 : decode cX6_alongRoad 14 = .ok (.iload_n 1, 1) := by decide +kernel
theorem dX6_alongRoad_15 : decode cX6_alongRoad 15 = .ok (.iaload, 1) := by decide +kernel
theorem dX6_alongRoad_16 : decode cX6_alongRoad 16 = .ok (.ireturn, 1) := by decide +kernel
theorem dX6_alongRoad_17 : decode cX6_alongRoad 17 = .ok (.aload_n 0, 1) := by decide +kernel
theorem dX6_alongRoad_18 : decode cX6_alongRoad 18 = .ok (.getfield 15, 3) := by decide +kernel
theorem dX6_alongRoad_21 : decode cX6_alongRoad 21 = .ok (.iload_n 1, 1) := by decide +kernel
theorem dX6_alongRoad_22 : decode cX6_alongRoad 22 = .ok (.iaload, 1) := by decide +kernel
theorem dX6_alongRoad_23 : decode cX6_alongRoad 23 = .ok (.iload_n 2, 1) := by decide +kernel
theorem dX6_alongRoad_24 : decode cX6_alongRoad 24 = .ok (.if_icmp .ne 12, 3) := by decide +kernel
theorem dX6_alongRoad_27 : decode cX6_alongRoad 27 = .ok (.aload_n 0, 1) := by decide +kernel
theorem dX6_alongRoad_28 : decode cX6_alongRoad 28 = .ok (.getfield 9, 3) := by decide +kernel
theorem dX6_alongRoad_31 : decode cX6_alongRoad 31 = .ok (.iload_n 1, 1) := by decide +kernel
theorem dX6_alongRoad_32 : decode cX6_alongRoad 32 = .ok (.iaload, 1) := by decide +kernel
theorem dX6_alongRoad_33 : decode cX6_alongRoad 33 = .ok (.goto 4, 3) := by decide +kernel
theorem dX6_alongRoad_36 : decode cX6_alongRoad 36 = .ok (.iload_n 2, 1) := by decide +kernel
theorem dX6_alongRoad_37 : decode cX6_alongRoad 37 = .ok (.ireturn, 1) := by decide +kernel
theorem dX6_layRoad_0 : decode cX6_layRoad 0 = .ok (.aload_n 0, 1) := by decide +kernel
theorem dX6_layRoad_1 : decode cX6_layRoad 1 = .ok (.getfield 9, 3) := by decide +kernel
theorem dX6_layRoad_4 : decode cX6_layRoad 4 = .ok (.iload_n 1, 1) := by decide +kernel
theorem dX6_layRoad_5 : decode cX6_layRoad 5 = .ok (.iload_n 2, 1) := by decide +kernel
theorem dX6_layRoad_6 : decode cX6_layRoad 6 = .ok (.iastore, 1) := by decide +kernel
theorem dX6_layRoad_7 : decode cX6_layRoad 7 = .ok (.aload_n 0, 1) := by decide +kernel
theorem dX6_layRoad_8 : decode cX6_layRoad 8 = .ok (.getfield 15, 3) := by decide +kernel
theorem dX6_layRoad_11 : decode cX6_layRoad 11 = .ok (.iload_n 1, 1) := by decide +kernel
theorem dX6_layRoad_12 : decode cX6_layRoad 12 = .ok (.iload_n 3, 1) := by decide +kernel
theorem dX6_layRoad_13 : decode cX6_layRoad 13 = .ok (.iastore, 1) := by decide +kernel
theorem dX6_layRoad_14 : decode cX6_layRoad 14 = .ok (.aload_n 0, 1) := by decide +kernel
theorem dX6_layRoad_15 : decode cX6_layRoad 15 = .ok (.getfield 18, 3) := by decide +kernel
theorem dX6_layRoad_18 : decode cX6_layRoad 18 = .ok (.iload_n 2, 1) := by decide +kernel
theorem dX6_layRoad_19 : decode cX6_layRoad 19 = .ok (.dup2, 1) := by decide +kernel
theorem dX6_layRoad_20 : decode cX6_layRoad 20 = .ok (.iaload, 1) := by decide +kernel
theorem dX6_layRoad_21 : decode cX6_layRoad 21 = .ok (.iconst 1, 1) := by decide +kernel
theorem dX6_layRoad_22 : decode cX6_layRoad 22 = .ok (.iload_n 3, 1) := by decide +kernel
theorem dX6_layRoad_23 : decode cX6_layRoad 23 = .ok (.ishl, 1) := by decide +kernel
theorem dX6_layRoad_24 : decode cX6_layRoad 24 = .ok (.ior, 1) := by decide +kernel
theorem dX6_layRoad_25 : decode cX6_layRoad 25 = .ok (.iastore, 1) := by decide +kernel
theorem dX6_layRoad_26 : decode cX6_layRoad 26 = .ok (.aload_n 0, 1) := by decide +kernel
theorem dX6_layRoad_27 : decode cX6_layRoad 27 = .ok (.getfield 18, 3) := by decide +kernel
theorem dX6_layRoad_30 : decode cX6_layRoad 30 = .ok (.iload_n 3, 1) := by decide +kernel
theorem dX6_layRoad_31 : decode cX6_layRoad 31 = .ok (.dup2, 1) := by decide +kernel
theorem dX6_layRoad_32 : decode cX6_layRoad 32 = .ok (.iaload, 1) := by decide +kernel
theorem dX6_layRoad_33 : decode cX6_layRoad 33 = .ok (.iconst 1, 1) := by decide +kernel
theorem dX6_layRoad_34 : decode cX6_layRoad 34 = .ok (.iload_n 2, 1) := by decide +kernel
theorem dX6_layRoad_35 : decode cX6_layRoad 35 = .ok (.ishl, 1) := by decide +kernel
theorem dX6_layRoad_36 : decode cX6_layRoad 36 = .ok (.ior, 1) := by decide +kernel
theorem dX6_layRoad_37 : decode cX6_layRoad 37 = .ok (.iastore, 1) := by decide +kernel
theorem dX6_layRoad_38 : decode cX6_layRoad 38 = .ok (.aload_n 0, 1) := by decide +kernel
theorem dX6_layRoad_39 : decode cX6_layRoad 39 = .ok (.getfield 21, 3) := by decide +kernel
theorem dX6_layRoad_42 : decode cX6_layRoad 42 = .ok (.iload_n 2, 1) := by decide +kernel
theorem dX6_layRoad_43 : decode cX6_layRoad 43 = .ok (.dup2, 1) := by decide +kernel
theorem dX6_layRoad_44 : decode cX6_layRoad 44 = .ok (.iaload, 1) := by decide +kernel
theorem dX6_layRoad_45 : decode cX6_layRoad 45 = .ok (.iconst 1, 1) := by decide +kernel
theorem dX6_layRoad_46 : decode cX6_layRoad 46 = .ok (.iadd, 1) := by decide +kernel
theorem dX6_layRoad_47 : decode cX6_layRoad 47 = .ok (.iastore, 1) := by decide +kernel
theorem dX6_layRoad_48 : decode cX6_layRoad 48 = .ok (.aload_n 0, 1) := by decide +kernel
theorem dX6_layRoad_49 : decode cX6_layRoad 49 = .ok (.getfield 21, 3) := by decide +kernel
theorem dX6_layRoad_52 : decode cX6_layRoad 52 = .ok (.iload_n 3, 1) := by decide +kernel
theorem dX6_layRoad_53 : decode cX6_layRoad 53 = .ok (.dup2, 1) := by decide +kernel
theorem dX6_layRoad_54 : decode cX6_layRoad 54 = .ok (.iaload, 1) := by decide +kernel
theorem dX6_layRoad_55 : decode cX6_layRoad 55 = .ok (.iconst 1, 1) := by decide +kernel
theorem dX6_layRoad_56 : decode cX6_layRoad 56 = .ok (.iadd, 1) := by decide +kernel
theorem dX6_layRoad_57 : decode cX6_layRoad 57 = .ok (.iastore, 1) := by decide +kernel
theorem dX6_layRoad_58 : decode cX6_layRoad 58 = .ok (.return_, 1) := by decide +kernel
theorem dX6_measureSteps_0 : decode cX6_measureSteps 0 = .ok (.aload_n 0, 1) := by decide +kernel
theorem dX6_measureSteps_1 : decode cX6_measureSteps 1 = .ok (.getfield 26, 3) := by decide +kernel
theorem dX6_measureSteps_4 : decode cX6_measureSteps 4 = .ok (.iload_n 1, 1) := by decide +kernel
theorem dX6_measureSteps_5 : decode cX6_measureSteps 5 = .ok (.aaload, 1) := by decide +kernel
theorem dX6_measureSteps_6 : decode cX6_measureSteps 6 = .ok (.iconst (-1), 1) := by decide +kernel
theorem dX6_measureSteps_7 : decode cX6_measureSteps 7 = .ok (.invokestatic 60, 3) := by decide +kernel
theorem dX6_measureSteps_10 : decode cX6_measureSteps 10 = .ok (.iconst 1, 1) := by decide +kernel
theorem dX6_measureSteps_11 : decode cX6_measureSteps 11 = .ok (.iload_n 1, 1) := by decide +kernel
theorem dX6_measureSteps_12 : decode cX6_measureSteps 12 = .ok (.ishl, 1) := by decide +kernel
theorem dX6_measureSteps_13 : decode cX6_measureSteps 13 = .ok (.istore_n 2, 1) := by decide +kernel
theorem dX6_measureSteps_14 : decode cX6_measureSteps 14 = .ok (.aload_n 0, 1) := by decide +kernel
theorem dX6_measureSteps_15 : decode cX6_measureSteps 15 = .ok (.getfield 26, 3) := by decide +kernel
theorem dX6_measureSteps_18 : decode cX6_measureSteps 18 = .ok (.iload_n 1, 1) := by decide +kernel
theorem dX6_measureSteps_19 : decode cX6_measureSteps 19 = .ok (.aaload, 1) := by decide +kernel
theorem dX6_measureSteps_20 : decode cX6_measureSteps 20 = .ok (.iload_n 1, 1) := by decide +kernel
theorem dX6_measureSteps_21 : decode cX6_measureSteps 21 = .ok (.iconst 0, 1) := by decide +kernel
theorem dX6_measureSteps_22 : decode cX6_measureSteps 22 = .ok (.iastore, 1) := by decide +kernel
theorem dX6_measureSteps_23 : decode cX6_measureSteps 23 = .ok (.iconst 1, 1) := by decide +kernel
theorem dX6_measureSteps_24 : decode cX6_measureSteps 24 = .ok (.istore_n 3, 1) := by decide +kernel
theorem dX6_measureSteps_25 : decode cX6_measureSteps 25 = .ok (.iload_n 3, 1) := by decide +kernel
theorem dX6_measureSteps_26 : decode cX6_measureSteps 26 = .ok (.aload_n 0, 1) := by decide +kernel
theorem dX6_measureSteps_27 : decode cX6_measureSteps 27 = .ok (.getfield 38, 3) := by decide +kernel
theorem dX6_measureSteps_30 : decode cX6_measureSteps 30 = .ok (.if_icmp .ge 63, 3) := by decide +kernel
theorem dX6_measureSteps_33 : decode cX6_measureSteps 33 = .ok (.aload_n 0, 1) := by decide +kernel
theorem dX6_measureSteps_34 : decode cX6_measureSteps 34 = .ok (.iload_n 2, 1) := by decide +kernel
theorem dX6_measureSteps_35 : decode cX6_measureSteps 35 = .ok (.invokevirtual 66, 3) := by decide +kernel
theorem dX6_measureSteps_38 : decode cX6_measureSteps 38 = .ok (.iload_n 2, 1) := by decide +kernel
theorem dX6_measureSteps_39 : decode cX6_measureSteps 39 = .ok (.iconst (-1), 1) := by decide +kernel
theorem dX6_measureSteps_40 : decode cX6_measureSteps 40 = .ok (.ixor, 1) := by decide +kernel
theorem dX6_measureSteps_41 : decode cX6_measureSteps 41 = .ok (.iand, 1) := by decide +kernel
theorem dX6_measureSteps_42 : decode cX6_measureSteps 42 = .ok (.istore 4, 2) := by decide +kernel
theorem dX6_measureSteps_44 : decode cX6_measureSteps 44 = .ok (.iconst 0, 1) := by decide +kernel
theorem dX6_measureSteps_45 : decode cX6_measureSteps 45 = .ok (.istore 5, 2) := by decide +kernel
theorem dX6_measureSteps_47 : decode cX6_measureSteps 47 = .ok (.iload 5, 2) := by decide +kernel
theorem dX6_measureSteps_49 : decode cX6_measureSteps 49 = .ok (.aload_n 0, 1) := by decide +kernel
theorem dX6_measureSteps_50 : decode cX6_measureSteps 50 = .ok (.getfield 38, 3) := by decide +kernel
theorem dX6_measureSteps_53 : decode cX6_measureSteps 53 = .ok (.if_icmp .ge 29, 3) := by decide +kernel
theorem dX6_measureSteps_56 : decode cX6_measureSteps 56 = .ok (.iload 4, 2) := by decide +kernel
theorem dX6_measureSteps_58 : decode cX6_measureSteps 58 = .ok (.iload 5, 2) := by decide +kernel
theorem dX6_measureSteps_60 : decode cX6_measureSteps 60 = .ok (.invokestatic 69, 3) := by decide +kernel
theorem dX6_measureSteps_63 : decode cX6_measureSteps 63 = .ok (.ifCond .eq 13, 3) := by decide +kernel
theorem dX6_measureSteps_66 : decode cX6_measureSteps 66 = .ok (.aload_n 0, 1) := by decide +kernel
theorem dX6_measureSteps_67 : decode cX6_measureSteps 67 = .ok (.getfield 26, 3) := by decide +kernel
theorem dX6_measureSteps_70 : decode cX6_measureSteps 70 = .ok (.iload_n 1, 1) := by decide +kernel
theorem dX6_measureSteps_71 : decode cX6_measureSteps 71 = .ok (.aaload, 1) := by decide +kernel
theorem dX6_measureSteps_72 : decode cX6_measureSteps 72 = .ok (.iload 5, 2) := by decide +kernel
theorem dX6_measureSteps_74 : decode cX6_measureSteps 74 = .ok (.iload_n 3, 1) := by decide +kernel
theorem dX6_measureSteps_75 : decode cX6_measureSteps 75 = .ok (.iastore, 1) := by decide +kernel
theorem dX6_measureSteps_76 : decode cX6_measureSteps 76 = .ok (.iinc 5 1, 3) := by decide +kernel
theorem dX6_measureSteps_79 : decode cX6_measureSteps 79 = .ok (.goto (-32), 3) := by decide +kernel
theorem dX6_measureSteps_82 : decode cX6_measureSteps 82 = .ok (.iload_n 2, 1) := by decide +kernel
theorem dX6_measureSteps_83 : decode cX6_measureSteps 83 = .ok (.iload 4, 2) := by decide +kernel
theorem dX6_measureSteps_85 : decode cX6_measureSteps 85 = .ok (.ior, 1) := by decide +kernel
theorem dX6_measureSteps_86 : decode cX6_measureSteps 86 = .ok (.istore_n 2, 1) := by decide +kernel
theorem dX6_measureSteps_87 : decode cX6_measureSteps 87 = .ok (.iinc 3 1, 3) := by decide +kernel
theorem dX6_measureSteps_90 : decode cX6_measureSteps 90 = .ok (.goto (-65), 3) := by decide +kernel
theorem dX6_measureSteps_93 : decode cX6_measureSteps 93 = .ok (.return_, 1) := by decide +kernel
theorem dX6_spread_0 : decode cX6_spread 0 = .ok (.iconst 0, 1) := by decide +kernel
theorem dX6_spread_1 : decode cX6_spread 1 = .ok (.istore_n 2, 1) := by decide +kernel
theorem dX6_spread_2 : decode cX6_spread 2 = .ok (.iconst 0, 1) := by decide +kernel
theorem dX6_spread_3 : decode cX6_spread 3 = .ok (.istore_n 3, 1) := by decide +kernel
theorem dX6_spread_4 : decode cX6_spread 4 = .ok (.iload_n 3, 1) := by decide +kernel
theorem dX6_spread_5 : decode cX6_spread 5 = .ok (.aload_n 0, 1) := by decide +kernel
theorem dX6_spread_6 : decode cX6_spread 6 = .ok (.getfield 38, 3) := by decide +kernel
theorem dX6_spread_9 : decode cX6_spread 9 = .ok (.if_icmp .ge 26, 3) := by decide +kernel
theorem dX6_spread_12 : decode cX6_spread 12 = .ok (.iload_n 1, 1) := by decide +kernel
theorem dX6_spread_13 : decode cX6_spread 13 = .ok (.iload_n 3, 1) := by decide +kernel
theorem dX6_spread_14 : decode cX6_spread 14 = .ok (.invokestatic 69, 3) := by decide +kernel
theorem dX6_spread_17 : decode cX6_spread 17 = .ok (.ifCond .eq 12, 3) := by decide +kernel
theorem dX6_spread_20 : decode cX6_spread 20 = .ok (.iload_n 2, 1) := by decide +kernel
theorem dX6_spread_21 : decode cX6_spread 21 = .ok (.aload_n 0, 1) := by decide +kernel
theorem dX6_spread_22 : decode cX6_spread 22 = .ok (.getfield 18, 3) := by decide +kernel
theorem dX6_spread_25 : decode cX6_spread 25 = .ok (.iload_n 3, 1) := by decide +kernel
theorem dX6_spread_26 : decode cX6_spread 26 = .ok (.iaload, 1) := by decide +kernel
theorem dX6_spread_27 : decode cX6_spread 27 = .ok (.ior, 1) := by decide +kernel
theorem dX6_spread_28 : decode cX6_spread 28 = .ok (.istore_n 2, 1) := by decide +kernel
theorem dX6_spread_29 : decode cX6_spread 29 = .ok (.iinc 3 1, 3) := by decide +kernel
theorem dX6_spread_32 : decode cX6_spread 32 = .ok (.goto (-28), 3) := by decide +kernel
theorem dX6_spread_35 : decode cX6_spread 35 = .ok (.iload_n 2, 1) := by decide +kernel
theorem dX6_spread_36 : decode cX6_spread 36 = .ok (.ireturn, 1) := by decide +kernel
theorem dX6_measureCatches_0 : decode cX6_measureCatches 0 = .ok (.iconst 0, 1) := by decide +kernel
theorem dX6_measureCatches_1 : decode cX6_measureCatches 1 = .ok (.istore_n 1, 1) := by decide +kernel
theorem dX6_measureCatches_2 : decode cX6_measureCatches 2 = .ok (.iload_n 1, 1) := by decide +kernel
theorem dX6_measureCatches_3 : decode cX6_measureCatches 3 = .ok (.aload_n 0, 1) := by decide +kernel
theorem dX6_measureCatches_4 : decode cX6_measureCatches 4 = .ok (.getfield 38, 3) := by decide +kernel
theorem dX6_measureCatches_7 : decode cX6_measureCatches 7 = .ok (.if_icmp .ge 28, 3) := by decide +kernel
theorem dX6_measureCatches_10 : decode cX6_measureCatches 10 = .ok (.aload_n 0, 1) := by decide +kernel
theorem dX6_measureCatches_11 : decode cX6_measureCatches 11 = .ok (.getfield 29, 3) := by decide +kernel
theorem dX6_measureCatches_14 : decode cX6_measureCatches 14 = .ok (.iload_n 1, 1) := by decide +kernel
theorem dX6_measureCatches_15 : decode cX6_measureCatches 15 = .ok (.aaload, 1) := by decide +kernel
theorem dX6_measureCatches_16 : decode cX6_measureCatches 16 = .ok (.iconst (-1), 1) := by decide +kernel
theorem dX6_measureCatches_17 : decode cX6_measureCatches 17 = .ok (.invokestatic 60, 3) := by decide +kernel
theorem dX6_measureCatches_20 : decode cX6_measureCatches 20 = .ok (.aload_n 0, 1) := by decide +kernel
theorem dX6_measureCatches_21 : decode cX6_measureCatches 21 = .ok (.getfield 29, 3) := by decide +kernel
theorem dX6_measureCatches_24 : decode cX6_measureCatches 24 = .ok (.iload_n 1, 1) := by decide +kernel
theorem dX6_measureCatches_25 : decode cX6_measureCatches 25 = .ok (.aaload, 1) := by decide +kernel
theorem dX6_measureCatches_26 : decode cX6_measureCatches 26 = .ok (.iload_n 1, 1) := by decide +kernel
theorem dX6_measureCatches_27 : decode cX6_measureCatches 27 = .ok (.iconst 0, 1) := by decide +kernel
theorem dX6_measureCatches_28 : decode cX6_measureCatches 28 = .ok (.iastore, 1) := by decide +kernel
theorem dX6_measureCatches_29 : decode cX6_measureCatches 29 = .ok (.iinc 1 1, 3) := by decide +kernel
theorem dX6_measureCatches_32 : decode cX6_measureCatches 32 = .ok (.goto (-30), 3) := by decide +kernel
theorem dX6_measureCatches_35 : decode cX6_measureCatches 35 = .ok (.iconst 1, 1) := by decide +kernel
theorem dX6_measureCatches_36 : decode cX6_measureCatches 36 = .ok (.istore_n 1, 1) := by decide +kernel
theorem dX6_measureCatches_37 : decode cX6_measureCatches 37 = .ok (.iconst 1, 1) := by decide +kernel
theorem dX6_measureCatches_38 : decode cX6_measureCatches 38 = .ok (.istore_n 2, 1) := by decide +kernel
theorem dX6_measureCatches_39 : decode cX6_measureCatches 39 = .ok (.iload_n 2, 1) := by decide +kernel
theorem dX6_measureCatches_40 : decode cX6_measureCatches 40 = .ok (.bipush 40, 2) := by decide +kernel
theorem dX6_measureCatches_42 : decode cX6_measureCatches 42 = .ok (.if_icmp .gt 19, 3) := by decide +kernel
theorem dX6_measureCatches_45 : decode cX6_measureCatches 45 = .ok (.iload_n 1, 1) := by decide +kernel
theorem dX6_measureCatches_46 : decode cX6_measureCatches 46 = .ok (.ifCond .eq 15, 3) := by decide +kernel
theorem dX6_measureCatches_49 : decode cX6_measureCatches 49 = .ok (.aload_n 0, 1) := by decide +kernel
theorem dX6_measureCatches_50 : decode cX6_measureCatches 50 = .ok (.iload_n 2, 1) := by decide +kernel
theorem dX6_measureCatches_51 : decode cX6_measureCatches 51 = .ok (.invokevirtual 73, 3) := by decide +kernel
theorem dX6_measureCatches_54 : decode cX6_measureCatches 54 = .ok (.istore_n 1, 1) := by decide +kernel
theorem dX6_measureCatches_55 : decode cX6_measureCatches 55 = .ok (.iinc 2 1, 3) := by decide +kernel
theorem dX6_measureCatches_58 : decode cX6_measureCatches 58 = .ok (.goto (-19), 3) := by decide +kernel
theorem dX6_measureCatches_61 : decode cX6_measureCatches 61 = .ok (.return_, 1) := by decide +kernel
theorem dX6_findCatches_0 : decode cX6_findCatches 0 = .ok (.iconst 0, 1) := by decide +kernel
theorem dX6_findCatches_1 : decode cX6_findCatches 1 = .ok (.istore_n 2, 1) := by decide +kernel
theorem dX6_findCatches_2 : decode cX6_findCatches 2 = .ok (.iconst 0, 1) := by decide +kernel
theorem dX6_findCatches_3 : decode cX6_findCatches 3 = .ok (.istore_n 3, 1) := by decide +kernel
theorem dX6_findCatches_4 : decode cX6_findCatches 4 = .ok (.iload_n 3, 1) := by decide +kernel
theorem dX6_findCatches_5 : decode cX6_findCatches 5 = .ok (.aload_n 0, 1) := by decide +kernel
theorem dX6_findCatches_6 : decode cX6_findCatches 6 = .ok (.getfield 38, 3) := by decide +kernel
theorem dX6_findCatches_9 : decode cX6_findCatches 9 = .ok (.if_icmp .ge 63, 3) := by decide +kernel
theorem dX6_findCatches_12 : decode cX6_findCatches 12 = .ok (.iconst 0, 1) := by decide +kernel
theorem dX6_findCatches_13 : decode cX6_findCatches 13 = .ok (.istore 4, 2) := by decide +kernel
theorem dX6_findCatches_15 : decode cX6_findCatches 15 = .ok (.iload 4, 2) := by decide +kernel
theorem dX6_findCatches_17 : decode cX6_findCatches 17 = .ok (.aload_n 0, 1) := by decide +kernel
theorem dX6_findCatches_18 : decode cX6_findCatches 18 = .ok (.getfield 38, 3) := by decide +kernel
theorem dX6_findCatches_21 : decode cX6_findCatches 21 = .ok (.if_icmp .ge 45, 3) := by decide +kernel
theorem dX6_findCatches_24 : decode cX6_findCatches 24 = .ok (.aload_n 0, 1) := by decide +kernel
theorem dX6_findCatches_25 : decode cX6_findCatches 25 = .ok (.getfield 29, 3) := by decide +kernel
theorem dX6_findCatches_28 : decode cX6_findCatches 28 = .ok (.iload_n 3, 1) := by decide +kernel
theorem dX6_findCatches_29 : decode cX6_findCatches 29 = .ok (.aaload, 1) := by decide +kernel
theorem dX6_findCatches_30 : decode cX6_findCatches 30 = .ok (.iload 4, 2) := by decide +kernel
theorem dX6_findCatches_32 : decode cX6_findCatches 32 = .ok (.iaload, 1) := by decide +kernel
theorem dX6_findCatches_33 : decode cX6_findCatches 33 = .ok (.iconst (-1), 1) := by decide +kernel
theorem dX6_findCatches_34 : decode cX6_findCatches 34 = .ok (.if_icmp .ne 26, 3) := by decide +kernel
theorem dX6_findCatches_37 : decode cX6_findCatches 37 = .ok (.aload_n 0, 1) := by decide +kernel
theorem dX6_findCatches_38 : decode cX6_findCatches 38 = .ok (.iload_n 3, 1) := by decide +kernel
theorem dX6_findCatches_39 : decode cX6_findCatches 39 = .ok (.iload 4, 2) := by decide +kernel
theorem dX6_findCatches_41 : decode cX6_findCatches 41 = .ok (.iload_n 1, 1) := by decide +kernel
theorem dX6_findCatches_42 : decode cX6_findCatches 42 = .ok (.invokevirtual 77, 3) := by decide +kernel
theorem dX6_findCatches_45 : decode cX6_findCatches 45 = .ok (.ifCond .eq 15, 3) := by decide +kernel
theorem dX6_findCatches_48 : decode cX6_findCatches 48 = .ok (.aload_n 0, 1) := by decide +kernel
theorem dX6_findCatches_49 : decode cX6_findCatches 49 = .ok (.getfield 29, 3) := by decide +kernel
theorem dX6_findCatches_52 : decode cX6_findCatches 52 = .ok (.iload_n 3, 1) := by decide +kernel
theorem dX6_findCatches_53 : decode cX6_findCatches 53 = .ok (.aaload, 1) := by decide +kernel
theorem dX6_findCatches_54 : decode cX6_findCatches 54 = .ok (.iload 4, 2) := by decide +kernel
theorem dX6_findCatches_56 : decode cX6_findCatches 56 = .ok (.iload_n 1, 1) := by decide +kernel
theorem dX6_findCatches_57 : decode cX6_findCatches 57 = .ok (.iastore, 1) := by decide +kernel
theorem dX6_findCatches_58 : decode cX6_findCatches 58 = .ok (.iconst 1, 1) := by decide +kernel
theorem dX6_findCatches_59 : decode cX6_findCatches 59 = .ok (.istore_n 2, 1) := by decide +kernel
theorem dX6_findCatches_60 : decode cX6_findCatches 60 = .ok (.iinc 4 1, 3) := by decide +kernel
theorem dX6_findCatches_63 : decode cX6_findCatches 63 = .ok (.goto (-48), 3) := by decide +kernel
theorem dX6_findCatches_66 : decode cX6_findCatches 66 = .ok (.iinc 3 1, 3) := by decide +kernel
theorem dX6_findCatches_69 : decode cX6_findCatches 69 = .ok (.goto (-65), 3) := by decide +kernel
theorem dX6_findCatches_72 : decode cX6_findCatches 72 = .ok (.iload_n 2, 1) := by decide +kernel
theorem dX6_findCatches_73 : decode cX6_findCatches 73 = .ok (.ireturn, 1) := by decide +kernel
theorem dX6_isCaught_0 : decode cX6_isCaught 0 = .ok (.iconst 0, 1) := by decide +kernel
theorem dX6_isCaught_1 : decode cX6_isCaught 1 = .ok (.istore 4, 2) := by decide +kernel
theorem dX6_isCaught_3 : decode cX6_isCaught 3 = .ok (.iload 4, 2) := by decide +kernel
theorem dX6_isCaught_5 : decode cX6_isCaught 5 = .ok (.aload_n 0, 1) := by decide +kernel
theorem dX6_isCaught_6 : decode cX6_isCaught 6 = .ok (.getfield 38, 3) := by decide +kernel
theorem dX6_isCaught_9 : decode cX6_isCaught 9 = .ok (.if_icmp .ge 36, 3) := by decide +kernel
theorem dX6_isCaught_12 : decode cX6_isCaught 12 = .ok (.aload_n 0, 1) := by decide +kernel
theorem dX6_isCaught_13 : decode cX6_isCaught 13 = .ok (.getfield 18, 3) := by decide +kernel
theorem dX6_isCaught_16 : decode cX6_isCaught 16 = .ok (.iload_n 1, 1) := by decide +kernel
theorem dX6_isCaught_17 : decode cX6_isCaught 17 = .ok (.iaload, 1) := by decide +kernel
theorem dX6_isCaught_18 : decode cX6_isCaught 18 = .ok (.iload 4, 2) := by decide +kernel
theorem dX6_isCaught_20 : decode cX6_isCaught 20 = .ok (.invokestatic 69, 3) := by decide +kernel
theorem dX6_isCaught_23 : decode cX6_isCaught 23 = .ok (.ifCond .eq 16, 3) := by decide +kernel
theorem dX6_isCaught_26 : decode cX6_isCaught 26 = .ok (.aload_n 0, 1) := by decide +kernel
theorem dX6_isCaught_27 : decode cX6_isCaught 27 = .ok (.iload 4, 2) := by decide +kernel
theorem dX6_isCaught_29 : decode cX6_isCaught 29 = .ok (.iload_n 2, 1) := by decide +kernel
theorem dX6_isCaught_30 : decode cX6_isCaught 30 = .ok (.iload_n 3, 1) := by decide +kernel
theorem dX6_isCaught_31 : decode cX6_isCaught 31 = .ok (.invokevirtual 81, 3) := by decide +kernel
theorem dX6_isCaught_34 : decode cX6_isCaught 34 = .ok (.ifCond .ne 5, 3) := by decide +kernel
theorem dX6_isCaught_37 : decode cX6_isCaught 37 = .ok (.iconst 0, 1) := by decide +kernel
theorem dX6_isCaught_38 : decode cX6_isCaught 38 = .ok (.ireturn, 1) := by decide +kernel
theorem dX6_isCaught_39 : decode cX6_isCaught 39 = .ok (.iinc 4 1, 3) := by decide +kernel
theorem dX6_isCaught_42 : decode cX6_isCaught 42 = .ok (.goto (-39), 3) := by decide +kernel
theorem dX6_isCaught_45 : decode cX6_isCaught 45 = .ok (.iconst 1, 1) := by decide +kernel
theorem dX6_isCaught_46 : decode cX6_isCaught 46 = .ok (.ireturn, 1) := by decide +kernel
theorem dX6_canAnswer_0 : decode cX6_canAnswer 0 = .ok (.iconst 0, 1) := by decide +kernel
theorem dX6_canAnswer_1 : decode cX6_canAnswer 1 = .ok (.istore 4, 2) := by decide +kernel
theorem dX6_canAnswer_3 : decode cX6_canAnswer 3 = .ok (.iload 4, 2) := by decide +kernel
theorem dX6_canAnswer_5 : decode cX6_canAnswer 5 = .ok (.aload_n 0, 1) := by decide +kernel
theorem dX6_canAnswer_6 : decode cX6_canAnswer 6 = .ok (.getfield 38, 3) := by decide +kernel
theorem dX6_canAnswer_9 : decode cX6_canAnswer 9 = .ok (.if_icmp .ge 48, 3) := by decide +kernel
theorem dX6_canAnswer_12 : decode cX6_canAnswer 12 = .ok (.aload_n 0, 1) := by decide +kernel
theorem dX6_canAnswer_13 : decode cX6_canAnswer 13 = .ok (.getfield 29, 3) := by decide +kernel
theorem dX6_canAnswer_16 : decode cX6_canAnswer 16 = .ok (.iload_n 1, 1) := by decide +kernel
theorem dX6_canAnswer_17 : decode cX6_canAnswer 17 = .ok (.aaload, 1) := by decide +kernel
theorem dX6_canAnswer_18 : decode cX6_canAnswer 18 = .ok (.iload 4, 2) := by decide +kernel
theorem dX6_canAnswer_20 : decode cX6_canAnswer 20 = .ok (.iaload, 1) := by decide +kernel
theorem dX6_canAnswer_21 : decode cX6_canAnswer 21 = .ok (.istore 5, 2) := by decide +kernel
theorem dX6_canAnswer_23 : decode cX6_canAnswer 23 = .ok (.aload_n 0, 1) := by decide +kernel
theorem dX6_canAnswer_24 : decode cX6_canAnswer 24 = .ok (.getfield 18, 3) := by decide +kernel
theorem dX6_canAnswer_27 : decode cX6_canAnswer 27 = .ok (.iload_n 2, 1) := by decide +kernel
theorem dX6_canAnswer_28 : decode cX6_canAnswer 28 = .ok (.iaload, 1) := by decide +kernel
theorem dX6_canAnswer_29 : decode cX6_canAnswer 29 = .ok (.iload 4, 2) := by decide +kernel
theorem dX6_canAnswer_31 : decode cX6_canAnswer 31 = .ok (.invokestatic 69, 3) := by decide +kernel
theorem dX6_canAnswer_34 : decode cX6_canAnswer 34 = .ok (.ifCond .eq 17, 3) := by decide +kernel
theorem dX6_canAnswer_37 : decode cX6_canAnswer 37 = .ok (.iload 5, 2) := by decide +kernel
theorem dX6_canAnswer_39 : decode cX6_canAnswer 39 = .ok (.iconst (-1), 1) := by decide +kernel
theorem dX6_canAnswer_40 : decode cX6_canAnswer 40 = .ok (.if_icmp .eq 11, 3) := by decide +kernel
theorem dX6_canAnswer_43 : decode cX6_canAnswer 43 = .ok (.iload 5, 2) := by decide +kernel
theorem dX6_canAnswer_45 : decode cX6_canAnswer 45 = .ok (.iload_n 3, 1) := by decide +kernel
theorem dX6_canAnswer_46 : decode cX6_canAnswer 46 = .ok (.if_icmp .ge 5, 3) := by decide +kernel
theorem dX6_canAnswer_49 : decode cX6_canAnswer 49 = .ok (.iconst 1, 1) := by decide +kernel
theorem dX6_canAnswer_50 : decode cX6_canAnswer 50 = .ok (.ireturn, 1) := by decide +kernel
theorem dX6_canAnswer_51 : decode cX6_canAnswer 51 = .ok (.iinc 4 1, 3) := by decide +kernel
theorem dX6_canAnswer_54 : decode cX6_canAnswer 54 = .ok (.goto (-51), 3) := by decide +kernel
theorem dX6_canAnswer_57 : decode cX6_canAnswer 57 = .ok (.iconst 0, 1) := by decide +kernel
theorem dX6_canAnswer_58 : decode cX6_canAnswer 58 = .ok (.ireturn, 1) := by decide +kernel
theorem dJ11_isValidCodePoint_9a6ad_0 : decode cJ11_isValidCodePoint_9a6ad 0 = .ok (.iload_n 0, 1) := by decide +kernel
theorem dJ11_isValidCodePoint_9a6ad_1 : decode cJ11_isValidCodePoint_9a6ad 1 = .ok (.bipush 16, 2) := by decide +kernel
theorem dJ11_isValidCodePoint_9a6ad_3 : decode cJ11_isValidCodePoint_9a6ad 3 = .ok (.iushr, 1) := by decide +kernel
theorem dJ11_isValidCodePoint_9a6ad_4 : decode cJ11_isValidCodePoint_9a6ad 4 = .ok (.istore_n 1, 1) := by decide +kernel
theorem dJ11_isValidCodePoint_9a6ad_5 : decode cJ11_isValidCodePoint_9a6ad 5 = .ok (.iload_n 1, 1) := by decide +kernel
theorem dJ11_isValidCodePoint_9a6ad_6 : decode cJ11_isValidCodePoint_9a6ad 6 = .ok (.bipush 17, 2) := by decide +kernel
theorem dJ11_isValidCodePoint_9a6ad_8 : decode cJ11_isValidCodePoint_9a6ad 8 = .ok (.if_icmp .ge 7, 3) := by decide +kernel
theorem dJ11_isValidCodePoint_9a6ad_11 : decode cJ11_isValidCodePoint_9a6ad 11 = .ok (.iconst 1, 1) := by decide +kernel
theorem dJ11_isValidCodePoint_9a6ad_12 : decode cJ11_isValidCodePoint_9a6ad 12 = .ok (.goto 4, 3) := by decide +kernel
theorem dJ11_isValidCodePoint_9a6ad_15 : decode cJ11_isValidCodePoint_9a6ad 15 = .ok (.iconst 0, 1) := by decide +kernel
theorem dJ11_isValidCodePoint_9a6ad_16 : decode cJ11_isValidCodePoint_9a6ad 16 = .ok (.ireturn, 1) := by decide +kernel
theorem dJ11_highSurrogate_5068e_0 : decode cJ11_highSurrogate_5068e 0 = .ok (.iload_n 0, 1) := by decide +kernel
theorem dJ11_highSurrogate_5068e_1 : decode cJ11_highSurrogate_5068e 1 = .ok (.bipush 10, 2) := by decide +kernel
theorem dJ11_highSurrogate_5068e_3 : decode cJ11_highSurrogate_5068e 3 = .ok (.iushr, 1) := by decide +kernel
theorem dJ11_highSurrogate_5068e_4 : decode cJ11_highSurrogate_5068e 4 = .ok (.ldc 110, 2) := by decide +kernel
theorem dJ11_highSurrogate_5068e_6 : decode cJ11_highSurrogate_5068e 6 = .ok (.iadd, 1) := by decide +kernel
theorem dJ11_highSurrogate_5068e_7 : decode cJ11_highSurrogate_5068e 7 = .ok (.i2c, 1) := by decide +kernel
theorem dJ11_highSurrogate_5068e_8 : decode cJ11_highSurrogate_5068e 8 = .ok (.ireturn, 1) := by decide +kernel
theorem dJ11_lowSurrogate_5068e_0 : decode cJ11_lowSurrogate_5068e 0 = .ok (.iload_n 0, 1) := by decide +kernel
theorem dJ11_lowSurrogate_5068e_1 : decode cJ11_lowSurrogate_5068e 1 = .ok (.sipush 1023, 3) := by decide +kernel
theorem dJ11_lowSurrogate_5068e_4 : decode cJ11_lowSurrogate_5068e 4 = .ok (.iand, 1) := by decide +kernel
theorem dJ11_lowSurrogate_5068e_5 : decode cJ11_lowSurrogate_5068e 5 = .ok (.ldc 76, 2) := by decide +kernel
theorem dJ11_lowSurrogate_5068e_7 : decode cJ11_lowSurrogate_5068e 7 = .ok (.iadd, 1) := by decide +kernel
theorem dJ11_lowSurrogate_5068e_8 : decode cJ11_lowSurrogate_5068e 8 = .ok (.i2c, 1) := by decide +kernel
theorem dJ11_lowSurrogate_5068e_9 : decode cJ11_lowSurrogate_5068e 9 = .ok (.ireturn, 1) := by decide +kernel
theorem dJ6_bitCount_0f7a4_0 : decode cJ6_bitCount_0f7a4 0 = .ok (.iload_n 0, 1) := by decide +kernel
theorem dJ6_bitCount_0f7a4_1 : decode cJ6_bitCount_0f7a4 1 = .ok (.iload_n 0, 1) := by decide +kernel
theorem dJ6_bitCount_0f7a4_2 : decode cJ6_bitCount_0f7a4 2 = .ok (.iconst 1, 1) := by decide +kernel
theorem dJ6_bitCount_0f7a4_3 : decode cJ6_bitCount_0f7a4 3 = .ok (.iushr, 1) := by decide +kernel
theorem dJ6_bitCount_0f7a4_4 : decode cJ6_bitCount_0f7a4 4 = .ok (.ldc_w 265, 3) := by decide +kernel
theorem dJ6_bitCount_0f7a4_7 : decode cJ6_bitCount_0f7a4 7 = .ok (.iand, 1) := by decide +kernel
theorem dJ6_bitCount_0f7a4_8 : decode cJ6_bitCount_0f7a4 8 = .ok (.isub, 1) := by decide +kernel
theorem dJ6_bitCount_0f7a4_9 : decode cJ6_bitCount_0f7a4 9 = .ok (.istore_n 0, 1) := by decide +kernel
theorem dJ6_bitCount_0f7a4_10 : decode cJ6_bitCount_0f7a4 10 = .ok (.iload_n 0, 1) := by decide +kernel
theorem dJ6_bitCount_0f7a4_11 : decode cJ6_bitCount_0f7a4 11 = .ok (.ldc_w 266, 3) := by decide +kernel
theorem dJ6_bitCount_0f7a4_14 : decode cJ6_bitCount_0f7a4 14 = .ok (.iand, 1) := by decide +kernel
theorem dJ6_bitCount_0f7a4_15 : decode cJ6_bitCount_0f7a4 15 = .ok (.iload_n 0, 1) := by decide +kernel
theorem dJ6_bitCount_0f7a4_16 : decode cJ6_bitCount_0f7a4 16 = .ok (.iconst 2, 1) := by decide +kernel
theorem dJ6_bitCount_0f7a4_17 : decode cJ6_bitCount_0f7a4 17 = .ok (.iushr, 1) := by decide +kernel
theorem dJ6_bitCount_0f7a4_18 : decode cJ6_bitCount_0f7a4 18 = .ok (.ldc_w 266, 3) := by decide +kernel
theorem dJ6_bitCount_0f7a4_21 : decode cJ6_bitCount_0f7a4 21 = .ok (.iand, 1) := by decide +kernel
theorem dJ6_bitCount_0f7a4_22 : decode cJ6_bitCount_0f7a4 22 = .ok (.iadd, 1) := by decide +kernel
theorem dJ6_bitCount_0f7a4_23 : decode cJ6_bitCount_0f7a4 23 = .ok (.istore_n 0, 1) := by decide +kernel
theorem dJ6_bitCount_0f7a4_24 : decode cJ6_bitCount_0f7a4 24 = .ok (.iload_n 0, 1) := by decide +kernel
theorem dJ6_bitCount_0f7a4_25 : decode cJ6_bitCount_0f7a4 25 = .ok (.iload_n 0, 1) := by decide +kernel
theorem dJ6_bitCount_0f7a4_26 : decode cJ6_bitCount_0f7a4 26 = .ok (.iconst 4, 1) := by decide +kernel
theorem dJ6_bitCount_0f7a4_27 : decode cJ6_bitCount_0f7a4 27 = .ok (.iushr, 1) := by decide +kernel
theorem dJ6_bitCount_0f7a4_28 : decode cJ6_bitCount_0f7a4 28 = .ok (.iadd, 1) := by decide +kernel
theorem dJ6_bitCount_0f7a4_29 : decode cJ6_bitCount_0f7a4 29 = .ok (.ldc_w 267, 3) := by decide +kernel
theorem dJ6_bitCount_0f7a4_32 : decode cJ6_bitCount_0f7a4 32 = .ok (.iand, 1) := by decide +kernel
theorem dJ6_bitCount_0f7a4_33 : decode cJ6_bitCount_0f7a4 33 = .ok (.istore_n 0, 1) := by decide +kernel
theorem dJ6_bitCount_0f7a4_34 : decode cJ6_bitCount_0f7a4 34 = .ok (.iload_n 0, 1) := by decide +kernel
theorem dJ6_bitCount_0f7a4_35 : decode cJ6_bitCount_0f7a4 35 = .ok (.iload_n 0, 1) := by decide +kernel
theorem dJ6_bitCount_0f7a4_36 : decode cJ6_bitCount_0f7a4 36 = .ok (.bipush 8, 2) := by decide +kernel
theorem dJ6_bitCount_0f7a4_38 : decode cJ6_bitCount_0f7a4 38 = .ok (.iushr, 1) := by decide +kernel
theorem dJ6_bitCount_0f7a4_39 : decode cJ6_bitCount_0f7a4 39 = .ok (.iadd, 1) := by decide +kernel
theorem dJ6_bitCount_0f7a4_40 : decode cJ6_bitCount_0f7a4 40 = .ok (.istore_n 0, 1) := by decide +kernel
theorem dJ6_bitCount_0f7a4_41 : decode cJ6_bitCount_0f7a4 41 = .ok (.iload_n 0, 1) := by decide +kernel
theorem dJ6_bitCount_0f7a4_42 : decode cJ6_bitCount_0f7a4 42 = .ok (.iload_n 0, 1) := by decide +kernel
theorem dJ6_bitCount_0f7a4_43 : decode cJ6_bitCount_0f7a4 43 = .ok (.bipush 16, 2) := by decide +kernel
theorem dJ6_bitCount_0f7a4_45 : decode cJ6_bitCount_0f7a4 45 = .ok (.iushr, 1) := by decide +kernel
theorem dJ6_bitCount_0f7a4_46 : decode cJ6_bitCount_0f7a4 46 = .ok (.iadd, 1) := by decide +kernel
theorem dJ6_bitCount_0f7a4_47 : decode cJ6_bitCount_0f7a4 47 = .ok (.istore_n 0, 1) := by decide +kernel
theorem dJ6_bitCount_0f7a4_48 : decode cJ6_bitCount_0f7a4 48 = .ok (.iload_n 0, 1) := by decide +kernel
theorem dJ6_bitCount_0f7a4_49 : decode cJ6_bitCount_0f7a4 49 = .ok (.bipush 63, 2) := by decide +kernel
theorem dJ6_bitCount_0f7a4_51 : decode cJ6_bitCount_0f7a4 51 = .ok (.iand, 1) := by decide +kernel
theorem dJ6_bitCount_0f7a4_52 : decode cJ6_bitCount_0f7a4 52 = .ok (.ireturn, 1) := by decide +kernel
theorem dJ9_max_7cf53_0 : decode cJ9_max_7cf53 0 = .ok (.iload_n 0, 1) := by decide +kernel
theorem dJ9_max_7cf53_1 : decode cJ9_max_7cf53 1 = .ok (.iload_n 1, 1) := by decide +kernel
theorem dJ9_max_7cf53_2 : decode cJ9_max_7cf53 2 = .ok (.if_icmp .lt 7, 3) := by decide +kernel
theorem dJ9_max_7cf53_5 : decode cJ9_max_7cf53 5 = .ok (.iload_n 0, 1) := by decide +kernel
theorem dJ9_max_7cf53_6 : decode cJ9_max_7cf53 6 = .ok (.goto 4, 3) := by decide +kernel
theorem dJ9_max_7cf53_9 : decode cJ9_max_7cf53 9 = .ok (.iload_n 1, 1) := by decide +kernel
theorem dJ9_max_7cf53_10 : decode cJ9_max_7cf53 10 = .ok (.ireturn, 1) := by decide +kernel
theorem dJ9_max_f86c9_0 : decode cJ9_max_f86c9 0 = .ok (.lload_n 0, 1) := by decide +kernel
theorem dJ9_max_f86c9_1 : decode cJ9_max_f86c9 1 = .ok (.lload_n 2, 1) := by decide +kernel
theorem dJ9_max_f86c9_2 : decode cJ9_max_f86c9 2 = .ok (.lcmp, 1) := by decide +kernel
theorem dJ9_max_f86c9_3 : decode cJ9_max_f86c9 3 = .ok (.ifCond .lt 7, 3) := by decide +kernel
theorem dJ9_max_f86c9_6 : decode cJ9_max_f86c9 6 = .ok (.lload_n 0, 1) := by decide +kernel
theorem dJ9_max_f86c9_7 : decode cJ9_max_f86c9 7 = .ok (.goto 4, 3) := by decide +kernel
theorem dJ9_max_f86c9_10 : decode cJ9_max_f86c9 10 = .ok (.lload_n 2, 1) := by decide +kernel
theorem dJ9_max_f86c9_11 : decode cJ9_max_f86c9 11 = .ok (.lreturn, 1) := by decide +kernel
theorem dJ9_min_7cf53_0 : decode cJ9_min_7cf53 0 = .ok (.iload_n 0, 1) := by decide +kernel
theorem dJ9_min_7cf53_1 : decode cJ9_min_7cf53 1 = .ok (.iload_n 1, 1) := by decide +kernel
theorem dJ9_min_7cf53_2 : decode cJ9_min_7cf53 2 = .ok (.if_icmp .gt 7, 3) := by decide +kernel
theorem dJ9_min_7cf53_5 : decode cJ9_min_7cf53 5 = .ok (.iload_n 0, 1) := by decide +kernel
theorem dJ9_min_7cf53_6 : decode cJ9_min_7cf53 6 = .ok (.goto 4, 3) := by decide +kernel
theorem dJ9_min_7cf53_9 : decode cJ9_min_7cf53 9 = .ok (.iload_n 1, 1) := by decide +kernel
theorem dJ9_min_7cf53_10 : decode cJ9_min_7cf53 10 = .ok (.ireturn, 1) := by decide +kernel
theorem dJ0_length_8abf5_0 : decode cJ0_length_8abf5 0 = .ok (.aload_n 0, 1) := by decide +kernel
theorem dJ0_length_8abf5_1 : decode cJ0_length_8abf5 1 = .ok (.getfield 9, 3) := by decide +kernel
theorem dJ0_length_8abf5_4 : decode cJ0_length_8abf5 4 = .ok (.arraylength, 1) := by decide +kernel
theorem dJ0_length_8abf5_5 : decode cJ0_length_8abf5 5 = .ok (.aload_n 0, 1) := by decide +kernel
theorem dJ0_length_8abf5_6 : decode cJ0_length_8abf5 6 = .ok (.invokevirtual 335, 3) := by decide +kernel
theorem dJ0_length_8abf5_9 : decode cJ0_length_8abf5 9 = .ok (.ishr, 1) := by decide +kernel
theorem dJ0_length_8abf5_10 : decode cJ0_length_8abf5 10 = .ok (.ireturn, 1) := by decide +kernel
theorem dJ0_indexOf_0f7a4_0 : decode cJ0_indexOf_0f7a4 0 = .ok (.aload_n 0, 1) := by decide +kernel
theorem dJ0_indexOf_0f7a4_1 : decode cJ0_indexOf_0f7a4 1 = .ok (.iload_n 1, 1) := by decide +kernel
theorem dJ0_indexOf_0f7a4_2 : decode cJ0_indexOf_0f7a4 2 = .ok (.iconst 0, 1) := by decide +kernel
theorem dJ0_indexOf_0f7a4_3 : decode cJ0_indexOf_0f7a4 3 = .ok (.invokevirtual 633, 3) := by decide +kernel
theorem dJ0_indexOf_0f7a4_6 : decode cJ0_indexOf_0f7a4 6 = .ok (.ireturn, 1) := by decide +kernel
theorem dJ0_indexOf_7cf53_0 : decode cJ0_indexOf_7cf53 0 = .ok (.aload_n 0, 1) := by decide +kernel
theorem dJ0_indexOf_7cf53_1 : decode cJ0_indexOf_7cf53 1 = .ok (.invokevirtual 492, 3) := by decide +kernel
theorem dJ0_indexOf_7cf53_4 : decode cJ0_indexOf_7cf53 4 = .ok (.ifCond .eq 19, 3) := by decide +kernel
theorem dJ0_indexOf_7cf53_7 : decode cJ0_indexOf_7cf53 7 = .ok (.aload_n 0, 1) := by decide +kernel
theorem dJ0_indexOf_7cf53_8 : decode cJ0_indexOf_7cf53 8 = .ok (.getfield 9, 3) := by decide +kernel
theorem dJ0_indexOf_7cf53_11 : decode cJ0_indexOf_7cf53 11 = .ok (.iload_n 1, 1) := by decide +kernel
theorem dJ0_indexOf_7cf53_12 : decode cJ0_indexOf_7cf53 12 = .ok (.iload_n 2, 1) := by decide +kernel
theorem dJ0_indexOf_7cf53_13 : decode cJ0_indexOf_7cf53 13 = .ok (.aload_n 0, 1) := by decide +kernel
theorem dJ0_indexOf_7cf53_14 : decode cJ0_indexOf_7cf53 14 = .ok (.invokevirtual 505, 3) := by decide +kernel
theorem dJ0_indexOf_7cf53_17 : decode cJ0_indexOf_7cf53 17 = .ok (.invokestatic 637, 3) := by decide +kernel
theorem dJ0_indexOf_7cf53_20 : decode cJ0_indexOf_7cf53 20 = .ok (.goto 16, 3) := by decide +kernel
theorem dJ0_indexOf_7cf53_23 : decode cJ0_indexOf_7cf53 23 = .ok (.aload_n 0, 1) := by decide +kernel
theorem dJ0_indexOf_7cf53_24 : decode cJ0_indexOf_7cf53 24 = .ok (.getfield 9, 3) := by decide +kernel
theorem dJ0_indexOf_7cf53_27 : decode cJ0_indexOf_7cf53 27 = .ok (.iload_n 1, 1) := by decide +kernel
theorem dJ0_indexOf_7cf53_28 : decode cJ0_indexOf_7cf53 28 = .ok (.iload_n 2, 1) := by decide +kernel
theorem dJ0_indexOf_7cf53_29 : decode cJ0_indexOf_7cf53 29 = .ok (.aload_n 0, 1) := by decide +kernel
theorem dJ0_indexOf_7cf53_30 : decode cJ0_indexOf_7cf53 30 = .ok (.invokevirtual 505, 3) := by decide +kernel
theorem dJ0_indexOf_7cf53_33 : decode cJ0_indexOf_7cf53 33 = .ok (.invokestatic 640, 3) := by decide +kernel
theorem dJ0_indexOf_7cf53_36 : decode cJ0_indexOf_7cf53 36 = .ok (.ireturn, 1) := by decide +kernel
theorem dJ0_coder_7d493_0 : decode cJ0_coder_7d493 0 = .ok (.getstatic 38, 3) := by decide +kernel
theorem dJ0_coder_7d493_3 : decode cJ0_coder_7d493 3 = .ok (.ifCond .eq 10, 3) := by decide +kernel
theorem dJ0_coder_7d493_6 : decode cJ0_coder_7d493 6 = .ok (.aload_n 0, 1) := by decide +kernel
theorem dJ0_coder_7d493_7 : decode cJ0_coder_7d493 7 = .ok (.getfield 15, 3) := by decide +kernel
theorem dJ0_coder_7d493_10 : decode cJ0_coder_7d493 10 = .ok (.goto 4, 3) := by decide +kernel
theorem dJ0_coder_7d493_13 : decode cJ0_coder_7d493 13 = .ok (.iconst 1, 1) := by decide +kernel
theorem dJ0_coder_7d493_14 : decode cJ0_coder_7d493 14 = .ok (.ireturn, 1) := by decide +kernel
theorem dJ0_isLatin1_aae02_0 : decode cJ0_isLatin1_aae02 0 = .ok (.getstatic 38, 3) := by decide +kernel
theorem dJ0_isLatin1_aae02_3 : decode cJ0_isLatin1_aae02 3 = .ok (.ifCond .eq 14, 3) := by decide +kernel
theorem dJ0_isLatin1_aae02_6 : decode cJ0_isLatin1_aae02 6 = .ok (.aload_n 0, 1) := by decide +kernel
theorem dJ0_isLatin1_aae02_7 : decode cJ0_isLatin1_aae02 7 = .ok (.getfield 15, 3) := by decide +kernel
theorem dJ0_isLatin1_aae02_10 : decode cJ0_isLatin1_aae02 10 = .ok (.ifCond .ne 7, 3) := by decide +kernel
theorem dJ0_isLatin1_aae02_13 : decode cJ0_isLatin1_aae02 13 = .ok (.iconst 1, 1) := by decide +kernel
theorem dJ0_isLatin1_aae02_14 : decode cJ0_isLatin1_aae02 14 = .ok (.goto 4, 3) := by decide +kernel
theorem dJ0_isLatin1_aae02_17 : decode cJ0_isLatin1_aae02 17 = .ok (.iconst 0, 1) := by decide +kernel
theorem dJ0_isLatin1_aae02_18 : decode cJ0_isLatin1_aae02 18 = .ok (.ireturn, 1) := by decide +kernel
theorem dJ0_checkBoundsBeginEnd_23922_0 : decode cJ0_checkBoundsBeginEnd_23922 0 = .ok (.iload_n 0, 1) := by decide +kernel
theorem dJ0_checkBoundsBeginEnd_23922_1 : decode cJ0_checkBoundsBeginEnd_23922 1 = .ok (.iload_n 1, 1) := by decide +kernel
theorem dJ0_checkBoundsBeginEnd_23922_2 : decode cJ0_checkBoundsBeginEnd_23922 2 = .ok (.iload_n 2, 1) := by decide +kernel
theorem dJ0_checkBoundsBeginEnd_23922_3 : decode cJ0_checkBoundsBeginEnd_23922 3 = .ok (.getstatic 1053, 3) := by decide +kernel
theorem dJ0_checkBoundsBeginEnd_23922_6 : decode cJ0_checkBoundsBeginEnd_23922 6 = .ok (.invokestatic 1062, 3) := by decide +kernel
theorem dJ0_checkBoundsBeginEnd_23922_9 : decode cJ0_checkBoundsBeginEnd_23922 9 = .ok (.pop, 1) := by decide +kernel
theorem dJ0_checkBoundsBeginEnd_23922_10 : decode cJ0_checkBoundsBeginEnd_23922 10 = .ok (.return_, 1) := by decide +kernel
theorem dJ1_canEncode_9a6ad_0 : decode cJ1_canEncode_9a6ad 0 = .ok (.iload_n 0, 1) := by decide +kernel
theorem dJ1_canEncode_9a6ad_1 : decode cJ1_canEncode_9a6ad 1 = .ok (.ifCond .lt 14, 3) := by decide +kernel
theorem dJ1_canEncode_9a6ad_4 : decode cJ1_canEncode_9a6ad 4 = .ok (.iload_n 0, 1) := by decide +kernel
theorem dJ1_canEncode_9a6ad_5 : decode cJ1_canEncode_9a6ad 5 = .ok (.sipush 255, 3) := by decide +kernel
theorem dJ1_canEncode_9a6ad_8 : decode cJ1_canEncode_9a6ad 8 = .ok (.if_icmp .gt 7, 3) := by decide +kernel
theorem dJ1_canEncode_9a6ad_11 : decode cJ1_canEncode_9a6ad 11 = .ok (.iconst 1, 1) := by decide +kernel
theorem dJ1_canEncode_9a6ad_12 : decode cJ1_canEncode_9a6ad 12 = .ok (.goto 4, 3) := by decide +kernel
theorem dJ1_canEncode_9a6ad_15 : decode cJ1_canEncode_9a6ad 15 = .ok (.iconst 0, 1) := by decide +kernel
theorem dJ1_canEncode_9a6ad_16 : decode cJ1_canEncode_9a6ad 16 = .ok (.ireturn, 1) := by decide +kernel
theorem dJ1_indexOf_4cfef_0 : decode cJ1_indexOf_4cfef 0 = .ok (.iload_n 1, 1) := by decide +kernel
theorem dJ1_indexOf_4cfef_1 : decode cJ1_indexOf_4cfef 1 = .ok (.invokestatic 88, 3) := by decide +kernel
theorem dJ1_indexOf_4cfef_4 : decode cJ1_indexOf_4cfef 4 = .ok (.ifCond .ne 5, 3) := by decide +kernel
theorem dJ1_indexOf_4cfef_7 : decode cJ1_indexOf_4cfef 7 = .ok (.iconst (-1), 1) := by decide +kernel
theorem dJ1_indexOf_4cfef_8 : decode cJ1_indexOf_4cfef 8 = .ok (.ireturn, 1) := by decide +kernel
theorem dJ1_indexOf_4cfef_9 : decode cJ1_indexOf_4cfef 9 = .ok (.iload_n 2, 1) := by decide +kernel
theorem dJ1_indexOf_4cfef_10 : decode cJ1_indexOf_4cfef 10 = .ok (.iconst 0, 1) := by decide +kernel
theorem dJ1_indexOf_4cfef_11 : decode cJ1_indexOf_4cfef 11 = .ok (.invokestatic 92, 3) := by decide +kernel
theorem dJ1_indexOf_4cfef_14 : decode cJ1_indexOf_4cfef 14 = .ok (.istore_n 2, 1) := by decide +kernel
theorem dJ1_indexOf_4cfef_15 : decode cJ1_indexOf_4cfef 15 = .ok (.iload_n 3, 1) := by decide +kernel
theorem dJ1_indexOf_4cfef_16 : decode cJ1_indexOf_4cfef 16 = .ok (.aload_n 0, 1) := by decide +kernel
theorem dJ1_indexOf_4cfef_17 : decode cJ1_indexOf_4cfef 17 = .ok (.arraylength, 1) := by decide +kernel
theorem dJ1_indexOf_4cfef_18 : decode cJ1_indexOf_4cfef 18 = .ok (.invokestatic 38, 3) := by decide +kernel
theorem dJ1_indexOf_4cfef_21 : decode cJ1_indexOf_4cfef 21 = .ok (.istore_n 3, 1) := by decide +kernel
theorem dJ1_indexOf_4cfef_22 : decode cJ1_indexOf_4cfef 22 = .ok (.iload_n 2, 1) := by decide +kernel
theorem dJ1_indexOf_4cfef_23 : decode cJ1_indexOf_4cfef 23 = .ok (.iload_n 3, 1) := by decide +kernel
theorem dJ1_indexOf_4cfef_24 : decode cJ1_indexOf_4cfef 24 = .ok (.if_icmp .lt 5, 3) := by decide +kernel
theorem dJ1_indexOf_4cfef_27 : decode cJ1_indexOf_4cfef 27 = .ok (.iconst (-1), 1) := by decide +kernel
theorem dJ1_indexOf_4cfef_28 : decode cJ1_indexOf_4cfef 28 = .ok (.ireturn, 1) := by decide +kernel
theorem dJ1_indexOf_4cfef_29 : decode cJ1_indexOf_4cfef 29 = .ok (.aload_n 0, 1) := by decide +kernel
theorem dJ1_indexOf_4cfef_30 : decode cJ1_indexOf_4cfef 30 = .ok (.iload_n 1, 1) := by decide +kernel
theorem dJ1_indexOf_4cfef_31 : decode cJ1_indexOf_4cfef 31 = .ok (.iload_n 2, 1) := by decide +kernel
theorem dJ1_indexOf_4cfef_32 : decode cJ1_indexOf_4cfef 32 = .ok (.iload_n 3, 1) := by decide +kernel
theorem dJ1_indexOf_4cfef_33 : decode cJ1_indexOf_4cfef 33 = .ok (.invokestatic 95, 3) := by decide +kernel
theorem dJ1_indexOf_4cfef_36 : decode cJ1_indexOf_4cfef 36 = .ok (.ireturn, 1) := by decide +kernel
theorem dJ1_indexOfChar_4cfef_0 : decode cJ1_indexOfChar_4cfef 0 = .ok (.iload_n 1, 1) := by decide +kernel
theorem dJ1_indexOfChar_4cfef_1 : decode cJ1_indexOfChar_4cfef 1 = .ok (.i2b, 1) := by decide +kernel
theorem dJ1_indexOfChar_4cfef_2 : decode cJ1_indexOfChar_4cfef 2 = .ok (.istore 4, 2) := by decide +kernel
theorem dJ1_indexOfChar_4cfef_4 : decode cJ1_indexOfChar_4cfef 4 = .ok (.iload_n 2, 1) := by decide +kernel
theorem dJ1_indexOfChar_4cfef_5 : decode cJ1_indexOfChar_4cfef 5 = .ok (.istore 5, 2) := by decide +kernel
theorem dJ1_indexOfChar_4cfef_7 : decode cJ1_indexOfChar_4cfef 7 = .ok (.iload 5, 2) := by decide +kernel
theorem dJ1_indexOfChar_4cfef_9 : decode cJ1_indexOfChar_4cfef 9 = .ok (.iload_n 3, 1) := by decide +kernel
theorem dJ1_indexOfChar_4cfef_10 : decode cJ1_indexOfChar_4cfef 10 = .ok (.if_icmp .ge 21, 3) := by decide +kernel
theorem dJ1_indexOfChar_4cfef_13 : decode cJ1_indexOfChar_4cfef 13 = .ok (.aload_n 0, 1) := by decide +kernel
theorem dJ1_indexOfChar_4cfef_14 : decode cJ1_indexOfChar_4cfef 14 = .ok (.iload 5, 2) := by decide +kernel
theorem dJ1_indexOfChar_4cfef_16 : decode cJ1_indexOfChar_4cfef 16 = .ok (.baload, 1) := by decide +kernel
theorem dJ1_indexOfChar_4cfef_17 : decode cJ1_indexOfChar_4cfef 17 = .ok (.iload 4, 2) := by decide +kernel
theorem dJ1_indexOfChar_4cfef_19 : decode cJ1_indexOfChar_4cfef 19 = .ok (.if_icmp .ne 6, 3) := by decide +kernel
theorem dJ1_indexOfChar_4cfef_22 : decode cJ1_indexOfChar_4cfef 22 = .ok (.iload 5, 2) := by decide +kernel
theorem dJ1_indexOfChar_4cfef_24 : decode cJ1_indexOfChar_4cfef 24 = .ok (.ireturn, 1) := by decide +kernel
theorem dJ1_indexOfChar_4cfef_25 : decode cJ1_indexOfChar_4cfef 25 = .ok (.iinc 5 1, 3) := by decide +kernel
theorem dJ1_indexOfChar_4cfef_28 : decode cJ1_indexOfChar_4cfef 28 = .ok (.goto (-21), 3) := by decide +kernel
theorem dJ1_indexOfChar_4cfef_31 : decode cJ1_indexOfChar_4cfef 31 = .ok (.iconst (-1), 1) := by decide +kernel
theorem dJ1_indexOfChar_4cfef_32 : decode cJ1_indexOfChar_4cfef 32 = .ok (.ireturn, 1) := by decide +kernel
theorem dJ2_getChar_3b067_0 : decode cJ2_getChar_3b067 0 = .ok (.getstatic 44, 3) := by decide +kernel
theorem dJ2_getChar_3b067_3 : decode cJ2_getChar_3b067 3 = .ok (.ifCond .ne 25, 3) := by decide +kernel
theorem dJ2_getChar_3b067_6 : decode cJ2_getChar_3b067 6 = .ok (.iload_n 1, 1) := by decide +kernel
theorem dJ2_getChar_3b067_7 : decode cJ2_getChar_3b067 7 = .ok (.ifCond .lt 11, 3) := by decide +kernel
theorem dJ2_getChar_3b067_10 : decode cJ2_getChar_3b067 10 = .ok (.iload_n 1, 1) := by decide +kernel
theorem dJ2_getChar_3b067_11 : decode cJ2_getChar_3b067 11 = .ok (.aload_n 0, 1) := by decide +kernel
theorem dJ2_getChar_3b067_12 : decode cJ2_getChar_3b067 12 = .ok (.invokestatic 48, 3) := by decide +kernel
theorem dJ2_getChar_3b067_15 : decode cJ2_getChar_3b067 15 = .ok (.if_icmp .lt 13, 3) := by decide +kernel
theorem dJ2_getChar_3b067_18 : decode cJ2_getChar_3b067 18 = .ok (.new 52, 3) := by decide +kernel
theorem dJ2_getChar_3b067_21 : decode cJ2_getChar_3b067 21 = .ok (.dup, 1) := by decide +kernel
theorem dJ2_getChar_3b067_22 : decode cJ2_getChar_3b067 22 = .ok (.ldc 54, 2) := by decide +kernel
theorem dJ2_getChar_3b067_24 : decode cJ2_getChar_3b067 24 = .ok (.invokespecial 56, 3) := by decide +kernel
theorem dJ2_getChar_3b067_27 : decode cJ2_getChar_3b067 27 = .ok (.athrow, 1) := by decide +kernel
theorem dJ2_getChar_3b067_28 : decode cJ2_getChar_3b067 28 = .ok (.iload_n 1, 1) := by decide +kernel
theorem dJ2_getChar_3b067_29 : decode cJ2_getChar_3b067 29 = .ok (.iconst 1, 1) := by decide +kernel
theorem dJ2_getChar_3b067_30 : decode cJ2_getChar_3b067 30 = .ok (.ishl, 1) := by decide +kernel
theorem dJ2_getChar_3b067_31 : decode cJ2_getChar_3b067 31 = .ok (.istore_n 1, 1) := by decide +kernel
theorem dJ2_getChar_3b067_32 : decode cJ2_getChar_3b067 32 = .ok (.aload_n 0, 1) := by decide +kernel
theorem dJ2_getChar_3b067_33 : decode cJ2_getChar_3b067 33 = .ok (.iload_n 1, 1) := by decide +kernel
theorem dJ2_getChar_3b067_34 : decode cJ2_getChar_3b067 34 = .ok (.iinc 1 1, 3) := by decide +kernel
theorem dJ2_getChar_3b067_37 : decode cJ2_getChar_3b067 37 = .ok (.baload, 1) := by decide +kernel
theorem dJ2_getChar_3b067_38 : decode cJ2_getChar_3b067 38 = .ok (.sipush 255, 3) := by decide +kernel
theorem dJ2_getChar_3b067_41 : decode cJ2_getChar_3b067 41 = .ok (.iand, 1) := by decide +kernel
theorem dJ2_getChar_3b067_42 : decode cJ2_getChar_3b067 42 = .ok (.getstatic 59, 3) := by decide +kernel
theorem dJ2_getChar_3b067_45 : decode cJ2_getChar_3b067 45 = .ok (.ishl, 1) := by decide +kernel
theorem dJ2_getChar_3b067_46 : decode cJ2_getChar_3b067 46 = .ok (.aload_n 0, 1) := by decide +kernel
theorem dJ2_getChar_3b067_47 : decode cJ2_getChar_3b067 47 = .ok (.iload_n 1, 1) := by decide +kernel
theorem dJ2_getChar_3b067_48 : decode cJ2_getChar_3b067 48 = .ok (.baload, 1) := by decide +kernel
theorem dJ2_getChar_3b067_49 : decode cJ2_getChar_3b067 49 = .ok (.sipush 255, 3) := by decide +kernel
theorem dJ2_getChar_3b067_52 : decode cJ2_getChar_3b067 52 = .ok (.iand, 1) := by decide +kernel
theorem dJ2_getChar_3b067_53 : decode cJ2_getChar_3b067 53 = .ok (.getstatic 63, 3) := by decide +kernel
theorem dJ2_getChar_3b067_56 : decode cJ2_getChar_3b067 56 = .ok (.ishl, 1) := by decide +kernel
theorem dJ2_getChar_3b067_57 : decode cJ2_getChar_3b067 57 = .ok (.ior, 1) := by decide +kernel
theorem dJ2_getChar_3b067_58 : decode cJ2_getChar_3b067 58 = .ok (.i2c, 1) := by decide +kernel
theorem dJ2_getChar_3b067_59 : decode cJ2_getChar_3b067 59 = .ok (.ireturn, 1) := by decide +kernel
theorem dJ2_length_9d52b_0 : decode cJ2_length_9d52b 0 = .ok (.aload_n 0, 1) := by decide +kernel
theorem dJ2_length_9d52b_1 : decode cJ2_length_9d52b 1 = .ok (.arraylength, 1) := by decide +kernel
theorem dJ2_length_9d52b_2 : decode cJ2_length_9d52b 2 = .ok (.iconst 1, 1) := by decide +kernel
theorem dJ2_length_9d52b_3 : decode cJ2_length_9d52b 3 = .ok (.ishr, 1) := by decide +kernel
theorem dJ2_length_9d52b_4 : decode cJ2_length_9d52b 4 = .ok (.ireturn, 1) := by decide +kernel
theorem dJ2_indexOf_4cfef_0 : decode cJ2_indexOf_4cfef 0 = .ok (.iload_n 2, 1) := by decide +kernel
theorem dJ2_indexOf_4cfef_1 : decode cJ2_indexOf_4cfef 1 = .ok (.iconst 0, 1) := by decide +kernel
theorem dJ2_indexOf_4cfef_2 : decode cJ2_indexOf_4cfef 2 = .ok (.invokestatic 224, 3) := by decide +kernel
theorem dJ2_indexOf_4cfef_5 : decode cJ2_indexOf_4cfef 5 = .ok (.istore_n 2, 1) := by decide +kernel
theorem dJ2_indexOf_4cfef_6 : decode cJ2_indexOf_4cfef 6 = .ok (.iload_n 3, 1) := by decide +kernel
theorem dJ2_indexOf_4cfef_7 : decode cJ2_indexOf_4cfef 7 = .ok (.aload_n 0, 1) := by decide +kernel
theorem dJ2_indexOf_4cfef_8 : decode cJ2_indexOf_4cfef 8 = .ok (.arraylength, 1) := by decide +kernel
theorem dJ2_indexOf_4cfef_9 : decode cJ2_indexOf_4cfef 9 = .ok (.iconst 1, 1) := by decide +kernel
theorem dJ2_indexOf_4cfef_10 : decode cJ2_indexOf_4cfef 10 = .ok (.ishr, 1) := by decide +kernel
theorem dJ2_indexOf_4cfef_11 : decode cJ2_indexOf_4cfef 11 = .ok (.invokestatic 183, 3) := by decide +kernel
theorem dJ2_indexOf_4cfef_14 : decode cJ2_indexOf_4cfef 14 = .ok (.istore_n 3, 1) := by decide +kernel
theorem dJ2_indexOf_4cfef_15 : decode cJ2_indexOf_4cfef 15 = .ok (.iload_n 2, 1) := by decide +kernel
theorem dJ2_indexOf_4cfef_16 : decode cJ2_indexOf_4cfef 16 = .ok (.iload_n 3, 1) := by decide +kernel
theorem dJ2_indexOf_4cfef_17 : decode cJ2_indexOf_4cfef 17 = .ok (.if_icmp .lt 5, 3) := by decide +kernel
theorem dJ2_indexOf_4cfef_20 : decode cJ2_indexOf_4cfef 20 = .ok (.iconst (-1), 1) := by decide +kernel
theorem dJ2_indexOf_4cfef_21 : decode cJ2_indexOf_4cfef 21 = .ok (.ireturn, 1) := by decide +kernel
theorem dJ2_indexOf_4cfef_22 : decode cJ2_indexOf_4cfef 22 = .ok (.iload_n 1, 1) := by decide +kernel
theorem dJ2_indexOf_4cfef_23 : decode cJ2_indexOf_4cfef 23 = .ok (.ldc 227, 2) := by decide +kernel
theorem dJ2_indexOf_4cfef_25 : decode cJ2_indexOf_4cfef 25 = .ok (.if_icmp .ge 11, 3) := by decide +kernel
theorem dJ2_indexOf_4cfef_28 : decode cJ2_indexOf_4cfef 28 = .ok (.aload_n 0, 1) := by decide +kernel
theorem dJ2_indexOf_4cfef_29 : decode cJ2_indexOf_4cfef 29 = .ok (.iload_n 1, 1) := by decide +kernel
theorem dJ2_indexOf_4cfef_30 : decode cJ2_indexOf_4cfef 30 = .ok (.iload_n 2, 1) := by decide +kernel
theorem dJ2_indexOf_4cfef_31 : decode cJ2_indexOf_4cfef 31 = .ok (.iload_n 3, 1) := by decide +kernel
theorem dJ2_indexOf_4cfef_32 : decode cJ2_indexOf_4cfef 32 = .ok (.invokestatic 228, 3) := by decide +kernel
theorem dJ2_indexOf_4cfef_35 : decode cJ2_indexOf_4cfef 35 = .ok (.ireturn, 1) := by decide +kernel
theorem dJ2_indexOf_4cfef_36 : decode cJ2_indexOf_4cfef 36 = .ok (.aload_n 0, 1) := by decide +kernel
theorem dJ2_indexOf_4cfef_37 : decode cJ2_indexOf_4cfef 37 = .ok (.iload_n 1, 1) := by decide +kernel
theorem dJ2_indexOf_4cfef_38 : decode cJ2_indexOf_4cfef 38 = .ok (.iload_n 2, 1) := by decide +kernel
theorem dJ2_indexOf_4cfef_39 : decode cJ2_indexOf_4cfef 39 = .ok (.iload_n 3, 1) := by decide +kernel
theorem dJ2_indexOf_4cfef_40 : decode cJ2_indexOf_4cfef 40 = .ok (.invokestatic 232, 3) := by decide +kernel
theorem dJ2_indexOf_4cfef_43 : decode cJ2_indexOf_4cfef 43 = .ok (.ireturn, 1) := by decide +kernel
theorem dJ2_indexOfChar_4cfef_0 : decode cJ2_indexOfChar_4cfef 0 = .ok (.iload_n 2, 1) := by decide +kernel
theorem dJ2_indexOfChar_4cfef_1 : decode cJ2_indexOfChar_4cfef 1 = .ok (.iload_n 3, 1) := by decide +kernel
theorem dJ2_indexOfChar_4cfef_2 : decode cJ2_indexOfChar_4cfef 2 = .ok (.aload_n 0, 1) := by decide +kernel
theorem dJ2_indexOfChar_4cfef_3 : decode cJ2_indexOfChar_4cfef 3 = .ok (.invokestatic 96, 3) := by decide +kernel
theorem dJ2_indexOfChar_4cfef_6 : decode cJ2_indexOfChar_4cfef 6 = .ok (.aload_n 0, 1) := by decide +kernel
theorem dJ2_indexOfChar_4cfef_7 : decode cJ2_indexOfChar_4cfef 7 = .ok (.iload_n 1, 1) := by decide +kernel
theorem dJ2_indexOfChar_4cfef_8 : decode cJ2_indexOfChar_4cfef 8 = .ok (.iload_n 2, 1) := by decide +kernel
theorem dJ2_indexOfChar_4cfef_9 : decode cJ2_indexOfChar_4cfef 9 = .ok (.iload_n 3, 1) := by decide +kernel
theorem dJ2_indexOfChar_4cfef_10 : decode cJ2_indexOfChar_4cfef 10 = .ok (.invokestatic 244, 3) := by decide +kernel
theorem dJ2_indexOfChar_4cfef_13 : decode cJ2_indexOfChar_4cfef 13 = .ok (.ireturn, 1) := by decide +kernel
theorem dJ2_indexOfCharUnsafe_4cfef_0 : decode cJ2_indexOfCharUnsafe_4cfef 0 = .ok (.iload_n 2, 1) := by decide +kernel
theorem dJ2_indexOfCharUnsafe_4cfef_1 : decode cJ2_indexOfCharUnsafe_4cfef 1 = .ok (.istore 4, 2) := by decide +kernel
theorem dJ2_indexOfCharUnsafe_4cfef_3 : decode cJ2_indexOfCharUnsafe_4cfef 3 = .ok (.iload 4, 2) := by decide +kernel
theorem dJ2_indexOfCharUnsafe_4cfef_5 : decode cJ2_indexOfCharUnsafe_4cfef 5 = .ok (.iload_n 3, 1) := by decide +kernel
theorem dJ2_indexOfCharUnsafe_4cfef_6 : decode cJ2_indexOfCharUnsafe_4cfef 6 = .ok (.if_icmp .ge 22, 3) := by decide +kernel
theorem dJ2_indexOfCharUnsafe_4cfef_9 : decode cJ2_indexOfCharUnsafe_4cfef 9 = .ok (.aload_n 0, 1) := by decide +kernel
theorem dJ2_indexOfCharUnsafe_4cfef_10 : decode cJ2_indexOfCharUnsafe_4cfef 10 = .ok (.iload 4, 2) := by decide +kernel
theorem dJ2_indexOfCharUnsafe_4cfef_12 : decode cJ2_indexOfCharUnsafe_4cfef 12 = .ok (.invokestatic 71, 3) := by decide +kernel
theorem dJ2_indexOfCharUnsafe_4cfef_15 : decode cJ2_indexOfCharUnsafe_4cfef 15 = .ok (.iload_n 1, 1) := by decide +kernel
theorem dJ2_indexOfCharUnsafe_4cfef_16 : decode cJ2_indexOfCharUnsafe_4cfef 16 = .ok (.if_icmp .ne 6, 3) := by decide +kernel
theorem dJ2_indexOfCharUnsafe_4cfef_19 : decode cJ2_indexOfCharUnsafe_4cfef 19 = .ok (.iload 4, 2) := by decide +kernel
theorem dJ2_indexOfCharUnsafe_4cfef_21 : decode cJ2_indexOfCharUnsafe_4cfef 21 = .ok (.ireturn, 1) := by decide +kernel
theorem dJ2_indexOfCharUnsafe_4cfef_22 : decode cJ2_indexOfCharUnsafe_4cfef 22 = .ok (.iinc 4 1, 3) := by decide +kernel
theorem dJ2_indexOfCharUnsafe_4cfef_25 : decode cJ2_indexOfCharUnsafe_4cfef 25 = .ok (.goto (-22), 3) := by decide +kernel
theorem dJ2_indexOfCharUnsafe_4cfef_28 : decode cJ2_indexOfCharUnsafe_4cfef 28 = .ok (.iconst (-1), 1) := by decide +kernel
theorem dJ2_indexOfCharUnsafe_4cfef_29 : decode cJ2_indexOfCharUnsafe_4cfef 29 = .ok (.ireturn, 1) := by decide +kernel
theorem dJ2_indexOfSupplementary_4cfef_0 : decode cJ2_indexOfSupplementary_4cfef 0 = .ok (.iload_n 1, 1) := by decide +kernel
theorem dJ2_indexOfSupplementary_4cfef_1 : decode cJ2_indexOfSupplementary_4cfef 1 = .ok (.invokestatic 164, 3) := by decide +kernel
theorem dJ2_indexOfSupplementary_4cfef_4 : decode cJ2_indexOfSupplementary_4cfef 4 = .ok (.ifCond .eq 65, 3) := by decide +kernel
theorem dJ2_indexOfSupplementary_4cfef_7 : decode cJ2_indexOfSupplementary_4cfef 7 = .ok (.iload_n 1, 1) := by decide +kernel
theorem dJ2_indexOfSupplementary_4cfef_8 : decode cJ2_indexOfSupplementary_4cfef 8 = .ok (.invokestatic 157, 3) := by decide +kernel
theorem dJ2_indexOfSupplementary_4cfef_11 : decode cJ2_indexOfSupplementary_4cfef 11 = .ok (.istore 4, 2) := by decide +kernel
theorem dJ2_indexOfSupplementary_4cfef_13 : decode cJ2_indexOfSupplementary_4cfef 13 = .ok (.iload_n 1, 1) := by decide +kernel
theorem dJ2_indexOfSupplementary_4cfef_14 : decode cJ2_indexOfSupplementary_4cfef 14 = .ok (.invokestatic 161, 3) := by decide +kernel
theorem dJ2_indexOfSupplementary_4cfef_17 : decode cJ2_indexOfSupplementary_4cfef 17 = .ok (.istore 5, 2) := by decide +kernel
theorem dJ2_indexOfSupplementary_4cfef_19 : decode cJ2_indexOfSupplementary_4cfef 19 = .ok (.iload_n 2, 1) := by decide +kernel
theorem dJ2_indexOfSupplementary_4cfef_20 : decode cJ2_indexOfSupplementary_4cfef 20 = .ok (.iload_n 3, 1) := by decide +kernel
theorem dJ2_indexOfSupplementary_4cfef_21 : decode cJ2_indexOfSupplementary_4cfef 21 = .ok (.aload_n 0, 1) := by decide +kernel
theorem dJ2_indexOfSupplementary_4cfef_22 : decode cJ2_indexOfSupplementary_4cfef 22 = .ok (.invokestatic 96, 3) := by decide +kernel
theorem dJ2_indexOfSupplementary_4cfef_25 : decode cJ2_indexOfSupplementary_4cfef 25 = .ok (.iload_n 2, 1) := by decide +kernel
theorem dJ2_indexOfSupplementary_4cfef_26 : decode cJ2_indexOfSupplementary_4cfef 26 = .ok (.istore 6, 2) := by decide +kernel
theorem dJ2_indexOfSupplementary_4cfef_28 : decode cJ2_indexOfSupplementary_4cfef 28 = .ok (.iload 6, 2) := by decide +kernel
theorem dJ2_indexOfSupplementary_4cfef_30 : decode cJ2_indexOfSupplementary_4cfef 30 = .ok (.iload_n 3, 1) := by decide +kernel
theorem dJ2_indexOfSupplementary_4cfef_31 : decode cJ2_indexOfSupplementary_4cfef 31 = .ok (.iconst 1, 1) := by decide +kernel
theorem dJ2_indexOfSupplementary_4cfef_32 : decode cJ2_indexOfSupplementary_4cfef 32 = .ok (.isub, 1) := by decide +kernel
theorem dJ2_indexOfSupplementary_4cfef_33 : decode cJ2_indexOfSupplementary_4cfef 33 = .ok (.if_icmp .ge 36, 3) := by decide +kernel
theorem dJ2_indexOfSupplementary_4cfef_36 : decode cJ2_indexOfSupplementary_4cfef 36 = .ok (.aload_n 0, 1) := by decide +kernel
theorem dJ2_indexOfSupplementary_4cfef_37 : decode cJ2_indexOfSupplementary_4cfef 37 = .ok (.iload 6, 2) := by decide +kernel
theorem dJ2_indexOfSupplementary_4cfef_39 : decode cJ2_indexOfSupplementary_4cfef 39 = .ok (.invokestatic 71, 3) := by decide +kernel
theorem dJ2_indexOfSupplementary_4cfef_42 : decode cJ2_indexOfSupplementary_4cfef 42 = .ok (.iload 4, 2) := by decide +kernel
theorem dJ2_indexOfSupplementary_4cfef_44 : decode cJ2_indexOfSupplementary_4cfef 44 = .ok (.if_icmp .ne 19, 3) := by decide +kernel
theorem dJ2_indexOfSupplementary_4cfef_47 : decode cJ2_indexOfSupplementary_4cfef 47 = .ok (.aload_n 0, 1) := by decide +kernel
theorem dJ2_indexOfSupplementary_4cfef_48 : decode cJ2_indexOfSupplementary_4cfef 48 = .ok (.iload 6, 2) := by decide +kernel
theorem dJ2_indexOfSupplementary_4cfef_50 : decode cJ2_indexOfSupplementary_4cfef 50 = .ok (.iconst 1, 1) := by decide +kernel
theorem dJ2_indexOfSupplementary_4cfef_51 : decode cJ2_indexOfSupplementary_4cfef 51 = .ok (.iadd, 1) := by decide +kernel
theorem dJ2_indexOfSupplementary_4cfef_52 : decode cJ2_indexOfSupplementary_4cfef 52 = .ok (.invokestatic 71, 3) := by decide +kernel
theorem dJ2_indexOfSupplementary_4cfef_55 : decode cJ2_indexOfSupplementary_4cfef 55 = .ok (.iload 5, 2) := by decide +kernel
theorem dJ2_indexOfSupplementary_4cfef_57 : decode cJ2_indexOfSupplementary_4cfef 57 = .ok (.if_icmp .ne 6, 3) := by decide +kernel
theorem dJ2_indexOfSupplementary_4cfef_60 : decode cJ2_indexOfSupplementary_4cfef 60 = .ok (.iload 6, 2) := by decide +kernel
theorem dJ2_indexOfSupplementary_4cfef_62 : decode cJ2_indexOfSupplementary_4cfef 62 = .ok (.ireturn, 1) := by decide +kernel
theorem dJ2_indexOfSupplementary_4cfef_63 : decode cJ2_indexOfSupplementary_4cfef 63 = .ok (.iinc 6 1, 3) := by decide +kernel
theorem dJ2_indexOfSupplementary_4cfef_66 : decode cJ2_indexOfSupplementary_4cfef 66 = .ok (.goto (-38), 3) := by decide +kernel
theorem dJ2_indexOfSupplementary_4cfef_69 : decode cJ2_indexOfSupplementary_4cfef 69 = .ok (.iconst (-1), 1) := by decide +kernel
theorem dJ2_indexOfSupplementary_4cfef_70 : decode cJ2_indexOfSupplementary_4cfef 70 = .ok (.ireturn, 1) := by decide +kernel
theorem dJ2_checkBoundsBeginEnd_d044e_0 : decode cJ2_checkBoundsBeginEnd_d044e 0 = .ok (.iload_n 0, 1) := by decide +kernel
theorem dJ2_checkBoundsBeginEnd_d044e_1 : decode cJ2_checkBoundsBeginEnd_d044e 1 = .ok (.iload_n 1, 1) := by decide +kernel
theorem dJ2_checkBoundsBeginEnd_d044e_2 : decode cJ2_checkBoundsBeginEnd_d044e 2 = .ok (.aload_n 2, 1) := by decide +kernel
theorem dJ2_checkBoundsBeginEnd_d044e_3 : decode cJ2_checkBoundsBeginEnd_d044e 3 = .ok (.invokestatic 48, 3) := by decide +kernel
theorem dJ2_checkBoundsBeginEnd_d044e_6 : decode cJ2_checkBoundsBeginEnd_d044e 6 = .ok (.invokestatic 241, 3) := by decide +kernel
theorem dJ2_checkBoundsBeginEnd_d044e_9 : decode cJ2_checkBoundsBeginEnd_d044e 9 = .ok (.return_, 1) := by decide +kernel
theorem dJ7_fill_d0a16_0 : decode cJ7_fill_d0a16 0 = .ok (.iconst 0, 1) := by decide +kernel
theorem dJ7_fill_d0a16_1 : decode cJ7_fill_d0a16 1 = .ok (.istore_n 3, 1) := by decide +kernel
theorem dJ7_fill_d0a16_2 : decode cJ7_fill_d0a16 2 = .ok (.aload_n 0, 1) := by decide +kernel
theorem dJ7_fill_d0a16_3 : decode cJ7_fill_d0a16 3 = .ok (.arraylength, 1) := by decide +kernel
theorem dJ7_fill_d0a16_4 : decode cJ7_fill_d0a16 4 = .ok (.istore 4, 2) := by decide +kernel
theorem dJ7_fill_d0a16_6 : decode cJ7_fill_d0a16 6 = .ok (.iload_n 3, 1) := by decide +kernel
theorem dJ7_fill_d0a16_7 : decode cJ7_fill_d0a16 7 = .ok (.iload 4, 2) := by decide +kernel
theorem dJ7_fill_d0a16_9 : decode cJ7_fill_d0a16 9 = .ok (.if_icmp .ge 13, 3) := by decide +kernel
theorem dJ7_fill_d0a16_12 : decode cJ7_fill_d0a16 12 = .ok (.aload_n 0, 1) := by decide +kernel
theorem dJ7_fill_d0a16_13 : decode cJ7_fill_d0a16 13 = .ok (.iload_n 3, 1) := by decide +kernel
theorem dJ7_fill_d0a16_14 : decode cJ7_fill_d0a16 14 = .ok (.lload_n 1, 1) := by decide +kernel
theorem dJ7_fill_d0a16_15 : decode cJ7_fill_d0a16 15 = .ok (.lastore, 1) := by decide +kernel
theorem dJ7_fill_d0a16_16 : decode cJ7_fill_d0a16 16 = .ok (.iinc 3 1, 3) := by decide +kernel
theorem dJ7_fill_d0a16_19 : decode cJ7_fill_d0a16 19 = .ok (.goto (-13), 3) := by decide +kernel
theorem dJ7_fill_d0a16_22 : decode cJ7_fill_d0a16 22 = .ok (.return_, 1) := by decide +kernel
theorem dJ7_fill_53178_0 : decode cJ7_fill_53178 0 = .ok (.iconst 0, 1) := by decide +kernel
theorem dJ7_fill_53178_1 : decode cJ7_fill_53178 1 = .ok (.istore_n 2, 1) := by decide +kernel
theorem dJ7_fill_53178_2 : decode cJ7_fill_53178 2 = .ok (.aload_n 0, 1) := by decide +kernel
theorem dJ7_fill_53178_3 : decode cJ7_fill_53178 3 = .ok (.arraylength, 1) := by decide +kernel
theorem dJ7_fill_53178_4 : decode cJ7_fill_53178 4 = .ok (.istore_n 3, 1) := by decide +kernel
theorem dJ7_fill_53178_5 : decode cJ7_fill_53178 5 = .ok (.iload_n 2, 1) := by decide +kernel
theorem dJ7_fill_53178_6 : decode cJ7_fill_53178 6 = .ok (.iload_n 3, 1) := by decide +kernel
theorem dJ7_fill_53178_7 : decode cJ7_fill_53178 7 = .ok (.if_icmp .ge 13, 3) := by decide +kernel
theorem dJ7_fill_53178_10 : decode cJ7_fill_53178 10 = .ok (.aload_n 0, 1) := by decide +kernel
theorem dJ7_fill_53178_11 : decode cJ7_fill_53178 11 = .ok (.iload_n 2, 1) := by decide +kernel
theorem dJ7_fill_53178_12 : decode cJ7_fill_53178 12 = .ok (.iload_n 1, 1) := by decide +kernel
theorem dJ7_fill_53178_13 : decode cJ7_fill_53178 13 = .ok (.iastore, 1) := by decide +kernel
theorem dJ7_fill_53178_14 : decode cJ7_fill_53178 14 = .ok (.iinc 2 1, 3) := by decide +kernel
theorem dJ7_fill_53178_17 : decode cJ7_fill_53178 17 = .ok (.goto (-12), 3) := by decide +kernel
theorem dJ7_fill_53178_20 : decode cJ7_fill_53178 20 = .ok (.return_, 1) := by decide +kernel
theorem dJ3_checkFromToIndex_8c36e_0 : decode cJ3_checkFromToIndex_8c36e 0 = .ok (.iload_n 0, 1) := by decide +kernel
theorem dJ3_checkFromToIndex_8c36e_1 : decode cJ3_checkFromToIndex_8c36e 1 = .ok (.ifCond .lt 13, 3) := by decide +kernel
theorem dJ3_checkFromToIndex_8c36e_4 : decode cJ3_checkFromToIndex_8c36e 4 = .ok (.iload_n 0, 1) := by decide +kernel
theorem dJ3_checkFromToIndex_8c36e_5 : decode cJ3_checkFromToIndex_8c36e 5 = .ok (.iload_n 1, 1) := by decide +kernel
theorem dJ3_checkFromToIndex_8c36e_6 : decode cJ3_checkFromToIndex_8c36e 6 = .ok (.if_icmp .gt 8, 3) := by decide +kernel
theorem dJ3_checkFromToIndex_8c36e_9 : decode cJ3_checkFromToIndex_8c36e 9 = .ok (.iload_n 1, 1) := by decide +kernel
theorem dJ3_checkFromToIndex_8c36e_10 : decode cJ3_checkFromToIndex_8c36e 10 = .ok (.iload_n 2, 1) := by decide +kernel
theorem dJ3_checkFromToIndex_8c36e_11 : decode cJ3_checkFromToIndex_8c36e 11 = .ok (.if_icmp .le 11, 3) := by decide +kernel
theorem dJ3_checkFromToIndex_8c36e_14 : decode cJ3_checkFromToIndex_8c36e 14 = .ok (.aload_n 3, 1) := by decide +kernel
theorem dJ3_checkFromToIndex_8c36e_15 : decode cJ3_checkFromToIndex_8c36e 15 = .ok (.iload_n 0, 1) := by decide +kernel
theorem dJ3_checkFromToIndex_8c36e_16 : decode cJ3_checkFromToIndex_8c36e 16 = .ok (.iload_n 1, 1) := by decide +kernel
theorem dJ3_checkFromToIndex_8c36e_17 : decode cJ3_checkFromToIndex_8c36e 17 = .ok (.iload_n 2, 1) := by decide +kernel
theorem dJ3_checkFromToIndex_8c36e_18 : decode cJ3_checkFromToIndex_8c36e 18 = .ok (.invokestatic 99, 3) := by decide +kernel
theorem dJ3_checkFromToIndex_8c36e_21 : decode cJ3_checkFromToIndex_8c36e 21 = .ok (.athrow, 1) := by decide +kernel
theorem dJ3_checkFromToIndex_8c36e_22 : decode cJ3_checkFromToIndex_8c36e 22 = .ok (.iload_n 0, 1) := by decide +kernel
theorem dJ3_checkFromToIndex_8c36e_23 : decode cJ3_checkFromToIndex_8c36e 23 = .ok (.ireturn, 1) := by decide +kernel
