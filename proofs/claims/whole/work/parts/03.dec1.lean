theorem dX0_init_0 : decode cX0_init 0 = .ok (.aload_n 0, 1) := by decide +kernel
theorem dX0_init_1 : decode cX0_init 1 = .ok (.invokespecial 1, 3) := by decide +kernel
theorem dX0_init_4 : decode cX0_init 4 = .ok (.return_, 1) := by decide +kernel
theorem dX1_init_0 : decode cX1_init 0 = .ok (.aload_n 0, 1) := by decide +kernel
theorem dX1_init_1 : decode cX1_init 1 = .ok (.invokespecial 3, 3) := by decide +kernel
theorem dX1_init_4 : decode cX1_init 4 = .ok (.aload_n 0, 1) := by decide +kernel
theorem dX1_init_5 : decode cX1_init 5 = .ok (.bipush 8, 2) := by decide +kernel
theorem dX1_init_7 : decode cX1_init 7 = .ok (.newarray .int, 2) := by decide +kernel
theorem dX1_init_9 : decode cX1_init 9 = .ok (.putfield 9, 3) := by decide +kernel
theorem dX1_init_12 : decode cX1_init 12 = .ok (.aload_n 0, 1) := by decide +kernel
theorem dX1_init_13 : decode cX1_init 13 = .ok (.bipush 8, 2) := by decide +kernel
theorem dX1_init_15 : decode cX1_init 15 = .ok (.newarray .int, 2) := by decide +kernel
theorem dX1_init_17 : decode cX1_init 17 = .ok (.putfield 15, 3) := by decide +kernel
theorem dX1_init_20 : decode cX1_init 20 = .ok (.aload_n 0, 1) := by decide +kernel
theorem dX1_init_21 : decode cX1_init 21 = .ok (.bipush 8, 2) := by decide +kernel
theorem dX1_init_23 : decode cX1_init 23 = .ok (.newarray .int, 2) := by decide +kernel
theorem dX1_init_25 : decode cX1_init 25 = .ok (.putfield 18, 3) := by decide +kernel
theorem dX1_init_28 : decode cX1_init 28 = .ok (.aload_n 0, 1) := by decide +kernel
theorem dX1_init_29 : decode cX1_init 29 = .ok (.bipush 8, 2) := by decide +kernel
theorem dX1_init_31 : decode cX1_init 31 = .ok (.newarray .int, 2) := by decide +kernel
theorem dX1_init_33 : decode cX1_init 33 = .ok (.putfield 21, 3) := by decide +kernel
theorem dX1_init_36 : decode cX1_init 36 = .ok (.aload_n 0, 1) := by decide +kernel
theorem dX1_init_37 : decode cX1_init 37 = .ok (.bipush 8, 2) := by decide +kernel
theorem dX1_init_39 : decode cX1_init 39 = .ok (.newarray .int, 2) := by decide +kernel
theorem dX1_init_41 : decode cX1_init 41 = .ok (.putfield 24, 3) := by decide +kernel
theorem dX1_init_44 : decode cX1_init 44 = .ok (.return_, 1) := by decide +kernel
theorem dX1_begin_0 : decode cX1_begin 0 = .ok (.aload_n 0, 1) := by decide +kernel
theorem dX1_begin_1 : decode cX1_begin 1 = .ok (.iconst 1, 1) := by decide +kernel
theorem dX1_begin_2 : decode cX1_begin 2 = .ok (.iload_n 1, 1) := by decide +kernel
theorem dX1_begin_3 : decode cX1_begin 3 = .ok (.bipush 8, 2) := by decide +kernel
theorem dX1_begin_5 : decode cX1_begin 5 = .ok (.invokestatic 27, 3) := by decide +kernel
theorem dX1_begin_8 : decode cX1_begin 8 = .ok (.invokestatic 33, 3) := by decide +kernel
theorem dX1_begin_11 : decode cX1_begin 11 = .ok (.putfield 36, 3) := by decide +kernel
theorem dX1_begin_14 : decode cX1_begin 14 = .ok (.aload_n 0, 1) := by decide +kernel
theorem dX1_begin_15 : decode cX1_begin 15 = .ok (.iconst 0, 1) := by decide +kernel
theorem dX1_begin_16 : decode cX1_begin 16 = .ok (.putfield 40, 3) := by decide +kernel
theorem dX1_begin_19 : decode cX1_begin 19 = .ok (.return_, 1) := by decide +kernel
theorem dX1_hold_0 : decode cX1_hold 0 = .ok (.aload_n 0, 1) := by decide +kernel
theorem dX1_hold_1 : decode cX1_hold 1 = .ok (.getfield 40, 3) := by decide +kernel
theorem dX1_hold_4 : decode cX1_hold 4 = .ok (.bipush 8, 2) := by decide +kernel
theorem dX1_hold_6 : decode cX1_hold 6 = .ok (.if_icmp .ge 33, 3) := by decide +kernel
theorem dX1_hold_9 : decode cX1_hold 9 = .ok (.aload_n 0, 1) := by decide +kernel
theorem dX1_hold_10 : decode cX1_hold 10 = .ok (.getfield 9, 3) := by decide +kernel
theorem dX1_hold_13 : decode cX1_hold 13 = .ok (.aload_n 0, 1) := by decide +kernel
theorem dX1_hold_14 : decode cX1_hold 14 = .ok (.getfield 40, 3) := by decide +kernel
theorem dX1_hold_17 : decode cX1_hold 17 = .ok (.iload_n 1, 1) := by decide +kernel
theorem dX1_hold_18 : decode cX1_hold 18 = .ok (.iastore, 1) := by decide +kernel
theorem dX1_hold_19 : decode cX1_hold 19 = .ok (.aload_n 0, 1) := by decide +kernel
theorem dX1_hold_20 : decode cX1_hold 20 = .ok (.getfield 15, 3) := by decide +kernel
theorem dX1_hold_23 : decode cX1_hold 23 = .ok (.aload_n 0, 1) := by decide +kernel
theorem dX1_hold_24 : decode cX1_hold 24 = .ok (.getfield 40, 3) := by decide +kernel
theorem dX1_hold_27 : decode cX1_hold 27 = .ok (.iload_n 2, 1) := by decide +kernel
theorem dX1_hold_28 : decode cX1_hold 28 = .ok (.iastore, 1) := by decide +kernel
theorem dX1_hold_29 : decode cX1_hold 29 = .ok (.aload_n 0, 1) := by decide +kernel
theorem dX1_hold_30 : decode cX1_hold 30 = .ok (.dup, 1) := by decide +kernel
theorem dX1_hold_31 : decode cX1_hold 31 = .ok (.getfield 40, 3) := by decide +kernel
theorem dX1_hold_34 : decode cX1_hold 34 = .ok (.iconst 1, 1) := by decide +kernel
theorem dX1_hold_35 : decode cX1_hold 35 = .ok (.iadd, 1) := by decide +kernel
theorem dX1_hold_36 : decode cX1_hold 36 = .ok (.putfield 40, 3) := by decide +kernel
theorem dX1_hold_39 : decode cX1_hold 39 = .ok (.return_, 1) := by decide +kernel
theorem dX1_hasEnough_0 : decode cX1_hasEnough 0 = .ok (.aload_n 0, 1) := by decide +kernel
theorem dX1_hasEnough_1 : decode cX1_hasEnough 1 = .ok (.getfield 40, 3) := by decide +kernel
theorem dX1_hasEnough_4 : decode cX1_hasEnough 4 = .ok (.aload_n 0, 1) := by decide +kernel
theorem dX1_hasEnough_5 : decode cX1_hasEnough 5 = .ok (.getfield 36, 3) := by decide +kernel
theorem dX1_hasEnough_8 : decode cX1_hasEnough 8 = .ok (.if_icmp .lt 7, 3) := by decide +kernel
theorem dX1_hasEnough_11 : decode cX1_hasEnough 11 = .ok (.iconst 1, 1) := by decide +kernel
theorem dX1_hasEnough_12 : decode cX1_hasEnough 12 = .ok (.goto 4, 3) := by decide +kernel
theorem dX1_hasEnough_15 : decode cX1_hasEnough 15 = .ok (.iconst 0, 1) := by decide +kernel
theorem dX1_hasEnough_16 : decode cX1_hasEnough 16 = .ok (.ireturn, 1) := by decide +kernel
theorem dX1_goThroughFirst_0 : decode cX1_goThroughFirst 0 = .ok (.aload_n 0, 1) := by decide +kernel
theorem dX1_goThroughFirst_1 : decode cX1_goThroughFirst 1 = .ok (.iconst 1, 1) := by decide +kernel
theorem dX1_goThroughFirst_2 : decode cX1_goThroughFirst 2 = .ok (.aload_n 0, 1) := by decide +kernel
theorem dX1_goThroughFirst_3 : decode cX1_goThroughFirst 3 = .ok (.getfield 36, 3) := by decide +kernel
theorem dX1_goThroughFirst_6 : decode cX1_goThroughFirst 6 = .ok (.ishl, 1) := by decide +kernel
theorem dX1_goThroughFirst_7 : decode cX1_goThroughFirst 7 = .ok (.iconst 1, 1) := by decide +kernel
theorem dX1_goThroughFirst_8 : decode cX1_goThroughFirst 8 = .ok (.isub, 1) := by decide +kernel
theorem dX1_goThroughFirst_9 : decode cX1_goThroughFirst 9 = .ok (.invokevirtual 43, 3) := by decide +kernel
theorem dX1_goThroughFirst_12 : decode cX1_goThroughFirst 12 = .ok (.return_, 1) := by decide +kernel
theorem dX1_mend_0 : decode cX1_mend 0 = .ok (.aload_n 0, 1) := by decide +kernel
theorem dX1_mend_1 : decode cX1_mend 1 = .ok (.getfield 40, 3) := by decide +kernel
theorem dX1_mend_4 : decode cX1_mend 4 = .ok (.aload_n 0, 1) := by decide +kernel
theorem dX1_mend_5 : decode cX1_mend 5 = .ok (.getfield 36, 3) := by decide +kernel
theorem dX1_mend_8 : decode cX1_mend 8 = .ok (.isub, 1) := by decide +kernel
theorem dX1_mend_9 : decode cX1_mend 9 = .ok (.iconst 2, 1) := by decide +kernel
theorem dX1_mend_10 : decode cX1_mend 10 = .ok (.idiv, 1) := by decide +kernel
theorem dX1_mend_11 : decode cX1_mend 11 = .ok (.istore_n 1, 1) := by decide +kernel
theorem dX1_mend_12 : decode cX1_mend 12 = .ok (.iconst 1, 1) := by decide +kernel
theorem dX1_mend_13 : decode cX1_mend 13 = .ok (.aload_n 0, 1) := by decide +kernel
theorem dX1_mend_14 : decode cX1_mend 14 = .ok (.getfield 36, 3) := by decide +kernel
theorem dX1_mend_17 : decode cX1_mend 17 = .ok (.ishl, 1) := by decide +kernel
theorem dX1_mend_18 : decode cX1_mend 18 = .ok (.iconst 1, 1) := by decide +kernel
theorem dX1_mend_19 : decode cX1_mend 19 = .ok (.isub, 1) := by decide +kernel
theorem dX1_mend_20 : decode cX1_mend 20 = .ok (.istore_n 2, 1) := by decide +kernel
theorem dX1_mend_21 : decode cX1_mend 21 = .ok (.iload_n 2, 1) := by decide +kernel
theorem dX1_mend_22 : decode cX1_mend 22 = .ok (.iconst 1, 1) := by decide +kernel
theorem dX1_mend_23 : decode cX1_mend 23 = .ok (.aload_n 0, 1) := by decide +kernel
theorem dX1_mend_24 : decode cX1_mend 24 = .ok (.getfield 36, 3) := by decide +kernel
theorem dX1_mend_27 : decode cX1_mend 27 = .ok (.iload_n 1, 1) := by decide +kernel
theorem dX1_mend_28 : decode cX1_mend 28 = .ok (.iadd, 1) := by decide +kernel
theorem dX1_mend_29 : decode cX1_mend 29 = .ok (.ishl, 1) := by decide +kernel
theorem dX1_mend_30 : decode cX1_mend 30 = .ok (.if_icmp .ge 40, 3) := by decide +kernel
theorem dX1_mend_33 : decode cX1_mend 33 = .ok (.iload_n 2, 1) := by decide +kernel
theorem dX1_mend_34 : decode cX1_mend 34 = .ok (.invokestatic 47, 3) := by decide +kernel
theorem dX1_mend_37 : decode cX1_mend 37 = .ok (.aload_n 0, 1) := by decide +kernel
theorem dX1_mend_38 : decode cX1_mend 38 = .ok (.getfield 36, 3) := by decide +kernel
theorem dX1_mend_41 : decode cX1_mend 41 = .ok (.if_icmp .ne 23, 3) := by decide +kernel
theorem dX1_mend_44 : decode cX1_mend 44 = .ok (.aload_n 0, 1) := by decide +kernel
theorem dX1_mend_45 : decode cX1_mend 45 = .ok (.iload_n 2, 1) := by decide +kernel
theorem dX1_mend_46 : decode cX1_mend 46 = .ok (.invokevirtual 43, 3) := by decide +kernel
theorem dX1_mend_49 : decode cX1_mend 49 = .ok (.aload_n 0, 1) := by decide +kernel
theorem dX1_mend_50 : decode cX1_mend 50 = .ok (.invokevirtual 53, 3) := by decide +kernel
theorem dX1_mend_53 : decode cX1_mend 53 = .ok (.aload_n 0, 1) := by decide +kernel
theorem dX1_mend_54 : decode cX1_mend 54 = .ok (.getfield 40, 3) := by decide +kernel
theorem dX1_mend_57 : decode cX1_mend 57 = .ok (.iload_n 1, 1) := by decide +kernel
theorem dX1_mend_58 : decode cX1_mend 58 = .ok (.isub, 1) := by decide +kernel
theorem dX1_mend_59 : decode cX1_mend 59 = .ok (.if_icmp .lt 5, 3) := by decide +kernel
theorem dX1_mend_62 : decode cX1_mend 62 = .ok (.iconst 1, 1) := by decide +kernel
theorem dX1_mend_63 : decode cX1_mend 63 = .ok (.ireturn, 1) := by decide +kernel
theorem dX1_mend_64 : decode cX1_mend 64 = .ok (.iinc 2 1, 3) := by decide +kernel
theorem dX1_mend_67 : decode cX1_mend 67 = .ok (.goto (-46), 3) := by decide +kernel
theorem dX1_mend_70 : decode cX1_mend 70 = .ok (.iconst 0, 1) := by decide +kernel
theorem dX1_mend_71 : decode cX1_mend 71 = .ok (.ireturn, 1) := by decide +kernel
theorem dX1_coefficient_0 : decode cX1_coefficient 0 = .ok (.iload_n 1, 1) := by decide +kernel
theorem dX1_coefficient_1 : decode cX1_coefficient 1 = .ok (.iconst 0, 1) := by decide +kernel
theorem dX1_coefficient_2 : decode cX1_coefficient 2 = .ok (.aload_n 0, 1) := by decide +kernel
theorem dX1_coefficient_3 : decode cX1_coefficient 3 = .ok (.getfield 36, 3) := by decide +kernel
theorem dX1_coefficient_6 : decode cX1_coefficient 6 = .ok (.iconst 1, 1) := by decide +kernel
theorem dX1_coefficient_7 : decode cX1_coefficient 7 = .ok (.isub, 1) := by decide +kernel
theorem dX1_coefficient_8 : decode cX1_coefficient 8 = .ok (.invokestatic 57, 3) := by decide +kernel
theorem dX1_coefficient_11 : decode cX1_coefficient 11 = .ok (.ifCond .eq 12, 3) := by decide +kernel
theorem dX1_coefficient_14 : decode cX1_coefficient 14 = .ok (.aload_n 0, 1) := by decide +kernel
theorem dX1_coefficient_15 : decode cX1_coefficient 15 = .ok (.getfield 24, 3) := by decide +kernel
theorem dX1_coefficient_18 : decode cX1_coefficient 18 = .ok (.iload_n 1, 1) := by decide +kernel
theorem dX1_coefficient_19 : decode cX1_coefficient 19 = .ok (.iaload, 1) := by decide +kernel
theorem dX1_coefficient_20 : decode cX1_coefficient 20 = .ok (.goto 4, 3) := by decide +kernel
theorem dX1_coefficient_23 : decode cX1_coefficient 23 = .ok (.iconst 0, 1) := by decide +kernel
theorem dX1_coefficient_24 : decode cX1_coefficient 24 = .ok (.ireturn, 1) := by decide +kernel
theorem dX1_at_0 : decode cX1_at 0 = .ok (.aload_n 0, 1) := by decide +kernel
theorem dX1_at_1 : decode cX1_at 1 = .ok (.getfield 24, 3) := by decide +kernel
theorem dX1_at_4 : decode cX1_at 4 = .ok (.iconst 0, 1) := by decide +kernel
theorem dX1_at_5 : decode cX1_at 5 = .ok (.aload_n 0, 1) := by decide +kernel
theorem dX1_at_6 : decode cX1_at 6 = .ok (.getfield 36, 3) := by decide +kernel
theorem dX1_at_9 : decode cX1_at 9 = .ok (.iload_n 1, 1) := by decide +kernel
theorem dX1_at_10 : decode cX1_at 10 = .ok (.invokestatic 61, 3) := by decide +kernel
theorem dX1_at_13 : decode cX1_at 13 = .ok (.ireturn, 1) := by decide +kernel
theorem dX1_agreeing_0 : decode cX1_agreeing 0 = .ok (.iconst 0, 1) := by decide +kernel
theorem dX1_agreeing_1 : decode cX1_agreeing 1 = .ok (.istore_n 1, 1) := by decide +kernel
theorem dX1_agreeing_2 : decode cX1_agreeing 2 = .ok (.iconst 0, 1) := by decide +kernel
theorem dX1_agreeing_3 : decode cX1_agreeing 3 = .ok (.istore_n 2, 1) := by decide +kernel
theorem dX1_agreeing_4 : decode cX1_agreeing 4 = .ok (.iload_n 2, 1) := by decide +kernel
theorem dX1_agreeing_5 : decode cX1_agreeing 5 = .ok (.aload_n 0, 1) := by decide +kernel
theorem dX1_agreeing_6 : decode cX1_agreeing 6 = .ok (.getfield 40, 3) := by decide +kernel
theorem dX1_agreeing_9 : decode cX1_agreeing 9 = .ok (.if_icmp .ge 39, 3) := by decide +kernel
theorem dX1_agreeing_12 : decode cX1_agreeing 12 = .ok (.aload_n 0, 1) := by decide +kernel
theorem dX1_agreeing_13 : decode cX1_agreeing 13 = .ok (.getfield 24, 3) := by decide +kernel
theorem dX1_agreeing_16 : decode cX1_agreeing 16 = .ok (.iconst 0, 1) := by decide +kernel
theorem dX1_agreeing_17 : decode cX1_agreeing 17 = .ok (.aload_n 0, 1) := by decide +kernel
theorem dX1_agreeing_18 : decode cX1_agreeing 18 = .ok (.getfield 36, 3) := by decide +kernel
theorem dX1_agreeing_21 : decode cX1_agreeing 21 = .ok (.aload_n 0, 1) := by decide +kernel
theorem dX1_agreeing_22 : decode cX1_agreeing 22 = .ok (.getfield 9, 3) := by decide +kernel
theorem dX1_agreeing_25 : decode cX1_agreeing 25 = .ok (.iload_n 2, 1) := by decide +kernel
theorem dX1_agreeing_26 : decode cX1_agreeing 26 = .ok (.iaload, 1) := by decide +kernel
theorem dX1_agreeing_27 : decode cX1_agreeing 27 = .ok (.invokestatic 61, 3) := by decide +kernel
theorem dX1_agreeing_30 : decode cX1_agreeing 30 = .ok (.aload_n 0, 1) := by decide +kernel
theorem dX1_agreeing_31 : decode cX1_agreeing 31 = .ok (.getfield 15, 3) := by decide +kernel
theorem dX1_agreeing_34 : decode cX1_agreeing 34 = .ok (.iload_n 2, 1) := by decide +kernel
theorem dX1_agreeing_35 : decode cX1_agreeing 35 = .ok (.iaload, 1) := by decide +kernel
theorem dX1_agreeing_36 : decode cX1_agreeing 36 = .ok (.if_icmp .ne 6, 3) := by decide +kernel
theorem dX1_agreeing_39 : decode cX1_agreeing 39 = .ok (.iinc 1 1, 3) := by decide +kernel
theorem dX1_agreeing_42 : decode cX1_agreeing 42 = .ok (.iinc 2 1, 3) := by decide +kernel
theorem dX1_agreeing_45 : decode cX1_agreeing 45 = .ok (.goto (-41), 3) := by decide +kernel
theorem dX1_agreeing_48 : decode cX1_agreeing 48 = .ok (.iload_n 1, 1) := by decide +kernel
theorem dX1_agreeing_49 : decode cX1_agreeing 49 = .ok (.ireturn, 1) := by decide +kernel
theorem dX1_goThrough_0 : decode cX1_goThrough 0 = .ok (.iconst 0, 1) := by decide +kernel
theorem dX1_goThrough_1 : decode cX1_goThrough 1 = .ok (.istore_n 2, 1) := by decide +kernel
theorem dX1_goThrough_2 : decode cX1_goThrough 2 = .ok (.iconst 0, 1) := by decide +kernel
theorem dX1_goThrough_3 : decode cX1_goThrough 3 = .ok (.istore_n 3, 1) := by decide +kernel
theorem dX1_goThrough_4 : decode cX1_goThrough 4 = .ok (.iload_n 3, 1) := by decide +kernel
theorem dX1_goThrough_5 : decode cX1_goThrough 5 = .ok (.aload_n 0, 1) := by decide +kernel
theorem dX1_goThrough_6 : decode cX1_goThrough 6 = .ok (.getfield 40, 3) := by decide +kernel
theorem dX1_goThrough_9 : decode cX1_goThrough 9 = .ok (.if_icmp .ge 53, 3) := by decide +kernel
theorem dX1_goThrough_12 : decode cX1_goThrough 12 = .ok (.iload_n 2, 1) := by decide +kernel
theorem dX1_goThrough_13 : decode cX1_goThrough 13 = .ok (.aload_n 0, 1) := by decide +kernel
theorem dX1_goThrough_14 : decode cX1_goThrough 14 = .ok (.getfield 36, 3) := by decide +kernel
theorem dX1_goThrough_17 : decode cX1_goThrough 17 = .ok (.if_icmp .ge 45, 3) := by decide +kernel
theorem dX1_goThrough_20 : decode cX1_goThrough 20 = .ok (.iload_n 1, 1) := by decide +kernel
theorem dX1_goThrough_21 : decode cX1_goThrough 21 = .ok (.iload_n 3, 1) := by decide +kernel
theorem dX1_goThrough_22 : decode cX1_goThrough 22 = .ok (.ishr, 1) := by decide +kernel
theorem dX1_goThrough_23 : decode cX1_goThrough 23 = .ok (.iconst 1, 1) := by decide +kernel
theorem dX1_goThrough_24 : decode cX1_goThrough 24 = .ok (.iand, 1) := by decide +kernel
theorem dX1_goThrough_25 : decode cX1_goThrough 25 = .ok (.iconst 1, 1) := by decide +kernel
theorem dX1_goThrough_26 : decode cX1_goThrough 26 = .ok (.if_icmp .ne 30, 3) := by decide +kernel
theorem dX1_goThrough_29 : decode cX1_goThrough 29 = .ok (.aload_n 0, 1) := by decide +kernel
theorem dX1_goThrough_30 : decode cX1_goThrough 30 = .ok (.getfield 18, 3) := by decide +kernel
theorem dX1_goThrough_33 : decode cX1_goThrough 33 = .ok (.iload_n 2, 1) := by decide +kernel
theorem dX1_goThrough_34 : decode cX1_goThrough 34 = .ok (.aload_n 0, 1) := by decide +kernel
theorem dX1_goThrough_35 : decode cX1_goThrough 35 = .ok (.getfield 9, 3) := by decide +kernel
theorem dX1_goThrough_38 : decode cX1_goThrough 38 = .ok (.iload_n 3, 1) := by decide +kernel
theorem dX1_goThrough_39 : decode cX1_goThrough 39 = .ok (.iaload, 1) := by decide +kernel
theorem dX1_goThrough_40 : decode cX1_goThrough 40 = .ok (.iastore, 1) := by decide +kernel
theorem dX1_goThrough_41 : decode cX1_goThrough 41 = .ok (.aload_n 0, 1) := by decide +kernel
theorem dX1_goThrough_42 : decode cX1_goThrough 42 = .ok (.getfield 21, 3) := by decide +kernel
theorem dX1_goThrough_45 : decode cX1_goThrough 45 = .ok (.iload_n 2, 1) := by decide +kernel
theorem dX1_goThrough_46 : decode cX1_goThrough 46 = .ok (.aload_n 0, 1) := by decide +kernel
theorem dX1_goThrough_47 : decode cX1_goThrough 47 = .ok (.getfield 15, 3) := by decide +kernel
theorem dX1_goThrough_50 : decode cX1_goThrough 50 = .ok (.iload_n 3, 1) := by decide +kernel
theorem dX1_goThrough_51 : decode cX1_goThrough 51 = .ok (.iaload, 1) := by decide +kernel
theorem dX1_goThrough_52 : decode cX1_goThrough 52 = .ok (.iastore, 1) := by decide +kernel
theorem dX1_goThrough_53 : decode cX1_goThrough 53 = .ok (.iinc 2 1, 3) := by decide +kernel
theorem dX1_goThrough_56 : decode cX1_goThrough 56 = .ok (.iinc 3 1, 3) := by decide +kernel
theorem dX1_goThrough_59 : decode cX1_goThrough 59 = .ok (.goto (-55), 3) := by decide +kernel
theorem dX1_goThrough_62 : decode cX1_goThrough 62 = .ok (.aload_n 0, 1) := by decide +kernel
theorem dX1_goThrough_63 : decode cX1_goThrough 63 = .ok (.invokevirtual 65, 3) := by decide +kernel
theorem dX1_goThrough_66 : decode cX1_goThrough 66 = .ok (.aload_n 0, 1) := by decide +kernel
theorem dX1_goThrough_67 : decode cX1_goThrough 67 = .ok (.invokevirtual 68, 3) := by decide +kernel
theorem dX1_goThrough_70 : decode cX1_goThrough 70 = .ok (.return_, 1) := by decide +kernel
theorem dX1_divideDifferences_0 : decode cX1_divideDifferences 0 = .ok (.iconst 1, 1) := by decide +kernel
theorem dX1_divideDifferences_1 : decode cX1_divideDifferences 1 = .ok (.istore_n 1, 1) := by decide +kernel
theorem dX1_divideDifferences_2 : decode cX1_divideDifferences 2 = .ok (.iload_n 1, 1) := by decide +kernel
theorem dX1_divideDifferences_3 : decode cX1_divideDifferences 3 = .ok (.aload_n 0, 1) := by decide +kernel
theorem dX1_divideDifferences_4 : decode cX1_divideDifferences 4 = .ok (.getfield 36, 3) := by decide +kernel
theorem dX1_divideDifferences_7 : decode cX1_divideDifferences 7 = .ok (.if_icmp .ge 80, 3) := by decide +kernel
theorem dX1_divideDifferences_10 : decode cX1_divideDifferences 10 = .ok (.aload_n 0, 1) := by decide +kernel
theorem dX1_divideDifferences_11 : decode cX1_divideDifferences 11 = .ok (.getfield 36, 3) := by decide +kernel
theorem dX1_divideDifferences_14 : decode cX1_divideDifferences 14 = .ok (.iconst 1, 1) := by decide +kernel
theorem dX1_divideDifferences_15 : decode cX1_divideDifferences 15 = .ok (.isub, 1) := by decide +kernel
theorem dX1_divideDifferences_16 : decode cX1_divideDifferences 16 = .ok (.istore_n 2, 1) := by decide +kernel
theorem dX1_divideDifferences_17 : decode cX1_divideDifferences 17 = .ok (.iload_n 2, 1) := by decide +kernel
theorem dX1_divideDifferences_18 : decode cX1_divideDifferences 18 = .ok (.iload_n 1, 1) := by decide +kernel
theorem dX1_divideDifferences_19 : decode cX1_divideDifferences 19 = .ok (.if_icmp .lt 62, 3) := by decide +kernel
theorem dX1_divideDifferences_22 : decode cX1_divideDifferences 22 = .ok (.getstatic 71, 3) := by decide +kernel
theorem dX1_divideDifferences_25 : decode cX1_divideDifferences 25 = .ok (.aload_n 0, 1) := by decide +kernel
theorem dX1_divideDifferences_26 : decode cX1_divideDifferences 26 = .ok (.getfield 18, 3) := by decide +kernel
theorem dX1_divideDifferences_29 : decode cX1_divideDifferences 29 = .ok (.iload_n 2, 1) := by decide +kernel
theorem dX1_divideDifferences_30 : decode cX1_divideDifferences 30 = .ok (.iaload, 1) := by decide +kernel
theorem dX1_divideDifferences_31 : decode cX1_divideDifferences 31 = .ok (.aload_n 0, 1) := by decide +kernel
theorem dX1_divideDifferences_32 : decode cX1_divideDifferences 32 = .ok (.getfield 18, 3) := by decide +kernel
theorem dX1_divideDifferences_35 : decode cX1_divideDifferences 35 = .ok (.iload_n 2, 1) := by decide +kernel
theorem dX1_divideDifferences_36 : decode cX1_divideDifferences 36 = .ok (.iload_n 1, 1) := by decide +kernel
theorem dX1_divideDifferences_37 : decode cX1_divideDifferences 37 = .ok (.isub, 1) := by decide +kernel
theorem dX1_divideDifferences_38 : decode cX1_divideDifferences 38 = .ok (.iaload, 1) := by decide +kernel
theorem dX1_divideDifferences_39 : decode cX1_divideDifferences 39 = .ok (.isub, 1) := by decide +kernel
theorem dX1_divideDifferences_40 : decode cX1_divideDifferences 40 = .ok (.bipush 29, 2) := by decide +kernel
theorem dX1_divideDifferences_42 : decode cX1_divideDifferences 42 = .ok (.invokestatic 74, 3) := by decide +kernel
theorem dX1_divideDifferences_45 : decode cX1_divideDifferences 45 = .ok (.iaload, 1) := by decide +kernel
theorem dX1_divideDifferences_46 : decode cX1_divideDifferences 46 = .ok (.istore_n 3, 1) := by decide +kernel
theorem dX1_divideDifferences_47 : decode cX1_divideDifferences 47 = .ok (.aload_n 0, 1) := by decide +kernel
theorem dX1_divideDifferences_48 : decode cX1_divideDifferences 48 = .ok (.getfield 21, 3) := by decide +kernel
theorem dX1_divideDifferences_51 : decode cX1_divideDifferences 51 = .ok (.iload_n 2, 1) := by decide +kernel
theorem dX1_divideDifferences_52 : decode cX1_divideDifferences 52 = .ok (.aload_n 0, 1) := by decide +kernel
theorem dX1_divideDifferences_53 : decode cX1_divideDifferences 53 = .ok (.getfield 21, 3) := by decide +kernel
theorem dX1_divideDifferences_56 : decode cX1_divideDifferences 56 = .ok (.iload_n 2, 1) := by decide +kernel
theorem dX1_divideDifferences_57 : decode cX1_divideDifferences 57 = .ok (.iaload, 1) := by decide +kernel
theorem dX1_divideDifferences_58 : decode cX1_divideDifferences 58 = .ok (.aload_n 0, 1) := by decide +kernel
theorem dX1_divideDifferences_59 : decode cX1_divideDifferences 59 = .ok (.getfield 21, 3) := by decide +kernel
theorem dX1_divideDifferences_62 : decode cX1_divideDifferences 62 = .ok (.iload_n 2, 1) := by decide +kernel
theorem dX1_divideDifferences_63 : decode cX1_divideDifferences 63 = .ok (.iconst 1, 1) := by decide +kernel
theorem dX1_divideDifferences_64 : decode cX1_divideDifferences 64 = .ok (.isub, 1) := by decide +kernel
theorem dX1_divideDifferences_65 : decode cX1_divideDifferences 65 = .ok (.iaload, 1) := by decide +kernel
theorem dX1_divideDifferences_66 : decode cX1_divideDifferences 66 = .ok (.isub, 1) := by decide +kernel
theorem dX1_divideDifferences_67 : decode cX1_divideDifferences 67 = .ok (.iload_n 3, 1) := by decide +kernel
theorem dX1_divideDifferences_68 : decode cX1_divideDifferences 68 = .ok (.imul, 1) := by decide +kernel
theorem dX1_divideDifferences_69 : decode cX1_divideDifferences 69 = .ok (.bipush 29, 2) := by decide +kernel
theorem dX1_divideDifferences_71 : decode cX1_divideDifferences 71 = .ok (.invokestatic 74, 3) := by decide +kernel
theorem dX1_divideDifferences_74 : decode cX1_divideDifferences 74 = .ok (.iastore, 1) := by decide +kernel
theorem dX1_divideDifferences_75 : decode cX1_divideDifferences 75 = .ok (.iinc 2 (-1), 3) := by decide +kernel
theorem dX1_divideDifferences_78 : decode cX1_divideDifferences 78 = .ok (.goto (-61), 3) := by decide +kernel
theorem dX1_divideDifferences_81 : decode cX1_divideDifferences 81 = .ok (.iinc 1 1, 3) := by decide +kernel
theorem dX1_divideDifferences_84 : decode cX1_divideDifferences 84 = .ok (.goto (-82), 3) := by decide +kernel
theorem dX1_divideDifferences_87 : decode cX1_divideDifferences 87 = .ok (.return_, 1) := by decide +kernel
theorem dX1_multiplyOut_0 : decode cX1_multiplyOut 0 = .ok (.iconst 0, 1) := by decide +kernel
theorem dX1_multiplyOut_1 : decode cX1_multiplyOut 1 = .ok (.istore_n 1, 1) := by decide +kernel
theorem dX1_multiplyOut_2 : decode cX1_multiplyOut 2 = .ok (.iload_n 1, 1) := by decide +kernel
theorem dX1_multiplyOut_3 : decode cX1_multiplyOut 3 = .ok (.aload_n 0, 1) := by decide +kernel
theorem dX1_multiplyOut_4 : decode cX1_multiplyOut 4 = .ok (.getfield 36, 3) := by decide +kernel
theorem dX1_multiplyOut_7 : decode cX1_multiplyOut 7 = .ok (.if_icmp .ge 16, 3) := by decide +kernel
theorem dX1_multiplyOut_10 : decode cX1_multiplyOut 10 = .ok (.aload_n 0, 1) := by decide +kernel
theorem dX1_multiplyOut_11 : decode cX1_multiplyOut 11 = .ok (.getfield 24, 3) := by decide +kernel
theorem dX1_multiplyOut_14 : decode cX1_multiplyOut 14 = .ok (.iload_n 1, 1) := by decide +kernel
theorem dX1_multiplyOut_15 : decode cX1_multiplyOut 15 = .ok (.iconst 0, 1) := by decide +kernel
theorem dX1_multiplyOut_16 : decode cX1_multiplyOut 16 = .ok (.iastore, 1) := by decide +kernel
theorem dX1_multiplyOut_17 : decode cX1_multiplyOut 17 = .ok (.iinc 1 1, 3) := by decide +kernel
theorem dX1_multiplyOut_20 : decode cX1_multiplyOut 20 = .ok (.goto (-18), 3) := by decide +kernel
theorem dX1_multiplyOut_23 : decode cX1_multiplyOut 23 = .ok (.aload_n 0, 1) := by decide +kernel
theorem dX1_multiplyOut_24 : decode cX1_multiplyOut 24 = .ok (.getfield 36, 3) := by decide +kernel
theorem dX1_multiplyOut_27 : decode cX1_multiplyOut 27 = .ok (.iconst 1, 1) := by decide +kernel
theorem dX1_multiplyOut_28 : decode cX1_multiplyOut 28 = .ok (.isub, 1) := by decide +kernel
theorem dX1_multiplyOut_29 : decode cX1_multiplyOut 29 = .ok (.istore_n 1, 1) := by decide +kernel
theorem dX1_multiplyOut_30 : decode cX1_multiplyOut 30 = .ok (.iload_n 1, 1) := by decide +kernel
theorem dX1_multiplyOut_31 : decode cX1_multiplyOut 31 = .ok (.ifCond .lt 91, 3) := by decide +kernel
theorem dX1_multiplyOut_34 : decode cX1_multiplyOut 34 = .ok (.aload_n 0, 1) := by decide +kernel
theorem dX1_multiplyOut_35 : decode cX1_multiplyOut 35 = .ok (.getfield 36, 3) := by decide +kernel
theorem dX1_multiplyOut_38 : decode cX1_multiplyOut 38 = .ok (.iconst 1, 1) := by decide +kernel
theorem dX1_multiplyOut_39 : decode cX1_multiplyOut 39 = .ok (.isub, 1) := by decide +kernel
theorem dX1_multiplyOut_40 : decode cX1_multiplyOut 40 = .ok (.istore_n 2, 1) := by decide +kernel
theorem dX1_multiplyOut_41 : decode cX1_multiplyOut 41 = .ok (.iload_n 2, 1) := by decide +kernel
theorem dX1_multiplyOut_42 : decode cX1_multiplyOut 42 = .ok (.iconst 1, 1) := by decide +kernel
theorem dX1_multiplyOut_43 : decode cX1_multiplyOut 43 = .ok (.if_icmp .lt 42, 3) := by decide +kernel
theorem dX1_multiplyOut_46 : decode cX1_multiplyOut 46 = .ok (.aload_n 0, 1) := by decide +kernel
theorem dX1_multiplyOut_47 : decode cX1_multiplyOut 47 = .ok (.getfield 24, 3) := by decide +kernel
theorem dX1_multiplyOut_50 : decode cX1_multiplyOut 50 = .ok (.iload_n 2, 1) := by decide +kernel
theorem dX1_multiplyOut_51 : decode cX1_multiplyOut 51 = .ok (.aload_n 0, 1) := by decide +kernel
theorem dX1_multiplyOut_52 : decode cX1_multiplyOut 52 = .ok (.getfield 24, 3) := by decide +kernel
theorem dX1_multiplyOut_55 : decode cX1_multiplyOut 55 = .ok (.iload_n 2, 1) := by decide +kernel
theorem dX1_multiplyOut_56 : decode cX1_multiplyOut 56 = .ok (.iconst 1, 1) := by decide +kernel
theorem dX1_multiplyOut_57 : decode cX1_multiplyOut 57 = .ok (.isub, 1) := by decide +kernel
theorem dX1_multiplyOut_58 : decode cX1_multiplyOut 58 = .ok (.iaload, 1) := by decide +kernel
theorem dX1_multiplyOut_59 : decode cX1_multiplyOut 59 = .ok (.aload_n 0, 1) := by decide +kernel
theorem dX1_multiplyOut_60 : decode cX1_multiplyOut 60 = .ok (.getfield 18, 3) := by decide +kernel
theorem dX1_multiplyOut_63 : decode cX1_multiplyOut 63 = .ok (.iload_n 1, 1) := by decide +kernel
theorem dX1_multiplyOut_64 : decode cX1_multiplyOut 64 = .ok (.iaload, 1) := by decide +kernel
theorem dX1_multiplyOut_65 : decode cX1_multiplyOut 65 = .ok (.aload_n 0, 1) := by decide +kernel
theorem dX1_multiplyOut_66 : decode cX1_multiplyOut 66 = .ok (.getfield 24, 3) := by decide +kernel
theorem dX1_multiplyOut_69 : decode cX1_multiplyOut 69 = .ok (.iload_n 2, 1) := by decide +kernel
theorem dX1_multiplyOut_70 : decode cX1_multiplyOut 70 = .ok (.iaload, 1) := by decide +kernel
theorem dX1_multiplyOut_71 : decode cX1_multiplyOut 71 = .ok (.imul, 1) := by decide +kernel
theorem dX1_multiplyOut_72 : decode cX1_multiplyOut 72 = .ok (.isub, 1) := by decide +kernel
theorem dX1_multiplyOut_73 : decode cX1_multiplyOut 73 = .ok (.bipush 29, 2) := by decide +kernel
theorem dX1_multiplyOut_75 : decode cX1_multiplyOut 75 = .ok (.invokestatic 74, 3) := by decide +kernel
theorem dX1_multiplyOut_78 : decode cX1_multiplyOut 78 = .ok (.iastore, 1) := by decide +kernel
theorem dX1_multiplyOut_79 : decode cX1_multiplyOut 79 = .ok (.iinc 2 (-1), 3) := by decide +kernel
theorem dX1_multiplyOut_82 : decode cX1_multiplyOut 82 = .ok (.goto (-41), 3) := by decide +kernel
theorem dX1_multiplyOut_85 : decode cX1_multiplyOut 85 = .ok (.aload_n 0, 1) := by decide +kernel
theorem dX1_multiplyOut_86 : decode cX1_multiplyOut 86 = .ok (.getfield 24, 3) := by decide +kernel
theorem dX1_multiplyOut_89 : decode cX1_multiplyOut 89 = .ok (.iconst 0, 1) := by decide +kernel
theorem dX1_multiplyOut_90 : decode cX1_multiplyOut 90 = .ok (.aload_n 0, 1) := by decide +kernel
theorem dX1_multiplyOut_91 : decode cX1_multiplyOut 91 = .ok (.getfield 21, 3) := by decide +kernel
theorem dX1_multiplyOut_94 : decode cX1_multiplyOut 94 = .ok (.iload_n 1, 1) := by decide +kernel
theorem dX1_multiplyOut_95 : decode cX1_multiplyOut 95 = .ok (.iaload, 1) := by decide +kernel
theorem dX1_multiplyOut_96 : decode cX1_multiplyOut 96 = .ok (.aload_n 0, 1) := by decide +kernel
theorem dX1_multiplyOut_97 : decode cX1_multiplyOut 97 = .ok (.getfield 18, 3) := by decide +kernel
theorem dX1_multiplyOut_100 : decode cX1_multiplyOut 100 = .ok (.iload_n 1, 1) := by decide +kernel
theorem dX1_multiplyOut_101 : decode cX1_multiplyOut 101 = .ok (.iaload, 1) := by decide +kernel
theorem dX1_multiplyOut_102 : decode cX1_multiplyOut 102 = .ok (.aload_n 0, 1) := by decide +kernel
theorem dX1_multiplyOut_103 : decode cX1_multiplyOut 103 = .ok (.getfield 24, 3) := by decide +kernel
theorem dX1_multiplyOut_106 : decode cX1_multiplyOut 106 = .ok (.iconst 0, 1) := by decide +kernel
theorem dX1_multiplyOut_107 : decode cX1_multiplyOut 107 = .ok (.iaload, 1) := by decide +kernel
theorem dX1_multiplyOut_108 : decode cX1_multiplyOut 108 = .ok (.imul, 1) := by decide +kernel
theorem dX1_multiplyOut_109 : decode cX1_multiplyOut 109 = .ok (.isub, 1) := by decide +kernel
theorem dX1_multiplyOut_110 : decode cX1_multiplyOut 110 = .ok (.bipush 29, 2) := by decide +kernel
theorem dX1_multiplyOut_112 : decode cX1_multiplyOut 112 = .ok (.invokestatic 74, 3) := by decide +kernel
theorem dX1_multiplyOut_115 : decode cX1_multiplyOut 115 = .ok (.iastore, 1) := by decide +kernel
theorem dX1_multiplyOut_116 : decode cX1_multiplyOut 116 = .ok (.iinc 1 (-1), 3) := by decide +kernel
theorem dX1_multiplyOut_119 : decode cX1_multiplyOut 119 = .ok (.goto (-89), 3) := by decide +kernel
theorem dX1_multiplyOut_122 : decode cX1_multiplyOut 122 = .ok (.return_, 1) := by decide +kernel
theorem dX2_init_0 : decode cX2_init 0 = .ok (.aload_n 0, 1) := by decide +kernel
theorem dX2_init_1 : decode cX2_init 1 = .ok (.invokespecial 3, 3) := by decide +kernel
theorem dX2_init_4 : decode cX2_init 4 = .ok (.aload_n 0, 1) := by decide +kernel
theorem dX2_init_5 : decode cX2_init 5 = .ok (.bipush 6, 2) := by decide +kernel
theorem dX2_init_7 : decode cX2_init 7 = .ok (.anewarray 9, 3) := by decide +kernel
theorem dX2_init_10 : decode cX2_init 10 = .ok (.putfield 11, 3) := by decide +kernel
theorem dX2_init_13 : decode cX2_init 13 = .ok (.new 9, 3) := by decide +kernel
theorem dX2_init_16 : decode cX2_init 16 = .ok (.dup, 1) := by decide +kernel
theorem dX2_init_17 : decode cX2_init 17 = .ok (.iconst 0, 1) := by decide +kernel
theorem dX2_init_18 : decode cX2_init 18 = .ok (.newarray .int, 2) := by decide +kernel
theorem dX2_init_20 : decode cX2_init 20 = .ok (.iconst 1, 1) := by decide +kernel
theorem dX2_init_21 : decode cX2_init 21 = .ok (.iconst 1, 1) := by decide +kernel
theorem dX2_init_22 : decode cX2_init 22 = .ok (.invokespecial 17, 3) := by decide +kernel
theorem dX2_init_25 : decode cX2_init 25 = .ok (.astore_n 1, 1) := by decide +kernel
theorem dX2_init_26 : decode cX2_init 26 = .ok (.iconst 0, 1) := by decide +kernel
theorem dX2_init_27 : decode cX2_init 27 = .ok (.istore_n 2, 1) := by decide +kernel
theorem dX2_init_28 : decode cX2_init 28 = .ok (.iload_n 2, 1) := by decide +kernel
theorem dX2_init_29 : decode cX2_init 29 = .ok (.bipush 6, 2) := by decide +kernel
theorem dX2_init_31 : decode cX2_init 31 = .ok (.if_icmp .ge 16, 3) := by decide +kernel
theorem dX2_init_34 : decode cX2_init 34 = .ok (.aload_n 0, 1) := by decide +kernel
theorem dX2_init_35 : decode cX2_init 35 = .ok (.getfield 11, 3) := by decide +kernel
theorem dX2_init_38 : decode cX2_init 38 = .ok (.iload_n 2, 1) := by decide +kernel
theorem dX2_init_39 : decode cX2_init 39 = .ok (.aload_n 1, 1) := by decide +kernel
theorem dX2_init_40 : decode cX2_init 40 = .ok (.aastore, 1) := by decide +kernel
theorem dX2_init_41 : decode cX2_init 41 = .ok (.iinc 2 1, 3) := by decide +kernel
theorem dX2_init_44 : decode cX2_init 44 = .ok (.goto (-16), 3) := by decide +kernel
theorem dX2_init_47 : decode cX2_init 47 = .ok (.aload_n 0, 1) := by decide +kernel
theorem dX2_init_48 : decode cX2_init 48 = .ok (.iconst 0, 1) := by decide +kernel
theorem dX2_init_49 : decode cX2_init 49 = .ok (.putfield 20, 3) := by decide +kernel
theorem dX2_init_52 : decode cX2_init 52 = .ok (.aload_n 0, 1) := by decide +kernel
theorem dX2_init_53 : decode cX2_init 53 = .ok (.iconst 4, 1) := by decide +kernel
theorem dX2_init_54 : decode cX2_init 54 = .ok (.putfield 24, 3) := by decide +kernel
theorem dX2_init_57 : decode cX2_init 57 = .ok (.aload_n 0, 1) := by decide +kernel
theorem dX2_init_58 : decode cX2_init 58 = .ok (.bipush 20, 2) := by decide +kernel
theorem dX2_init_60 : decode cX2_init 60 = .ok (.putfield 27, 3) := by decide +kernel
theorem dX2_init_63 : decode cX2_init 63 = .ok (.return_, 1) := by decide +kernel
theorem dX2_beginAnew_0 : decode cX2_beginAnew 0 = .ok (.aload_n 0, 1) := by decide +kernel
theorem dX2_beginAnew_1 : decode cX2_beginAnew 1 = .ok (.iconst 0, 1) := by decide +kernel
theorem dX2_beginAnew_2 : decode cX2_beginAnew 2 = .ok (.putfield 20, 3) := by decide +kernel
theorem dX2_beginAnew_5 : decode cX2_beginAnew 5 = .ok (.aload_n 0, 1) := by decide +kernel
theorem dX2_beginAnew_6 : decode cX2_beginAnew 6 = .ok (.iconst 4, 1) := by decide +kernel
theorem dX2_beginAnew_7 : decode cX2_beginAnew 7 = .ok (.putfield 24, 3) := by decide +kernel
theorem dX2_beginAnew_10 : decode cX2_beginAnew 10 = .ok (.aload_n 0, 1) := by decide +kernel
theorem dX2_beginAnew_11 : decode cX2_beginAnew 11 = .ok (.bipush 20, 2) := by decide +kernel
theorem dX2_beginAnew_13 : decode cX2_beginAnew 13 = .ok (.putfield 27, 3) := by decide +kernel
theorem dX2_beginAnew_16 : decode cX2_beginAnew 16 = .ok (.return_, 1) := by decide +kernel
theorem dX2_copyOf_0 : decode cX2_copyOf 0 = .ok (.iconst 0, 1) := by decide +kernel
theorem dX2_copyOf_1 : decode cX2_copyOf 1 = .ok (.istore_n 2, 1) := by decide +kernel
theorem dX2_copyOf_2 : decode cX2_copyOf 2 = .ok (.iload_n 2, 1) := by decide +kernel
theorem dX2_copyOf_3 : decode cX2_copyOf 3 = .ok (.bipush 6, 2) := by decide +kernel
theorem dX2_copyOf_5 : decode cX2_copyOf 5 = .ok (.if_icmp .ge 21, 3) := by decide +kernel
theorem dX2_copyOf_8 : decode cX2_copyOf 8 = .ok (.aload_n 0, 1) := by decide +kernel
theorem dX2_copyOf_9 : decode cX2_copyOf 9 = .ok (.getfield 11, 3) := by decide +kernel
theorem dX2_copyOf_12 : decode cX2_copyOf 12 = .ok (.iload_n 2, 1) := by decide +kernel
theorem dX2_copyOf_13 : decode cX2_copyOf 13 = .ok (.aload_n 1, 1) := by decide +kernel
theorem dX2_copyOf_14 : decode cX2_copyOf 14 = .ok (.getfield 11, 3) := by decide +kernel
theorem dX2_copyOf_17 : decode cX2_copyOf 17 = .ok (.iload_n 2, 1) := by decide +kernel
theorem dX2_copyOf_18 : decode cX2_copyOf 18 = .ok (.aaload, 1) := by decide +kernel
theorem dX2_copyOf_19 : decode cX2_copyOf 19 = .ok (.aastore, 1) := by decide +kernel
theorem dX2_copyOf_20 : decode cX2_copyOf 20 = .ok (.iinc 2 1, 3) := by decide +kernel
theorem dX2_copyOf_23 : decode cX2_copyOf 23 = .ok (.goto (-21), 3) := by decide +kernel
theorem dX2_copyOf_26 : decode cX2_copyOf 26 = .ok (.aload_n 0, 1) := by decide +kernel
theorem dX2_copyOf_27 : decode cX2_copyOf 27 = .ok (.aload_n 1, 1) := by decide +kernel
theorem dX2_copyOf_28 : decode cX2_copyOf 28 = .ok (.getfield 20, 3) := by decide +kernel
theorem dX2_copyOf_31 : decode cX2_copyOf 31 = .ok (.putfield 20, 3) := by decide +kernel
theorem dX2_copyOf_34 : decode cX2_copyOf 34 = .ok (.aload_n 0, 1) := by decide +kernel
theorem dX2_copyOf_35 : decode cX2_copyOf 35 = .ok (.aload_n 1, 1) := by decide +kernel
theorem dX2_copyOf_36 : decode cX2_copyOf 36 = .ok (.getfield 24, 3) := by decide +kernel
theorem dX2_copyOf_39 : decode cX2_copyOf 39 = .ok (.putfield 24, 3) := by decide +kernel
theorem dX2_copyOf_42 : decode cX2_copyOf 42 = .ok (.aload_n 0, 1) := by decide +kernel
theorem dX2_copyOf_43 : decode cX2_copyOf 43 = .ok (.aload_n 1, 1) := by decide +kernel
theorem dX2_copyOf_44 : decode cX2_copyOf 44 = .ok (.getfield 27, 3) := by decide +kernel
theorem dX2_copyOf_47 : decode cX2_copyOf 47 = .ok (.putfield 27, 3) := by decide +kernel
theorem dX2_copyOf_50 : decode cX2_copyOf 50 = .ok (.return_, 1) := by decide +kernel
theorem dX2_has_0 : decode cX2_has 0 = .ok (.iload_n 1, 1) := by decide +kernel
theorem dX2_has_1 : decode cX2_has 1 = .ok (.iconst 0, 1) := by decide +kernel
theorem dX2_has_2 : decode cX2_has 2 = .ok (.aload_n 0, 1) := by decide +kernel
theorem dX2_has_3 : decode cX2_has 3 = .ok (.getfield 20, 3) := by decide +kernel
theorem dX2_has_6 : decode cX2_has 6 = .ok (.iconst 1, 1) := by decide +kernel
theorem dX2_has_7 : decode cX2_has 7 = .ok (.isub, 1) := by decide +kernel
theorem dX2_has_8 : decode cX2_has 8 = .ok (.invokestatic 30, 3) := by decide +kernel
theorem dX2_has_11 : decode cX2_has 11 = .ok (.ireturn, 1) := by decide +kernel
theorem dX2_append_0 : decode cX2_append 0 = .ok (.aload_n 0, 1) := by decide +kernel
theorem dX2_append_1 : decode cX2_append 1 = .ok (.getfield 20, 3) := by decide +kernel
theorem dX2_append_4 : decode cX2_append 4 = .ok (.bipush 6, 2) := by decide +kernel
theorem dX2_append_6 : decode cX2_append 6 = .ok (.if_icmp .ge 23, 3) := by decide +kernel
theorem dX2_append_9 : decode cX2_append 9 = .ok (.aload_n 0, 1) := by decide +kernel
theorem dX2_append_10 : decode cX2_append 10 = .ok (.getfield 11, 3) := by decide +kernel
theorem dX2_append_13 : decode cX2_append 13 = .ok (.aload_n 0, 1) := by decide +kernel
theorem dX2_append_14 : decode cX2_append 14 = .ok (.getfield 20, 3) := by decide +kernel
theorem dX2_append_17 : decode cX2_append 17 = .ok (.aload_n 1, 1) := by decide +kernel
theorem dX2_append_18 : decode cX2_append 18 = .ok (.aastore, 1) := by decide +kernel
theorem dX2_append_19 : decode cX2_append 19 = .ok (.aload_n 0, 1) := by decide +kernel
theorem dX2_append_20 : decode cX2_append 20 = .ok (.dup, 1) := by decide +kernel
theorem dX2_append_21 : decode cX2_append 21 = .ok (.getfield 20, 3) := by decide +kernel
theorem dX2_append_24 : decode cX2_append 24 = .ok (.iconst 1, 1) := by decide +kernel
theorem dX2_append_25 : decode cX2_append 25 = .ok (.iadd, 1) := by decide +kernel
theorem dX2_append_26 : decode cX2_append 26 = .ok (.putfield 20, 3) := by decide +kernel
theorem dX2_append_29 : decode cX2_append 29 = .ok (.return_, 1) := by decide +kernel
theorem dX2_takeOut_0 : decode cX2_takeOut 0 = .ok (.iload_n 1, 1) := by decide +kernel
theorem dX2_takeOut_1 : decode cX2_takeOut 1 = .ok (.istore_n 2, 1) := by decide +kernel
theorem dX2_takeOut_2 : decode cX2_takeOut 2 = .ok (.iload_n 2, 1) := by decide +kernel
theorem dX2_takeOut_3 : decode cX2_takeOut 3 = .ok (.iconst 1, 1) := by decide +kernel
theorem dX2_takeOut_4 : decode cX2_takeOut 4 = .ok (.iadd, 1) := by decide +kernel
theorem dX2_takeOut_5 : decode cX2_takeOut 5 = .ok (.aload_n 0, 1) := by decide +kernel
theorem dX2_takeOut_6 : decode cX2_takeOut 6 = .ok (.getfield 20, 3) := by decide +kernel
theorem dX2_takeOut_9 : decode cX2_takeOut 9 = .ok (.if_icmp .ge 23, 3) := by decide +kernel
theorem dX2_takeOut_12 : decode cX2_takeOut 12 = .ok (.aload_n 0, 1) := by decide +kernel
theorem dX2_takeOut_13 : decode cX2_takeOut 13 = .ok (.getfield 11, 3) := by decide +kernel
theorem dX2_takeOut_16 : decode cX2_takeOut 16 = .ok (.iload_n 2, 1) := by decide +kernel
theorem dX2_takeOut_17 : decode cX2_takeOut 17 = .ok (.aload_n 0, 1) := by decide +kernel
theorem dX2_takeOut_18 : decode cX2_takeOut 18 = .ok (.getfield 11, 3) := by decide +kernel
theorem dX2_takeOut_21 : decode cX2_takeOut 21 = .ok (.iload_n 2, 1) := by decide +kernel
theorem dX2_takeOut_22 : decode cX2_takeOut 22 = .ok (.iconst 1, 1) := by decide +kernel
theorem dX2_takeOut_23 : decode cX2_takeOut 23 = .ok (.iadd, 1) := by decide +kernel
theorem dX2_takeOut_24 : decode cX2_takeOut 24 = .ok (.aaload, 1) := by decide +kernel
theorem dX2_takeOut_25 : decode cX2_takeOut 25 = .ok (.aastore, 1) := by decide +kernel
theorem dX2_takeOut_26 : decode cX2_takeOut 26 = .ok (.iinc 2 1, 3) := by decide +kernel
theorem dX2_takeOut_29 : decode cX2_takeOut 29 = .ok (.goto (-27), 3) := by decide +kernel
theorem dX2_takeOut_32 : decode cX2_takeOut 32 = .ok (.aload_n 0, 1) := by decide +kernel
theorem dX2_takeOut_33 : decode cX2_takeOut 33 = .ok (.dup, 1) := by decide +kernel
theorem dX2_takeOut_34 : decode cX2_takeOut 34 = .ok (.getfield 20, 3) := by decide +kernel
theorem dX2_takeOut_37 : decode cX2_takeOut 37 = .ok (.iconst 1, 1) := by decide +kernel
theorem dX2_takeOut_38 : decode cX2_takeOut 38 = .ok (.isub, 1) := by decide +kernel
theorem dX2_takeOut_39 : decode cX2_takeOut 39 = .ok (.putfield 20, 3) := by decide +kernel
theorem dX2_takeOut_42 : decode cX2_takeOut 42 = .ok (.return_, 1) := by decide +kernel
theorem dX2_length_0 : decode cX2_length 0 = .ok (.iconst 0, 1) := by decide +kernel
theorem dX2_length_1 : decode cX2_length 1 = .ok (.istore_n 1, 1) := by decide +kernel
theorem dX2_length_2 : decode cX2_length 2 = .ok (.iconst 0, 1) := by decide +kernel
theorem dX2_length_3 : decode cX2_length 3 = .ok (.istore_n 2, 1) := by decide +kernel
theorem dX2_length_4 : decode cX2_length 4 = .ok (.iload_n 2, 1) := by decide +kernel
theorem dX2_length_5 : decode cX2_length 5 = .ok (.aload_n 0, 1) := by decide +kernel
theorem dX2_length_6 : decode cX2_length 6 = .ok (.getfield 20, 3) := by decide +kernel
theorem dX2_length_9 : decode cX2_length 9 = .ok (.if_icmp .ge 21, 3) := by decide +kernel
theorem dX2_length_12 : decode cX2_length 12 = .ok (.iload_n 1, 1) := by decide +kernel
theorem dX2_length_13 : decode cX2_length 13 = .ok (.aload_n 0, 1) := by decide +kernel
theorem dX2_length_14 : decode cX2_length 14 = .ok (.getfield 11, 3) := by decide +kernel
theorem dX2_length_17 : decode cX2_length 17 = .ok (.iload_n 2, 1) := by decide +kernel
theorem dX2_length_18 : decode cX2_length 18 = .ok (.aaload, 1) := by decide +kernel
theorem dX2_length_19 : decode cX2_length 19 = .ok (.invokevirtual 34, 3) := by decide +kernel
theorem dX2_length_22 : decode cX2_length 22 = .ok (.iadd, 1) := by decide +kernel
theorem dX2_length_23 : decode cX2_length 23 = .ok (.istore_n 1, 1) := by decide +kernel
theorem dX2_length_24 : decode cX2_length 24 = .ok (.iinc 2 1, 3) := by decide +kernel
theorem dX2_length_27 : decode cX2_length 27 = .ok (.goto (-23), 3) := by decide +kernel
theorem dX2_length_30 : decode cX2_length 30 = .ok (.iload_n 1, 1) := by decide +kernel
theorem dX2_length_31 : decode cX2_length 31 = .ok (.ireturn, 1) := by decide +kernel
theorem dX2_cost_0 : decode cX2_cost 0 = .ok (.iconst 0, 1) := by decide +kernel
theorem dX2_cost_1 : decode cX2_cost 1 = .ok (.istore_n 1, 1) := by decide +kernel
theorem dX2_cost_2 : decode cX2_cost 2 = .ok (.iconst 0, 1) := by decide +kernel
theorem dX2_cost_3 : decode cX2_cost 3 = .ok (.istore_n 2, 1) := by decide +kernel
theorem dX2_cost_4 : decode cX2_cost 4 = .ok (.iload_n 2, 1) := by decide +kernel
theorem dX2_cost_5 : decode cX2_cost 5 = .ok (.aload_n 0, 1) := by decide +kernel
theorem dX2_cost_6 : decode cX2_cost 6 = .ok (.getfield 20, 3) := by decide +kernel
theorem dX2_cost_9 : decode cX2_cost 9 = .ok (.if_icmp .ge 31, 3) := by decide +kernel
theorem dX2_cost_12 : decode cX2_cost 12 = .ok (.iload_n 1, 1) := by decide +kernel
theorem dX2_cost_13 : decode cX2_cost 13 = .ok (.aload_n 0, 1) := by decide +kernel
theorem dX2_cost_14 : decode cX2_cost 14 = .ok (.getfield 11, 3) := by decide +kernel
theorem dX2_cost_17 : decode cX2_cost 17 = .ok (.iload_n 2, 1) := by decide +kernel
theorem dX2_cost_18 : decode cX2_cost 18 = .ok (.aaload, 1) := by decide +kernel
theorem dX2_cost_19 : decode cX2_cost 19 = .ok (.getfield 38, 3) := by decide +kernel
theorem dX2_cost_22 : decode cX2_cost 22 = .ok (.aload_n 0, 1) := by decide +kernel
theorem dX2_cost_23 : decode cX2_cost 23 = .ok (.getfield 11, 3) := by decide +kernel
theorem dX2_cost_26 : decode cX2_cost 26 = .ok (.iload_n 2, 1) := by decide +kernel
theorem dX2_cost_27 : decode cX2_cost 27 = .ok (.aaload, 1) := by decide +kernel
theorem dX2_cost_28 : decode cX2_cost 28 = .ok (.getfield 41, 3) := by decide +kernel
theorem dX2_cost_31 : decode cX2_cost 31 = .ok (.imul, 1) := by decide +kernel
theorem dX2_cost_32 : decode cX2_cost 32 = .ok (.iadd, 1) := by decide +kernel
theorem dX2_cost_33 : decode cX2_cost 33 = .ok (.istore_n 1, 1) := by decide +kernel
theorem dX2_cost_34 : decode cX2_cost 34 = .ok (.iinc 2 1, 3) := by decide +kernel
theorem dX2_cost_37 : decode cX2_cost 37 = .ok (.goto (-33), 3) := by decide +kernel
theorem dX2_cost_40 : decode cX2_cost 40 = .ok (.iload_n 1, 1) := by decide +kernel
theorem dX2_cost_41 : decode cX2_cost 41 = .ok (.ireturn, 1) := by decide +kernel
theorem dX2_fits_0 : decode cX2_fits 0 = .ok (.iconst 0, 1) := by decide +kernel
theorem dX2_fits_1 : decode cX2_fits 1 = .ok (.istore_n 1, 1) := by decide +kernel
theorem dX2_fits_2 : decode cX2_fits 2 = .ok (.iload_n 1, 1) := by decide +kernel
theorem dX2_fits_3 : decode cX2_fits 3 = .ok (.aload_n 0, 1) := by decide +kernel
theorem dX2_fits_4 : decode cX2_fits 4 = .ok (.getfield 20, 3) := by decide +kernel
theorem dX2_fits_7 : decode cX2_fits 7 = .ok (.if_icmp .ge 27, 3) := by decide +kernel
theorem dX2_fits_10 : decode cX2_fits 10 = .ok (.aload_n 0, 1) := by decide +kernel
theorem dX2_fits_11 : decode cX2_fits 11 = .ok (.getfield 11, 3) := by decide +kernel
theorem dX2_fits_14 : decode cX2_fits 14 = .ok (.iload_n 1, 1) := by decide +kernel
theorem dX2_fits_15 : decode cX2_fits 15 = .ok (.aaload, 1) := by decide +kernel
theorem dX2_fits_16 : decode cX2_fits 16 = .ok (.getfield 41, 3) := by decide +kernel
theorem dX2_fits_19 : decode cX2_fits 19 = .ok (.aload_n 0, 1) := by decide +kernel
theorem dX2_fits_20 : decode cX2_fits 20 = .ok (.getfield 24, 3) := by decide +kernel
theorem dX2_fits_23 : decode cX2_fits 23 = .ok (.if_icmp .le 5, 3) := by decide +kernel
theorem dX2_fits_26 : decode cX2_fits 26 = .ok (.iconst 0, 1) := by decide +kernel
theorem dX2_fits_27 : decode cX2_fits 27 = .ok (.ireturn, 1) := by decide +kernel
theorem dX2_fits_28 : decode cX2_fits 28 = .ok (.iinc 1 1, 3) := by decide +kernel
theorem dX2_fits_31 : decode cX2_fits 31 = .ok (.goto (-29), 3) := by decide +kernel
theorem dX2_fits_34 : decode cX2_fits 34 = .ok (.aload_n 0, 1) := by decide +kernel
theorem dX2_fits_35 : decode cX2_fits 35 = .ok (.invokevirtual 44, 3) := by decide +kernel
theorem dX2_fits_38 : decode cX2_fits 38 = .ok (.aload_n 0, 1) := by decide +kernel
theorem dX2_fits_39 : decode cX2_fits 39 = .ok (.getfield 27, 3) := by decide +kernel
theorem dX2_fits_42 : decode cX2_fits 42 = .ok (.if_icmp .gt 7, 3) := by decide +kernel
theorem dX2_fits_45 : decode cX2_fits 45 = .ok (.iconst 1, 1) := by decide +kernel
theorem dX2_fits_46 : decode cX2_fits 46 = .ok (.goto 4, 3) := by decide +kernel
theorem dX2_fits_49 : decode cX2_fits 49 = .ok (.iconst 0, 1) := by decide +kernel
theorem dX2_fits_50 : decode cX2_fits 50 = .ok (.ireturn, 1) := by decide +kernel
theorem dX2_heaviestWithin_0 : decode cX2_heaviestWithin 0 = .ok (.iconst 0, 1) := by decide +kernel
theorem dX2_heaviestWithin_1 : decode cX2_heaviestWithin 1 = .ok (.istore_n 2, 1) := by decide +kernel
theorem dX2_heaviestWithin_2 : decode cX2_heaviestWithin 2 = .ok (.iconst 0, 1) := by decide +kernel
theorem dX2_heaviestWithin_3 : decode cX2_heaviestWithin 3 = .ok (.istore_n 3, 1) := by decide +kernel
theorem dX2_heaviestWithin_4 : decode cX2_heaviestWithin 4 = .ok (.iconst 0, 1) := by decide +kernel
theorem dX2_heaviestWithin_5 : decode cX2_heaviestWithin 5 = .ok (.istore 4, 2) := by decide +kernel
theorem dX2_heaviestWithin_7 : decode cX2_heaviestWithin 7 = .ok (.iload 4, 2) := by decide +kernel
theorem dX2_heaviestWithin_9 : decode cX2_heaviestWithin 9 = .ok (.iconst 1, 1) := by decide +kernel
theorem dX2_heaviestWithin_10 : decode cX2_heaviestWithin 10 = .ok (.aload_n 0, 1) := by decide +kernel
theorem dX2_heaviestWithin_11 : decode cX2_heaviestWithin 11 = .ok (.getfield 20, 3) := by decide +kernel
theorem dX2_heaviestWithin_14 : decode cX2_heaviestWithin 14 = .ok (.ishl, 1) := by decide +kernel
theorem dX2_heaviestWithin_15 : decode cX2_heaviestWithin 15 = .ok (.if_icmp .ge 30, 3) := by decide +kernel
theorem dX2_heaviestWithin_18 : decode cX2_heaviestWithin 18 = .ok (.aload_n 0, 1) := by decide +kernel
theorem dX2_heaviestWithin_19 : decode cX2_heaviestWithin 19 = .ok (.iload 4, 2) := by decide +kernel
theorem dX2_heaviestWithin_21 : decode cX2_heaviestWithin 21 = .ok (.iload_n 1, 1) := by decide +kernel
theorem dX2_heaviestWithin_22 : decode cX2_heaviestWithin 22 = .ok (.invokevirtual 47, 3) := by decide +kernel
theorem dX2_heaviestWithin_25 : decode cX2_heaviestWithin 25 = .ok (.istore 5, 2) := by decide +kernel
theorem dX2_heaviestWithin_27 : decode cX2_heaviestWithin 27 = .ok (.iload 5, 2) := by decide +kernel
theorem dX2_heaviestWithin_29 : decode cX2_heaviestWithin 29 = .ok (.iload_n 3, 1) := by decide +kernel
theorem dX2_heaviestWithin_30 : decode cX2_heaviestWithin 30 = .ok (.if_icmp .lt 9, 3) := by decide +kernel
theorem dX2_heaviestWithin_33 : decode cX2_heaviestWithin 33 = .ok (.iload 4, 2) := by decide +kernel
theorem dX2_heaviestWithin_35 : decode cX2_heaviestWithin 35 = .ok (.istore_n 2, 1) := by decide +kernel
theorem dX2_heaviestWithin_36 : decode cX2_heaviestWithin 36 = .ok (.iload 5, 2) := by decide +kernel
theorem dX2_heaviestWithin_38 : decode cX2_heaviestWithin 38 = .ok (.istore_n 3, 1) := by decide +kernel
theorem dX2_heaviestWithin_39 : decode cX2_heaviestWithin 39 = .ok (.iinc 4 1, 3) := by decide +kernel
theorem dX2_heaviestWithin_42 : decode cX2_heaviestWithin 42 = .ok (.goto (-35), 3) := by decide +kernel
theorem dX2_heaviestWithin_45 : decode cX2_heaviestWithin 45 = .ok (.iload_n 2, 1) := by decide +kernel
theorem dX2_heaviestWithin_46 : decode cX2_heaviestWithin 46 = .ok (.ireturn, 1) := by decide +kernel
theorem dX2_weightWithin_0 : decode cX2_weightWithin 0 = .ok (.iconst 0, 1) := by decide +kernel
theorem dX2_weightWithin_1 : decode cX2_weightWithin 1 = .ok (.istore_n 3, 1) := by decide +kernel
theorem dX2_weightWithin_2 : decode cX2_weightWithin 2 = .ok (.iconst 0, 1) := by decide +kernel
theorem dX2_weightWithin_3 : decode cX2_weightWithin 3 = .ok (.istore 4, 2) := by decide +kernel
theorem dX2_weightWithin_5 : decode cX2_weightWithin 5 = .ok (.iconst 0, 1) := by decide +kernel
theorem dX2_weightWithin_6 : decode cX2_weightWithin 6 = .ok (.istore 5, 2) := by decide +kernel
theorem dX2_weightWithin_8 : decode cX2_weightWithin 8 = .ok (.iload 5, 2) := by decide +kernel
theorem dX2_weightWithin_10 : decode cX2_weightWithin 10 = .ok (.aload_n 0, 1) := by decide +kernel
theorem dX2_weightWithin_11 : decode cX2_weightWithin 11 = .ok (.getfield 20, 3) := by decide +kernel
theorem dX2_weightWithin_14 : decode cX2_weightWithin 14 = .ok (.if_icmp .ge 47, 3) := by decide +kernel
theorem dX2_weightWithin_17 : decode cX2_weightWithin 17 = .ok (.iload_n 1, 1) := by decide +kernel
theorem dX2_weightWithin_18 : decode cX2_weightWithin 18 = .ok (.iload 5, 2) := by decide +kernel
theorem dX2_weightWithin_20 : decode cX2_weightWithin 20 = .ok (.ishr, 1) := by decide +kernel
theorem dX2_weightWithin_21 : decode cX2_weightWithin 21 = .ok (.iconst 1, 1) := by decide +kernel
theorem dX2_weightWithin_22 : decode cX2_weightWithin 22 = .ok (.iand, 1) := by decide +kernel
theorem dX2_weightWithin_23 : decode cX2_weightWithin 23 = .ok (.iconst 1, 1) := by decide +kernel
theorem dX2_weightWithin_24 : decode cX2_weightWithin 24 = .ok (.if_icmp .ne 31, 3) := by decide +kernel
theorem dX2_weightWithin_27 : decode cX2_weightWithin 27 = .ok (.iload_n 3, 1) := by decide +kernel
theorem dX2_weightWithin_28 : decode cX2_weightWithin 28 = .ok (.aload_n 0, 1) := by decide +kernel
theorem dX2_weightWithin_29 : decode cX2_weightWithin 29 = .ok (.getfield 11, 3) := by decide +kernel
theorem dX2_weightWithin_32 : decode cX2_weightWithin 32 = .ok (.iload 5, 2) := by decide +kernel
theorem dX2_weightWithin_34 : decode cX2_weightWithin 34 = .ok (.aaload, 1) := by decide +kernel
theorem dX2_weightWithin_35 : decode cX2_weightWithin 35 = .ok (.invokevirtual 34, 3) := by decide +kernel
theorem dX2_weightWithin_38 : decode cX2_weightWithin 38 = .ok (.iadd, 1) := by decide +kernel
theorem dX2_weightWithin_39 : decode cX2_weightWithin 39 = .ok (.istore_n 3, 1) := by decide +kernel
theorem dX2_weightWithin_40 : decode cX2_weightWithin 40 = .ok (.iload 4, 2) := by decide +kernel
theorem dX2_weightWithin_42 : decode cX2_weightWithin 42 = .ok (.aload_n 0, 1) := by decide +kernel
theorem dX2_weightWithin_43 : decode cX2_weightWithin 43 = .ok (.getfield 11, 3) := by decide +kernel
theorem dX2_weightWithin_46 : decode cX2_weightWithin 46 = .ok (.iload 5, 2) := by decide +kernel
theorem dX2_weightWithin_48 : decode cX2_weightWithin 48 = .ok (.aaload, 1) := by decide +kernel
theorem dX2_weightWithin_49 : decode cX2_weightWithin 49 = .ok (.getfield 38, 3) := by decide +kernel
theorem dX2_weightWithin_52 : decode cX2_weightWithin 52 = .ok (.iadd, 1) := by decide +kernel
theorem dX2_weightWithin_53 : decode cX2_weightWithin 53 = .ok (.istore 4, 2) := by decide +kernel
theorem dX2_weightWithin_55 : decode cX2_weightWithin 55 = .ok (.iinc 5 1, 3) := by decide +kernel
theorem dX2_weightWithin_58 : decode cX2_weightWithin 58 = .ok (.goto (-50), 3) := by decide +kernel
theorem dX2_weightWithin_61 : decode cX2_weightWithin 61 = .ok (.iload_n 3, 1) := by decide +kernel
theorem dX2_weightWithin_62 : decode cX2_weightWithin 62 = .ok (.iload_n 2, 1) := by decide +kernel
theorem dX2_weightWithin_63 : decode cX2_weightWithin 63 = .ok (.if_icmp .gt 8, 3) := by decide +kernel
theorem dX2_weightWithin_66 : decode cX2_weightWithin 66 = .ok (.iload 4, 2) := by decide +kernel
theorem dX2_weightWithin_68 : decode cX2_weightWithin 68 = .ok (.goto 4, 3) := by decide +kernel
theorem dX2_weightWithin_71 : decode cX2_weightWithin 71 = .ok (.iconst (-1), 1) := by decide +kernel
theorem dX2_weightWithin_72 : decode cX2_weightWithin 72 = .ok (.ireturn, 1) := by decide +kernel
theorem dX3_init_0 : decode cX3_init 0 = .ok (.aload_n 0, 1) := by decide +kernel
theorem dX3_init_1 : decode cX3_init 1 = .ok (.invokespecial 3, 3) := by decide +kernel
theorem dX3_init_4 : decode cX3_init 4 = .ok (.aload_n 0, 1) := by decide +kernel
theorem dX3_init_5 : decode cX3_init 5 = .ok (.iconst 0, 1) := by decide +kernel
theorem dX3_init_6 : decode cX3_init 6 = .ok (.iload_n 2, 1) := by decide +kernel
theorem dX3_init_7 : decode cX3_init 7 = .ok (.bipush 6, 2) := by decide +kernel
theorem dX3_init_9 : decode cX3_init 9 = .ok (.invokestatic 9, 3) := by decide +kernel
theorem dX3_init_12 : decode cX3_init 12 = .ok (.invokestatic 15, 3) := by decide +kernel
theorem dX3_init_15 : decode cX3_init 15 = .ok (.putfield 18, 3) := by decide +kernel
theorem dX3_init_18 : decode cX3_init 18 = .ok (.aload_n 0, 1) := by decide +kernel
theorem dX3_init_19 : decode cX3_init 19 = .ok (.iconst 0, 1) := by decide +kernel
theorem dX3_init_20 : decode cX3_init 20 = .ok (.iload_n 3, 1) := by decide +kernel
theorem dX3_init_21 : decode cX3_init 21 = .ok (.bipush 8, 2) := by decide +kernel
theorem dX3_init_23 : decode cX3_init 23 = .ok (.invokestatic 9, 3) := by decide +kernel
theorem dX3_init_26 : decode cX3_init 26 = .ok (.invokestatic 15, 3) := by decide +kernel
theorem dX3_init_29 : decode cX3_init 29 = .ok (.putfield 24, 3) := by decide +kernel
theorem dX3_init_32 : decode cX3_init 32 = .ok (.aload_n 0, 1) := by decide +kernel
theorem dX3_init_33 : decode cX3_init 33 = .ok (.bipush 6, 2) := by decide +kernel
theorem dX3_init_35 : decode cX3_init 35 = .ok (.anewarray 27, 3) := by decide +kernel
theorem dX3_init_38 : decode cX3_init 38 = .ok (.putfield 29, 3) := by decide +kernel
theorem dX3_init_41 : decode cX3_init 41 = .ok (.aload_n 0, 1) := by decide +kernel
theorem dX3_init_42 : decode cX3_init 42 = .ok (.bipush 6, 2) := by decide +kernel
theorem dX3_init_44 : decode cX3_init 44 = .ok (.newarray .int, 2) := by decide +kernel
theorem dX3_init_46 : decode cX3_init 46 = .ok (.putfield 33, 3) := by decide +kernel
theorem dX3_init_49 : decode cX3_init 49 = .ok (.iconst 0, 1) := by decide +kernel
theorem dX3_init_50 : decode cX3_init 50 = .ok (.istore 4, 2) := by decide +kernel
theorem dX3_init_52 : decode cX3_init 52 = .ok (.iload 4, 2) := by decide +kernel
theorem dX3_init_54 : decode cX3_init 54 = .ok (.bipush 6, 2) := by decide +kernel
theorem dX3_init_56 : decode cX3_init 56 = .ok (.if_icmp .ge 23, 3) := by decide +kernel
theorem dX3_init_59 : decode cX3_init 59 = .ok (.aload_n 0, 1) := by decide +kernel
theorem dX3_init_60 : decode cX3_init 60 = .ok (.getfield 29, 3) := by decide +kernel
theorem dX3_init_63 : decode cX3_init 63 = .ok (.iload 4, 2) := by decide +kernel
theorem dX3_init_65 : decode cX3_init 65 = .ok (.aload_n 1, 1) := by decide +kernel
theorem dX3_init_66 : decode cX3_init 66 = .ok (.getfield 37, 3) := by decide +kernel
theorem dX3_init_69 : decode cX3_init 69 = .ok (.iload 4, 2) := by decide +kernel
theorem dX3_init_71 : decode cX3_init 71 = .ok (.aaload, 1) := by decide +kernel
theorem dX3_init_72 : decode cX3_init 72 = .ok (.aastore, 1) := by decide +kernel
theorem dX3_init_73 : decode cX3_init 73 = .ok (.iinc 4 1, 3) := by decide +kernel
theorem dX3_init_76 : decode cX3_init 76 = .ok (.goto (-24), 3) := by decide +kernel
theorem dX3_init_79 : decode cX3_init 79 = .ok (.aload_n 0, 1) := by decide +kernel
theorem dX3_init_80 : decode cX3_init 80 = .ok (.aload_n 0, 1) := by decide +kernel
theorem dX3_init_81 : decode cX3_init 81 = .ok (.invokevirtual 40, 3) := by decide +kernel
theorem dX3_init_84 : decode cX3_init 84 = .ok (.putfield 44, 3) := by decide +kernel
theorem dX3_init_87 : decode cX3_init 87 = .ok (.aload_n 0, 1) := by decide +kernel
theorem dX3_init_88 : decode cX3_init 88 = .ok (.aload_n 0, 1) := by decide +kernel
theorem dX3_init_89 : decode cX3_init 89 = .ok (.getfield 24, 3) := by decide +kernel
theorem dX3_init_92 : decode cX3_init 92 = .ok (.anewarray 47, 3) := by decide +kernel
theorem dX3_init_95 : decode cX3_init 95 = .ok (.putfield 49, 3) := by decide +kernel
theorem dX3_init_98 : decode cX3_init 98 = .ok (.iconst 0, 1) := by decide +kernel
theorem dX3_init_99 : decode cX3_init 99 = .ok (.istore 4, 2) := by decide +kernel
theorem dX3_init_101 : decode cX3_init 101 = .ok (.iload 4, 2) := by decide +kernel
theorem dX3_init_103 : decode cX3_init 103 = .ok (.aload_n 0, 1) := by decide +kernel
theorem dX3_init_104 : decode cX3_init 104 = .ok (.getfield 24, 3) := by decide +kernel
theorem dX3_init_107 : decode cX3_init 107 = .ok (.if_icmp .ge 42, 3) := by decide +kernel
theorem dX3_init_110 : decode cX3_init 110 = .ok (.aload_n 0, 1) := by decide +kernel
theorem dX3_init_111 : decode cX3_init 111 = .ok (.getfield 49, 3) := by decide +kernel
theorem dX3_init_114 : decode cX3_init 114 = .ok (.iload 4, 2) := by decide +kernel
theorem dX3_init_116 : decode cX3_init 116 = .ok (.new 47, 3) := by decide +kernel
theorem dX3_init_119 : decode cX3_init 119 = .ok (.dup, 1) := by decide +kernel
theorem dX3_init_120 : decode cX3_init 120 = .ok (.aload_n 0, 1) := by decide +kernel
theorem dX3_init_121 : decode cX3_init 121 = .ok (.getfield 44, 3) := by decide +kernel
theorem dX3_init_124 : decode cX3_init 124 = .ok (.invokespecial 53, 3) := by decide +kernel
theorem dX3_init_127 : decode cX3_init 127 = .ok (.aastore, 1) := by decide +kernel
theorem dX3_init_128 : decode cX3_init 128 = .ok (.aload_n 0, 1) := by decide +kernel
theorem dX3_init_129 : decode cX3_init 129 = .ok (.aload_n 0, 1) := by decide +kernel
theorem dX3_init_130 : decode cX3_init 130 = .ok (.getfield 49, 3) := by decide +kernel
theorem dX3_init_133 : decode cX3_init 133 = .ok (.iload 4, 2) := by decide +kernel
theorem dX3_init_135 : decode cX3_init 135 = .ok (.aaload, 1) := by decide +kernel
theorem dX3_init_136 : decode cX3_init 136 = .ok (.iload 4, 2) := by decide +kernel
theorem dX3_init_138 : decode cX3_init 138 = .ok (.iconst 1, 1) := by decide +kernel
theorem dX3_init_139 : decode cX3_init 139 = .ok (.iadd, 1) := by decide +kernel
theorem dX3_init_140 : decode cX3_init 140 = .ok (.invokevirtual 56, 3) := by decide +kernel
theorem dX3_init_143 : decode cX3_init 143 = .ok (.iinc 4 1, 3) := by decide +kernel
theorem dX3_init_146 : decode cX3_init 146 = .ok (.goto (-45), 3) := by decide +kernel
theorem dX3_init_149 : decode cX3_init 149 = .ok (.return_, 1) := by decide +kernel
theorem dX3_order_0 : decode cX3_order 0 = .ok (.iconst 0, 1) := by decide +kernel
theorem dX3_order_1 : decode cX3_order 1 = .ok (.istore_n 1, 1) := by decide +kernel
theorem dX3_order_2 : decode cX3_order 2 = .ok (.iconst 1, 1) := by decide +kernel
theorem dX3_order_3 : decode cX3_order 3 = .ok (.istore_n 2, 1) := by decide +kernel
theorem dX3_order_4 : decode cX3_order 4 = .ok (.iload_n 2, 1) := by decide +kernel
theorem dX3_order_5 : decode cX3_order 5 = .ok (.bipush 8, 2) := by decide +kernel
theorem dX3_order_7 : decode cX3_order 7 = .ok (.if_icmp .gt 57, 3) := by decide +kernel
theorem dX3_order_10 : decode cX3_order 10 = .ok (.iconst 0, 1) := by decide +kernel
theorem dX3_order_11 : decode cX3_order 11 = .ok (.istore_n 3, 1) := by decide +kernel
theorem dX3_order_12 : decode cX3_order 12 = .ok (.iload_n 3, 1) := by decide +kernel
theorem dX3_order_13 : decode cX3_order 13 = .ok (.aload_n 0, 1) := by decide +kernel
theorem dX3_order_14 : decode cX3_order 14 = .ok (.getfield 18, 3) := by decide +kernel
theorem dX3_order_17 : decode cX3_order 17 = .ok (.if_icmp .ge 41, 3) := by decide +kernel
theorem dX3_order_20 : decode cX3_order 20 = .ok (.aload_n 0, 1) := by decide +kernel
theorem dX3_order_21 : decode cX3_order 21 = .ok (.getfield 29, 3) := by decide +kernel
theorem dX3_order_24 : decode cX3_order 24 = .ok (.iload_n 3, 1) := by decide +kernel
theorem dX3_order_25 : decode cX3_order 25 = .ok (.aaload, 1) := by decide +kernel
theorem dX3_order_26 : decode cX3_order 26 = .ok (.getfield 60, 3) := by decide +kernel
theorem dX3_order_29 : decode cX3_order 29 = .ok (.iload_n 2, 1) := by decide +kernel
theorem dX3_order_30 : decode cX3_order 30 = .ok (.if_icmp .ne 22, 3) := by decide +kernel
theorem dX3_order_33 : decode cX3_order 33 = .ok (.aload_n 0, 1) := by decide +kernel
theorem dX3_order_34 : decode cX3_order 34 = .ok (.getfield 33, 3) := by decide +kernel
theorem dX3_order_37 : decode cX3_order 37 = .ok (.iload_n 3, 1) := by decide +kernel
theorem dX3_order_38 : decode cX3_order 38 = .ok (.iload_n 1, 1) := by decide +kernel
theorem dX3_order_39 : decode cX3_order 39 = .ok (.iastore, 1) := by decide +kernel
theorem dX3_order_40 : decode cX3_order 40 = .ok (.iload_n 1, 1) := by decide +kernel
theorem dX3_order_41 : decode cX3_order 41 = .ok (.aload_n 0, 1) := by decide +kernel
theorem dX3_order_42 : decode cX3_order 42 = .ok (.getfield 29, 3) := by decide +kernel
theorem dX3_order_45 : decode cX3_order 45 = .ok (.iload_n 3, 1) := by decide +kernel
theorem dX3_order_46 : decode cX3_order 46 = .ok (.aaload, 1) := by decide +kernel
theorem dX3_order_47 : decode cX3_order 47 = .ok (.invokevirtual 63, 3) := by decide +kernel
theorem dX3_order_50 : decode cX3_order 50 = .ok (.iadd, 1) := by decide +kernel
theorem dX3_order_51 : decode cX3_order 51 = .ok (.istore_n 1, 1) := by decide +kernel
theorem dX3_order_52 : decode cX3_order 52 = .ok (.iinc 3 1, 3) := by decide +kernel
theorem dX3_order_55 : decode cX3_order 55 = .ok (.goto (-43), 3) := by decide +kernel
theorem dX3_order_58 : decode cX3_order 58 = .ok (.iinc 2 1, 3) := by decide +kernel
theorem dX3_order_61 : decode cX3_order 61 = .ok (.goto (-57), 3) := by decide +kernel
theorem dX3_order_64 : decode cX3_order 64 = .ok (.iload_n 1, 1) := by decide +kernel
theorem dX3_order_65 : decode cX3_order 65 = .ok (.ireturn, 1) := by decide +kernel
theorem dX3_fill_0 : decode cX3_fill 0 = .ok (.iconst 0, 1) := by decide +kernel
theorem dX3_fill_1 : decode cX3_fill 1 = .ok (.istore_n 3, 1) := by decide +kernel
theorem dX3_fill_2 : decode cX3_fill 2 = .ok (.iload_n 3, 1) := by decide +kernel
theorem dX3_fill_3 : decode cX3_fill 3 = .ok (.aload_n 0, 1) := by decide +kernel
theorem dX3_fill_4 : decode cX3_fill 4 = .ok (.getfield 18, 3) := by decide +kernel
theorem dX3_fill_7 : decode cX3_fill 7 = .ok (.if_icmp .ge 76, 3) := by decide +kernel
theorem dX3_fill_10 : decode cX3_fill 10 = .ok (.aload_n 0, 1) := by decide +kernel
theorem dX3_fill_11 : decode cX3_fill 11 = .ok (.getfield 29, 3) := by decide +kernel
theorem dX3_fill_14 : decode cX3_fill 14 = .ok (.iload_n 3, 1) := by decide +kernel
theorem dX3_fill_15 : decode cX3_fill 15 = .ok (.aaload, 1) := by decide +kernel
theorem dX3_fill_16 : decode cX3_fill 16 = .ok (.getfield 60, 3) := by decide +kernel
theorem dX3_fill_19 : decode cX3_fill 19 = .ok (.istore 4, 2) := by decide +kernel
theorem dX3_fill_21 : decode cX3_fill 21 = .ok (.iconst 0, 1) := by decide +kernel
theorem dX3_fill_22 : decode cX3_fill 22 = .ok (.istore 5, 2) := by decide +kernel
theorem dX3_fill_24 : decode cX3_fill 24 = .ok (.iload 5, 2) := by decide +kernel
theorem dX3_fill_26 : decode cX3_fill 26 = .ok (.aload_n 0, 1) := by decide +kernel
theorem dX3_fill_27 : decode cX3_fill 27 = .ok (.getfield 29, 3) := by decide +kernel
theorem dX3_fill_30 : decode cX3_fill 30 = .ok (.iload_n 3, 1) := by decide +kernel
theorem dX3_fill_31 : decode cX3_fill 31 = .ok (.aaload, 1) := by decide +kernel
theorem dX3_fill_32 : decode cX3_fill 32 = .ok (.invokevirtual 63, 3) := by decide +kernel
theorem dX3_fill_35 : decode cX3_fill 35 = .ok (.if_icmp .ge 42, 3) := by decide +kernel
theorem dX3_fill_38 : decode cX3_fill 38 = .ok (.aload_n 1, 1) := by decide +kernel
theorem dX3_fill_39 : decode cX3_fill 39 = .ok (.aload_n 0, 1) := by decide +kernel
theorem dX3_fill_40 : decode cX3_fill 40 = .ok (.getfield 33, 3) := by decide +kernel
theorem dX3_fill_43 : decode cX3_fill 43 = .ok (.iload_n 3, 1) := by decide +kernel
theorem dX3_fill_44 : decode cX3_fill 44 = .ok (.iaload, 1) := by decide +kernel
theorem dX3_fill_45 : decode cX3_fill 45 = .ok (.iload 5, 2) := by decide +kernel
theorem dX3_fill_47 : decode cX3_fill 47 = .ok (.iadd, 1) := by decide +kernel
theorem dX3_fill_48 : decode cX3_fill 48 = .ok (.aload_n 0, 1) := by decide +kernel
theorem dX3_fill_49 : decode cX3_fill 49 = .ok (.getfield 29, 3) := by decide +kernel
theorem dX3_fill_52 : decode cX3_fill 52 = .ok (.iload_n 3, 1) := by decide +kernel
theorem dX3_fill_53 : decode cX3_fill 53 = .ok (.aaload, 1) := by decide +kernel
theorem dX3_fill_54 : decode cX3_fill 54 = .ok (.getfield 66, 3) := by decide +kernel
theorem dX3_fill_57 : decode cX3_fill 57 = .ok (.iload 5, 2) := by decide +kernel
theorem dX3_fill_59 : decode cX3_fill 59 = .ok (.iload 4, 2) := by decide +kernel
theorem dX3_fill_61 : decode cX3_fill 61 = .ok (.imul, 1) := by decide +kernel
theorem dX3_fill_62 : decode cX3_fill 62 = .ok (.iload 4, 2) := by decide +kernel
theorem dX3_fill_64 : decode cX3_fill 64 = .ok (.iload_n 2, 1) := by decide +kernel
theorem dX3_fill_65 : decode cX3_fill 65 = .ok (.invokestatic 69, 3) := by decide +kernel
theorem dX3_fill_68 : decode cX3_fill 68 = .ok (.invokevirtual 73, 3) := by decide +kernel
theorem dX3_fill_71 : decode cX3_fill 71 = .ok (.iinc 5 1, 3) := by decide +kernel
theorem dX3_fill_74 : decode cX3_fill 74 = .ok (.goto (-50), 3) := by decide +kernel
theorem dX3_fill_77 : decode cX3_fill 77 = .ok (.iinc 3 1, 3) := by decide +kernel
theorem dX3_fill_80 : decode cX3_fill 80 = .ok (.goto (-78), 3) := by decide +kernel
theorem dX3_fill_83 : decode cX3_fill 83 = .ok (.return_, 1) := by decide +kernel
theorem dX3_hasPart_0 : decode cX3_hasPart 0 = .ok (.iload_n 1, 1) := by decide +kernel
theorem dX3_hasPart_1 : decode cX3_hasPart 1 = .ok (.iconst 0, 1) := by decide +kernel
theorem dX3_hasPart_2 : decode cX3_hasPart 2 = .ok (.aload_n 0, 1) := by decide +kernel
theorem dX3_hasPart_3 : decode cX3_hasPart 3 = .ok (.getfield 18, 3) := by decide +kernel
theorem dX3_hasPart_6 : decode cX3_hasPart 6 = .ok (.iconst 1, 1) := by decide +kernel
theorem dX3_hasPart_7 : decode cX3_hasPart 7 = .ok (.isub, 1) := by decide +kernel
theorem dX3_hasPart_8 : decode cX3_hasPart 8 = .ok (.invokestatic 77, 3) := by decide +kernel
theorem dX3_hasPart_11 : decode cX3_hasPart 11 = .ok (.ireturn, 1) := by decide +kernel
theorem dX3_hasPacket_0 : decode cX3_hasPacket 0 = .ok (.iload_n 1, 1) := by decide +kernel
theorem dX3_hasPacket_1 : decode cX3_hasPacket 1 = .ok (.iconst 0, 1) := by decide +kernel
theorem dX3_hasPacket_2 : decode cX3_hasPacket 2 = .ok (.aload_n 0, 1) := by decide +kernel
theorem dX3_hasPacket_3 : decode cX3_hasPacket 3 = .ok (.getfield 24, 3) := by decide +kernel
theorem dX3_hasPacket_6 : decode cX3_hasPacket 6 = .ok (.iconst 1, 1) := by decide +kernel
theorem dX3_hasPacket_7 : decode cX3_hasPacket 7 = .ok (.isub, 1) := by decide +kernel
theorem dX3_hasPacket_8 : decode cX3_hasPacket 8 = .ok (.invokestatic 77, 3) := by decide +kernel
theorem dX3_hasPacket_11 : decode cX3_hasPacket 11 = .ok (.ireturn, 1) := by decide +kernel
theorem dX3_gather_0 : decode cX3_gather 0 = .ok (.aload_n 0, 1) := by decide +kernel
theorem dX3_gather_1 : decode cX3_gather 1 = .ok (.getfield 33, 3) := by decide +kernel
theorem dX3_gather_4 : decode cX3_gather 4 = .ok (.iload_n 1, 1) := by decide +kernel
theorem dX3_gather_5 : decode cX3_gather 5 = .ok (.iaload, 1) := by decide +kernel
theorem dX3_gather_6 : decode cX3_gather 6 = .ok (.iload_n 2, 1) := by decide +kernel
theorem dX3_gather_7 : decode cX3_gather 7 = .ok (.iadd, 1) := by decide +kernel
theorem dX3_gather_8 : decode cX3_gather 8 = .ok (.istore 4, 2) := by decide +kernel
theorem dX3_gather_10 : decode cX3_gather 10 = .ok (.aload_n 3, 1) := by decide +kernel
theorem dX3_gather_11 : decode cX3_gather 11 = .ok (.aload_n 0, 1) := by decide +kernel
theorem dX3_gather_12 : decode cX3_gather 12 = .ok (.getfield 29, 3) := by decide +kernel
theorem dX3_gather_15 : decode cX3_gather 15 = .ok (.iload_n 1, 1) := by decide +kernel
theorem dX3_gather_16 : decode cX3_gather 16 = .ok (.aaload, 1) := by decide +kernel
theorem dX3_gather_17 : decode cX3_gather 17 = .ok (.getfield 60, 3) := by decide +kernel
theorem dX3_gather_20 : decode cX3_gather 20 = .ok (.invokevirtual 81, 3) := by decide +kernel
theorem dX3_gather_23 : decode cX3_gather 23 = .ok (.iconst 0, 1) := by decide +kernel
theorem dX3_gather_24 : decode cX3_gather 24 = .ok (.istore 5, 2) := by decide +kernel
theorem dX3_gather_26 : decode cX3_gather 26 = .ok (.iload 5, 2) := by decide +kernel
theorem dX3_gather_28 : decode cX3_gather 28 = .ok (.aload_n 0, 1) := by decide +kernel
theorem dX3_gather_29 : decode cX3_gather 29 = .ok (.getfield 24, 3) := by decide +kernel
theorem dX3_gather_32 : decode cX3_gather 32 = .ok (.if_icmp .ge 45, 3) := by decide +kernel
theorem dX3_gather_35 : decode cX3_gather 35 = .ok (.aload_n 0, 1) := by decide +kernel
theorem dX3_gather_36 : decode cX3_gather 36 = .ok (.getfield 49, 3) := by decide +kernel
theorem dX3_gather_39 : decode cX3_gather 39 = .ok (.iload 5, 2) := by decide +kernel
theorem dX3_gather_41 : decode cX3_gather 41 = .ok (.aaload, 1) := by decide +kernel
theorem dX3_gather_42 : decode cX3_gather 42 = .ok (.iload 4, 2) := by decide +kernel
theorem dX3_gather_44 : decode cX3_gather 44 = .ok (.invokevirtual 86, 3) := by decide +kernel
theorem dX3_gather_47 : decode cX3_gather 47 = .ok (.ifCond .eq 24, 3) := by decide +kernel
theorem dX3_gather_50 : decode cX3_gather 50 = .ok (.aload_n 3, 1) := by decide +kernel
theorem dX3_gather_51 : decode cX3_gather 51 = .ok (.iload 5, 2) := by decide +kernel
theorem dX3_gather_53 : decode cX3_gather 53 = .ok (.iconst 1, 1) := by decide +kernel
theorem dX3_gather_54 : decode cX3_gather 54 = .ok (.iadd, 1) := by decide +kernel
theorem dX3_gather_55 : decode cX3_gather 55 = .ok (.aload_n 0, 1) := by decide +kernel
theorem dX3_gather_56 : decode cX3_gather 56 = .ok (.getfield 49, 3) := by decide +kernel
theorem dX3_gather_59 : decode cX3_gather 59 = .ok (.iload 5, 2) := by decide +kernel
theorem dX3_gather_61 : decode cX3_gather 61 = .ok (.aaload, 1) := by decide +kernel
theorem dX3_gather_62 : decode cX3_gather 62 = .ok (.getfield 90, 3) := by decide +kernel
theorem dX3_gather_65 : decode cX3_gather 65 = .ok (.iload 4, 2) := by decide +kernel
theorem dX3_gather_67 : decode cX3_gather 67 = .ok (.iaload, 1) := by decide +kernel
theorem dX3_gather_68 : decode cX3_gather 68 = .ok (.invokevirtual 93, 3) := by decide +kernel
theorem dX3_gather_71 : decode cX3_gather 71 = .ok (.iinc 5 1, 3) := by decide +kernel
theorem dX3_gather_74 : decode cX3_gather 74 = .ok (.goto (-48), 3) := by decide +kernel
theorem dX3_gather_77 : decode cX3_gather 77 = .ok (.return_, 1) := by decide +kernel
theorem dX3_stateOf_0 : decode cX3_stateOf 0 = .ok (.iconst 1, 1) := by decide +kernel
theorem dX3_stateOf_1 : decode cX3_stateOf 1 = .ok (.istore_n 3, 1) := by decide +kernel
theorem dX3_stateOf_2 : decode cX3_stateOf 2 = .ok (.iconst 0, 1) := by decide +kernel
theorem dX3_stateOf_3 : decode cX3_stateOf 3 = .ok (.istore 4, 2) := by decide +kernel
theorem dX3_stateOf_5 : decode cX3_stateOf 5 = .ok (.iload 4, 2) := by decide +kernel
theorem dX3_stateOf_7 : decode cX3_stateOf 7 = .ok (.aload_n 0, 1) := by decide +kernel
theorem dX3_stateOf_8 : decode cX3_stateOf 8 = .ok (.getfield 29, 3) := by decide +kernel
theorem dX3_stateOf_11 : decode cX3_stateOf 11 = .ok (.iload_n 1, 1) := by decide +kernel
theorem dX3_stateOf_12 : decode cX3_stateOf 12 = .ok (.aaload, 1) := by decide +kernel
theorem dX3_stateOf_13 : decode cX3_stateOf 13 = .ok (.invokevirtual 63, 3) := by decide +kernel
theorem dX3_stateOf_16 : decode cX3_stateOf 16 = .ok (.if_icmp .ge 43, 3) := by decide +kernel
theorem dX3_stateOf_19 : decode cX3_stateOf 19 = .ok (.aload_n 0, 1) := by decide +kernel
theorem dX3_stateOf_20 : decode cX3_stateOf 20 = .ok (.iload_n 1, 1) := by decide +kernel
theorem dX3_stateOf_21 : decode cX3_stateOf 21 = .ok (.iload 4, 2) := by decide +kernel
theorem dX3_stateOf_23 : decode cX3_stateOf 23 = .ok (.aload_n 2, 1) := by decide +kernel
theorem dX3_stateOf_24 : decode cX3_stateOf 24 = .ok (.invokevirtual 96, 3) := by decide +kernel
theorem dX3_stateOf_27 : decode cX3_stateOf 27 = .ok (.aload_n 2, 1) := by decide +kernel
theorem dX3_stateOf_28 : decode cX3_stateOf 28 = .ok (.invokevirtual 100, 3) := by decide +kernel
theorem dX3_stateOf_31 : decode cX3_stateOf 31 = .ok (.ifCond .ne 5, 3) := by decide +kernel
theorem dX3_stateOf_34 : decode cX3_stateOf 34 = .ok (.iconst 0, 1) := by decide +kernel
theorem dX3_stateOf_35 : decode cX3_stateOf 35 = .ok (.ireturn, 1) := by decide +kernel
theorem dX3_stateOf_36 : decode cX3_stateOf 36 = .ok (.aload_n 2, 1) := by decide +kernel
theorem dX3_stateOf_37 : decode cX3_stateOf 37 = .ok (.invokevirtual 104, 3) := by decide +kernel
theorem dX3_stateOf_40 : decode cX3_stateOf 40 = .ok (.aload_n 2, 1) := by decide +kernel
theorem dX3_stateOf_41 : decode cX3_stateOf 41 = .ok (.invokevirtual 107, 3) := by decide +kernel
theorem dX3_stateOf_44 : decode cX3_stateOf 44 = .ok (.aload_n 2, 1) := by decide +kernel
theorem dX3_stateOf_45 : decode cX3_stateOf 45 = .ok (.getfield 110, 3) := by decide +kernel
theorem dX3_stateOf_48 : decode cX3_stateOf 48 = .ok (.if_icmp .ge 5, 3) := by decide +kernel
theorem dX3_stateOf_51 : decode cX3_stateOf 51 = .ok (.iconst 2, 1) := by decide +kernel
theorem dX3_stateOf_52 : decode cX3_stateOf 52 = .ok (.istore_n 3, 1) := by decide +kernel
theorem dX3_stateOf_53 : decode cX3_stateOf 53 = .ok (.iinc 4 1, 3) := by decide +kernel
theorem dX3_stateOf_56 : decode cX3_stateOf 56 = .ok (.goto (-51), 3) := by decide +kernel
theorem dX3_stateOf_59 : decode cX3_stateOf 59 = .ok (.iload_n 3, 1) := by decide +kernel
theorem dX3_stateOf_60 : decode cX3_stateOf 60 = .ok (.ireturn, 1) := by decide +kernel
theorem dX3_partsInState_0 : decode cX3_partsInState 0 = .ok (.iconst 0, 1) := by decide +kernel
theorem dX3_partsInState_1 : decode cX3_partsInState 1 = .ok (.istore_n 3, 1) := by decide +kernel
theorem dX3_partsInState_2 : decode cX3_partsInState 2 = .ok (.iconst 0, 1) := by decide +kernel
theorem dX3_partsInState_3 : decode cX3_partsInState 3 = .ok (.istore 4, 2) := by decide +kernel
theorem dX3_partsInState_5 : decode cX3_partsInState 5 = .ok (.iload 4, 2) := by decide +kernel
theorem dX3_partsInState_7 : decode cX3_partsInState 7 = .ok (.aload_n 0, 1) := by decide +kernel
theorem dX3_partsInState_8 : decode cX3_partsInState 8 = .ok (.getfield 18, 3) := by decide +kernel
theorem dX3_partsInState_11 : decode cX3_partsInState 11 = .ok (.if_icmp .ge 23, 3) := by decide +kernel
theorem dX3_partsInState_14 : decode cX3_partsInState 14 = .ok (.aload_n 0, 1) := by decide +kernel
theorem dX3_partsInState_15 : decode cX3_partsInState 15 = .ok (.iload 4, 2) := by decide +kernel
theorem dX3_partsInState_17 : decode cX3_partsInState 17 = .ok (.aload_n 2, 1) := by decide +kernel
theorem dX3_partsInState_18 : decode cX3_partsInState 18 = .ok (.invokevirtual 113, 3) := by decide +kernel
theorem dX3_partsInState_21 : decode cX3_partsInState 21 = .ok (.iload_n 1, 1) := by decide +kernel
theorem dX3_partsInState_22 : decode cX3_partsInState 22 = .ok (.if_icmp .ne 6, 3) := by decide +kernel
theorem dX3_partsInState_25 : decode cX3_partsInState 25 = .ok (.iinc 3 1, 3) := by decide +kernel
theorem dX3_partsInState_28 : decode cX3_partsInState 28 = .ok (.iinc 4 1, 3) := by decide +kernel
theorem dX3_partsInState_31 : decode cX3_partsInState 31 = .ok (.goto (-26), 3) := by decide +kernel
theorem dX3_partsInState_34 : decode cX3_partsInState 34 = .ok (.iload_n 3, 1) := by decide +kernel
theorem dX3_partsInState_35 : decode cX3_partsInState 35 = .ok (.ireturn, 1) := by decide +kernel
theorem dX3_fewestHolders_0 : decode cX3_fewestHolders 0 = .ok (.aload_n 0, 1) := by decide +kernel
theorem dX3_fewestHolders_1 : decode cX3_fewestHolders 1 = .ok (.getfield 24, 3) := by decide +kernel
theorem dX3_fewestHolders_4 : decode cX3_fewestHolders 4 = .ok (.istore_n 2, 1) := by decide +kernel
theorem dX3_fewestHolders_5 : decode cX3_fewestHolders 5 = .ok (.iconst 0, 1) := by decide +kernel
theorem dX3_fewestHolders_6 : decode cX3_fewestHolders 6 = .ok (.istore_n 3, 1) := by decide +kernel
theorem dX3_fewestHolders_7 : decode cX3_fewestHolders 7 = .ok (.iload_n 3, 1) := by decide +kernel
theorem dX3_fewestHolders_8 : decode cX3_fewestHolders 8 = .ok (.aload_n 0, 1) := by decide +kernel
theorem dX3_fewestHolders_9 : decode cX3_fewestHolders 9 = .ok (.getfield 29, 3) := by decide +kernel
theorem dX3_fewestHolders_12 : decode cX3_fewestHolders 12 = .ok (.iload_n 1, 1) := by decide +kernel
theorem dX3_fewestHolders_13 : decode cX3_fewestHolders 13 = .ok (.aaload, 1) := by decide +kernel
theorem dX3_fewestHolders_14 : decode cX3_fewestHolders 14 = .ok (.invokevirtual 63, 3) := by decide +kernel
theorem dX3_fewestHolders_17 : decode cX3_fewestHolders 17 = .ok (.if_icmp .ge 26, 3) := by decide +kernel
theorem dX3_fewestHolders_20 : decode cX3_fewestHolders 20 = .ok (.iload_n 2, 1) := by decide +kernel
theorem dX3_fewestHolders_21 : decode cX3_fewestHolders 21 = .ok (.aload_n 0, 1) := by decide +kernel
theorem dX3_fewestHolders_22 : decode cX3_fewestHolders 22 = .ok (.aload_n 0, 1) := by decide +kernel
theorem dX3_fewestHolders_23 : decode cX3_fewestHolders 23 = .ok (.getfield 33, 3) := by decide +kernel
theorem dX3_fewestHolders_26 : decode cX3_fewestHolders 26 = .ok (.iload_n 1, 1) := by decide +kernel
theorem dX3_fewestHolders_27 : decode cX3_fewestHolders 27 = .ok (.iaload, 1) := by decide +kernel
theorem dX3_fewestHolders_28 : decode cX3_fewestHolders 28 = .ok (.iload_n 3, 1) := by decide +kernel
theorem dX3_fewestHolders_29 : decode cX3_fewestHolders 29 = .ok (.iadd, 1) := by decide +kernel
theorem dX3_fewestHolders_30 : decode cX3_fewestHolders 30 = .ok (.invokevirtual 117, 3) := by decide +kernel
theorem dX3_fewestHolders_33 : decode cX3_fewestHolders 33 = .ok (.invokestatic 9, 3) := by decide +kernel
theorem dX3_fewestHolders_36 : decode cX3_fewestHolders 36 = .ok (.istore_n 2, 1) := by decide +kernel
theorem dX3_fewestHolders_37 : decode cX3_fewestHolders 37 = .ok (.iinc 3 1, 3) := by decide +kernel
theorem dX3_fewestHolders_40 : decode cX3_fewestHolders 40 = .ok (.goto (-33), 3) := by decide +kernel
theorem dX3_fewestHolders_43 : decode cX3_fewestHolders 43 = .ok (.iload_n 2, 1) := by decide +kernel
theorem dX3_fewestHolders_44 : decode cX3_fewestHolders 44 = .ok (.ireturn, 1) := by decide +kernel
theorem dX3_holdersAt_0 : decode cX3_holdersAt 0 = .ok (.iconst 0, 1) := by decide +kernel
theorem dX3_holdersAt_1 : decode cX3_holdersAt 1 = .ok (.istore_n 2, 1) := by decide +kernel
theorem dX3_holdersAt_2 : decode cX3_holdersAt 2 = .ok (.iconst 0, 1) := by decide +kernel
theorem dX3_holdersAt_3 : decode cX3_holdersAt 3 = .ok (.istore_n 3, 1) := by decide +kernel
theorem dX3_holdersAt_4 : decode cX3_holdersAt 4 = .ok (.iload_n 3, 1) := by decide +kernel
theorem dX3_holdersAt_5 : decode cX3_holdersAt 5 = .ok (.aload_n 0, 1) := by decide +kernel
theorem dX3_holdersAt_6 : decode cX3_holdersAt 6 = .ok (.getfield 24, 3) := by decide +kernel
theorem dX3_holdersAt_9 : decode cX3_holdersAt 9 = .ok (.if_icmp .ge 25, 3) := by decide +kernel
theorem dX3_holdersAt_12 : decode cX3_holdersAt 12 = .ok (.aload_n 0, 1) := by decide +kernel
theorem dX3_holdersAt_13 : decode cX3_holdersAt 13 = .ok (.getfield 49, 3) := by decide +kernel
theorem dX3_holdersAt_16 : decode cX3_holdersAt 16 = .ok (.iload_n 3, 1) := by decide +kernel
theorem dX3_holdersAt_17 : decode cX3_holdersAt 17 = .ok (.aaload, 1) := by decide +kernel
theorem dX3_holdersAt_18 : decode cX3_holdersAt 18 = .ok (.iload_n 1, 1) := by decide +kernel
theorem dX3_holdersAt_19 : decode cX3_holdersAt 19 = .ok (.invokevirtual 86, 3) := by decide +kernel
theorem dX3_holdersAt_22 : decode cX3_holdersAt 22 = .ok (.ifCond .eq 6, 3) := by decide +kernel
theorem dX3_holdersAt_25 : decode cX3_holdersAt 25 = .ok (.iinc 2 1, 3) := by decide +kernel
theorem dX3_holdersAt_28 : decode cX3_holdersAt 28 = .ok (.iinc 3 1, 3) := by decide +kernel
theorem dX3_holdersAt_31 : decode cX3_holdersAt 31 = .ok (.goto (-27), 3) := by decide +kernel
theorem dX3_holdersAt_34 : decode cX3_holdersAt 34 = .ok (.iload_n 2, 1) := by decide +kernel
theorem dX3_holdersAt_35 : decode cX3_holdersAt 35 = .ok (.ireturn, 1) := by decide +kernel
theorem dX3_openingSets_0 : decode cX3_openingSets 0 = .ok (.iconst 0, 1) := by decide +kernel
theorem dX3_openingSets_1 : decode cX3_openingSets 1 = .ok (.istore_n 2, 1) := by decide +kernel
theorem dX3_openingSets_2 : decode cX3_openingSets 2 = .ok (.iconst 0, 1) := by decide +kernel
theorem dX3_openingSets_3 : decode cX3_openingSets 3 = .ok (.istore_n 3, 1) := by decide +kernel
theorem dX3_openingSets_4 : decode cX3_openingSets 4 = .ok (.iload_n 3, 1) := by decide +kernel
theorem dX3_openingSets_5 : decode cX3_openingSets 5 = .ok (.iconst 1, 1) := by decide +kernel
theorem dX3_openingSets_6 : decode cX3_openingSets 6 = .ok (.aload_n 0, 1) := by decide +kernel
theorem dX3_openingSets_7 : decode cX3_openingSets 7 = .ok (.getfield 24, 3) := by decide +kernel
theorem dX3_openingSets_10 : decode cX3_openingSets 10 = .ok (.ishl, 1) := by decide +kernel
theorem dX3_openingSets_11 : decode cX3_openingSets 11 = .ok (.if_icmp .ge 28, 3) := by decide +kernel
theorem dX3_openingSets_14 : decode cX3_openingSets 14 = .ok (.iload_n 3, 1) := by decide +kernel
theorem dX3_openingSets_15 : decode cX3_openingSets 15 = .ok (.invokestatic 121, 3) := by decide +kernel
theorem dX3_openingSets_18 : decode cX3_openingSets 18 = .ok (.aload_n 0, 1) := by decide +kernel
theorem dX3_openingSets_19 : decode cX3_openingSets 19 = .ok (.getfield 29, 3) := by decide +kernel
theorem dX3_openingSets_22 : decode cX3_openingSets 22 = .ok (.iload_n 1, 1) := by decide +kernel
theorem dX3_openingSets_23 : decode cX3_openingSets 23 = .ok (.aaload, 1) := by decide +kernel
theorem dX3_openingSets_24 : decode cX3_openingSets 24 = .ok (.getfield 60, 3) := by decide +kernel
theorem dX3_openingSets_27 : decode cX3_openingSets 27 = .ok (.if_icmp .lt 6, 3) := by decide +kernel
theorem dX3_openingSets_30 : decode cX3_openingSets 30 = .ok (.iinc 2 1, 3) := by decide +kernel
theorem dX3_openingSets_33 : decode cX3_openingSets 33 = .ok (.iinc 3 1, 3) := by decide +kernel
theorem dX3_openingSets_36 : decode cX3_openingSets 36 = .ok (.goto (-32), 3) := by decide +kernel
theorem dX3_openingSets_39 : decode cX3_openingSets 39 = .ok (.iload_n 2, 1) := by decide +kernel
theorem dX3_openingSets_40 : decode cX3_openingSets 40 = .ok (.ireturn, 1) := by decide +kernel
theorem dX3_timesBlamed_0 : decode cX3_timesBlamed 0 = .ok (.iconst 0, 1) := by decide +kernel
theorem dX3_timesBlamed_1 : decode cX3_timesBlamed 1 = .ok (.istore_n 3, 1) := by decide +kernel
theorem dX3_timesBlamed_2 : decode cX3_timesBlamed 2 = .ok (.iconst 0, 1) := by decide +kernel
theorem dX3_timesBlamed_3 : decode cX3_timesBlamed 3 = .ok (.istore 4, 2) := by decide +kernel
theorem dX3_timesBlamed_5 : decode cX3_timesBlamed 5 = .ok (.iload 4, 2) := by decide +kernel
theorem dX3_timesBlamed_7 : decode cX3_timesBlamed 7 = .ok (.aload_n 0, 1) := by decide +kernel
theorem dX3_timesBlamed_8 : decode cX3_timesBlamed 8 = .ok (.getfield 18, 3) := by decide +kernel
theorem dX3_timesBlamed_11 : decode cX3_timesBlamed 11 = .ok (.if_icmp .ge 49, 3) := by decide +kernel
theorem dX3_timesBlamed_14 : decode cX3_timesBlamed 14 = .ok (.iconst 0, 1) := by decide +kernel
theorem dX3_timesBlamed_15 : decode cX3_timesBlamed 15 = .ok (.istore 5, 2) := by decide +kernel
theorem dX3_timesBlamed_17 : decode cX3_timesBlamed 17 = .ok (.iload 5, 2) := by decide +kernel
theorem dX3_timesBlamed_19 : decode cX3_timesBlamed 19 = .ok (.aload_n 0, 1) := by decide +kernel
theorem dX3_timesBlamed_20 : decode cX3_timesBlamed 20 = .ok (.getfield 29, 3) := by decide +kernel
theorem dX3_timesBlamed_23 : decode cX3_timesBlamed 23 = .ok (.iload 4, 2) := by decide +kernel
theorem dX3_timesBlamed_25 : decode cX3_timesBlamed 25 = .ok (.aaload, 1) := by decide +kernel
theorem dX3_timesBlamed_26 : decode cX3_timesBlamed 26 = .ok (.invokevirtual 63, 3) := by decide +kernel
theorem dX3_timesBlamed_29 : decode cX3_timesBlamed 29 = .ok (.if_icmp .ge 25, 3) := by decide +kernel
theorem dX3_timesBlamed_32 : decode cX3_timesBlamed 32 = .ok (.aload_n 0, 1) := by decide +kernel
theorem dX3_timesBlamed_33 : decode cX3_timesBlamed 33 = .ok (.iload 4, 2) := by decide +kernel
theorem dX3_timesBlamed_35 : decode cX3_timesBlamed 35 = .ok (.iload 5, 2) := by decide +kernel
theorem dX3_timesBlamed_37 : decode cX3_timesBlamed 37 = .ok (.iload_n 1, 1) := by decide +kernel
theorem dX3_timesBlamed_38 : decode cX3_timesBlamed 38 = .ok (.aload_n 2, 1) := by decide +kernel
theorem dX3_timesBlamed_39 : decode cX3_timesBlamed 39 = .ok (.invokevirtual 126, 3) := by decide +kernel
theorem dX3_timesBlamed_42 : decode cX3_timesBlamed 42 = .ok (.ifCond .eq 6, 3) := by decide +kernel
theorem dX3_timesBlamed_45 : decode cX3_timesBlamed 45 = .ok (.iinc 3 1, 3) := by decide +kernel
theorem dX3_timesBlamed_48 : decode cX3_timesBlamed 48 = .ok (.iinc 5 1, 3) := by decide +kernel
theorem dX3_timesBlamed_51 : decode cX3_timesBlamed 51 = .ok (.goto (-34), 3) := by decide +kernel
theorem dX3_timesBlamed_54 : decode cX3_timesBlamed 54 = .ok (.iinc 4 1, 3) := by decide +kernel
theorem dX3_timesBlamed_57 : decode cX3_timesBlamed 57 = .ok (.goto (-52), 3) := by decide +kernel
theorem dX3_timesBlamed_60 : decode cX3_timesBlamed 60 = .ok (.iload_n 3, 1) := by decide +kernel
theorem dX3_timesBlamed_61 : decode cX3_timesBlamed 61 = .ok (.ireturn, 1) := by decide +kernel
theorem dX3_blames_0 : decode cX3_blames 0 = .ok (.aload_n 0, 1) := by decide +kernel
theorem dX3_blames_1 : decode cX3_blames 1 = .ok (.getfield 33, 3) := by decide +kernel
theorem dX3_blames_4 : decode cX3_blames 4 = .ok (.iload_n 1, 1) := by decide +kernel
theorem dX3_blames_5 : decode cX3_blames 5 = .ok (.iaload, 1) := by decide +kernel
theorem dX3_blames_6 : decode cX3_blames 6 = .ok (.iload_n 2, 1) := by decide +kernel
theorem dX3_blames_7 : decode cX3_blames 7 = .ok (.iadd, 1) := by decide +kernel
theorem dX3_blames_8 : decode cX3_blames 8 = .ok (.istore 5, 2) := by decide +kernel
theorem dX3_blames_10 : decode cX3_blames 10 = .ok (.aload_n 0, 1) := by decide +kernel
theorem dX3_blames_11 : decode cX3_blames 11 = .ok (.getfield 49, 3) := by decide +kernel
theorem dX3_blames_14 : decode cX3_blames 14 = .ok (.iload_n 3, 1) := by decide +kernel
theorem dX3_blames_15 : decode cX3_blames 15 = .ok (.aaload, 1) := by decide +kernel
theorem dX3_blames_16 : decode cX3_blames 16 = .ok (.iload 5, 2) := by decide +kernel
theorem dX3_blames_18 : decode cX3_blames 18 = .ok (.invokevirtual 86, 3) := by decide +kernel
theorem dX3_blames_21 : decode cX3_blames 21 = .ok (.ifCond .ne 5, 3) := by decide +kernel
theorem dX3_blames_24 : decode cX3_blames 24 = .ok (.iconst 0, 1) := by decide +kernel
theorem dX3_blames_25 : decode cX3_blames 25 = .ok (.ireturn, 1) := by decide +kernel
theorem dX3_blames_26 : decode cX3_blames 26 = .ok (.aload_n 0, 1) := by decide +kernel
theorem dX3_blames_27 : decode cX3_blames 27 = .ok (.iload_n 1, 1) := by decide +kernel
theorem dX3_blames_28 : decode cX3_blames 28 = .ok (.iload_n 2, 1) := by decide +kernel
theorem dX3_blames_29 : decode cX3_blames 29 = .ok (.aload 4, 2) := by decide +kernel
theorem dX3_blames_31 : decode cX3_blames 31 = .ok (.invokevirtual 96, 3) := by decide +kernel
theorem dX3_blames_34 : decode cX3_blames 34 = .ok (.aload 4, 2) := by decide +kernel
theorem dX3_blames_36 : decode cX3_blames 36 = .ok (.invokevirtual 100, 3) := by decide +kernel
theorem dX3_blames_39 : decode cX3_blames 39 = .ok (.ifCond .eq 38, 3) := by decide +kernel
theorem dX3_blames_42 : decode cX3_blames 42 = .ok (.aload 4, 2) := by decide +kernel
theorem dX3_blames_44 : decode cX3_blames 44 = .ok (.invokevirtual 130, 3) := by decide +kernel
theorem dX3_blames_47 : decode cX3_blames 47 = .ok (.ifCond .eq 30, 3) := by decide +kernel
theorem dX3_blames_50 : decode cX3_blames 50 = .ok (.aload 4, 2) := by decide +kernel
theorem dX3_blames_52 : decode cX3_blames 52 = .ok (.iload_n 3, 1) := by decide +kernel
theorem dX3_blames_53 : decode cX3_blames 53 = .ok (.iconst 1, 1) := by decide +kernel
theorem dX3_blames_54 : decode cX3_blames 54 = .ok (.iadd, 1) := by decide +kernel
theorem dX3_blames_55 : decode cX3_blames 55 = .ok (.invokevirtual 133, 3) := by decide +kernel
theorem dX3_blames_58 : decode cX3_blames 58 = .ok (.aload_n 0, 1) := by decide +kernel
theorem dX3_blames_59 : decode cX3_blames 59 = .ok (.getfield 49, 3) := by decide +kernel
theorem dX3_blames_62 : decode cX3_blames 62 = .ok (.iload_n 3, 1) := by decide +kernel
theorem dX3_blames_63 : decode cX3_blames 63 = .ok (.aaload, 1) := by decide +kernel
theorem dX3_blames_64 : decode cX3_blames 64 = .ok (.getfield 90, 3) := by decide +kernel
theorem dX3_blames_67 : decode cX3_blames 67 = .ok (.iload 5, 2) := by decide +kernel
theorem dX3_blames_69 : decode cX3_blames 69 = .ok (.iaload, 1) := by decide +kernel
theorem dX3_blames_70 : decode cX3_blames 70 = .ok (.if_icmp .eq 7, 3) := by decide +kernel
theorem dX3_blames_73 : decode cX3_blames 73 = .ok (.iconst 1, 1) := by decide +kernel
theorem dX3_blames_74 : decode cX3_blames 74 = .ok (.goto 4, 3) := by decide +kernel
theorem dX3_blames_77 : decode cX3_blames 77 = .ok (.iconst 0, 1) := by decide +kernel
theorem dX3_blames_78 : decode cX3_blames 78 = .ok (.ireturn, 1) := by decide +kernel
theorem dX3_openedBy_0 : decode cX3_openedBy 0 = .ok (.iconst 0, 1) := by decide +kernel
theorem dX3_openedBy_1 : decode cX3_openedBy 1 = .ok (.istore_n 2, 1) := by decide +kernel
theorem dX3_openedBy_2 : decode cX3_openedBy 2 = .ok (.iconst 0, 1) := by decide +kernel
theorem dX3_openedBy_3 : decode cX3_openedBy 3 = .ok (.istore_n 3, 1) := by decide +kernel
theorem dX3_openedBy_4 : decode cX3_openedBy 4 = .ok (.iload_n 3, 1) := by decide +kernel
theorem dX3_openedBy_5 : decode cX3_openedBy 5 = .ok (.aload_n 0, 1) := by decide +kernel
theorem dX3_openedBy_6 : decode cX3_openedBy 6 = .ok (.getfield 18, 3) := by decide +kernel
theorem dX3_openedBy_9 : decode cX3_openedBy 9 = .ok (.if_icmp .ge 28, 3) := by decide +kernel
theorem dX3_openedBy_12 : decode cX3_openedBy 12 = .ok (.aload_n 0, 1) := by decide +kernel
theorem dX3_openedBy_13 : decode cX3_openedBy 13 = .ok (.getfield 29, 3) := by decide +kernel
theorem dX3_openedBy_16 : decode cX3_openedBy 16 = .ok (.iload_n 3, 1) := by decide +kernel
theorem dX3_openedBy_17 : decode cX3_openedBy 17 = .ok (.aaload, 1) := by decide +kernel
theorem dX3_openedBy_18 : decode cX3_openedBy 18 = .ok (.getfield 60, 3) := by decide +kernel
theorem dX3_openedBy_21 : decode cX3_openedBy 21 = .ok (.iload_n 1, 1) := by decide +kernel
theorem dX3_openedBy_22 : decode cX3_openedBy 22 = .ok (.if_icmp .gt 9, 3) := by decide +kernel
theorem dX3_openedBy_25 : decode cX3_openedBy 25 = .ok (.iload_n 2, 1) := by decide +kernel
theorem dX3_openedBy_26 : decode cX3_openedBy 26 = .ok (.iconst 1, 1) := by decide +kernel
theorem dX3_openedBy_27 : decode cX3_openedBy 27 = .ok (.iload_n 3, 1) := by decide +kernel
theorem dX3_openedBy_28 : decode cX3_openedBy 28 = .ok (.ishl, 1) := by decide +kernel
theorem dX3_openedBy_29 : decode cX3_openedBy 29 = .ok (.ior, 1) := by decide +kernel
theorem dX3_openedBy_30 : decode cX3_openedBy 30 = .ok (.istore_n 2, 1) := by decide +kernel
theorem dX3_openedBy_31 : decode cX3_openedBy 31 = .ok (.iinc 3 1, 3) := by decide +kernel
theorem dX3_openedBy_34 : decode cX3_openedBy 34 = .ok (.goto (-30), 3) := by decide +kernel
theorem dX3_openedBy_37 : decode cX3_openedBy 37 = .ok (.iload_n 2, 1) := by decide +kernel
theorem dX3_openedBy_38 : decode cX3_openedBy 38 = .ok (.ireturn, 1) := by decide +kernel
theorem dX3_lostPackets_0 : decode cX3_lostPackets 0 = .ok (.iconst 0, 1) := by decide +kernel
theorem dX3_lostPackets_1 : decode cX3_lostPackets 1 = .ok (.istore_n 1, 1) := by decide +kernel
theorem dX3_lostPackets_2 : decode cX3_lostPackets 2 = .ok (.iconst 0, 1) := by decide +kernel
theorem dX3_lostPackets_3 : decode cX3_lostPackets 3 = .ok (.istore_n 2, 1) := by decide +kernel
theorem dX3_lostPackets_4 : decode cX3_lostPackets 4 = .ok (.iload_n 2, 1) := by decide +kernel
theorem dX3_lostPackets_5 : decode cX3_lostPackets 5 = .ok (.aload_n 0, 1) := by decide +kernel
theorem dX3_lostPackets_6 : decode cX3_lostPackets 6 = .ok (.getfield 24, 3) := by decide +kernel
theorem dX3_lostPackets_9 : decode cX3_lostPackets 9 = .ok (.if_icmp .ge 24, 3) := by decide +kernel
theorem dX3_lostPackets_12 : decode cX3_lostPackets 12 = .ok (.aload_n 0, 1) := by decide +kernel
theorem dX3_lostPackets_13 : decode cX3_lostPackets 13 = .ok (.getfield 49, 3) := by decide +kernel
theorem dX3_lostPackets_16 : decode cX3_lostPackets 16 = .ok (.iload_n 2, 1) := by decide +kernel
theorem dX3_lostPackets_17 : decode cX3_lostPackets 17 = .ok (.aaload, 1) := by decide +kernel
theorem dX3_lostPackets_18 : decode cX3_lostPackets 18 = .ok (.getfield 136, 3) := by decide +kernel
theorem dX3_lostPackets_21 : decode cX3_lostPackets 21 = .ok (.ifCond .eq 6, 3) := by decide +kernel
theorem dX3_lostPackets_24 : decode cX3_lostPackets 24 = .ok (.iinc 1 1, 3) := by decide +kernel
theorem dX3_lostPackets_27 : decode cX3_lostPackets 27 = .ok (.iinc 2 1, 3) := by decide +kernel
theorem dX3_lostPackets_30 : decode cX3_lostPackets 30 = .ok (.goto (-26), 3) := by decide +kernel
theorem dX3_lostPackets_33 : decode cX3_lostPackets 33 = .ok (.iload_n 1, 1) := by decide +kernel
theorem dX3_lostPackets_34 : decode cX3_lostPackets 34 = .ok (.ireturn, 1) := by decide +kernel
theorem dX4_init_0 : decode cX4_init 0 = .ok (.aload_n 0, 1) := by decide +kernel
theorem dX4_init_1 : decode cX4_init 1 = .ok (.invokespecial 3, 3) := by decide +kernel
theorem dX4_init_4 : decode cX4_init 4 = .ok (.aload_n 0, 1) := by decide +kernel
theorem dX4_init_5 : decode cX4_init 5 = .ok (.bipush 40, 2) := by decide +kernel
theorem dX4_init_7 : decode cX4_init 7 = .ok (.newarray .int, 2) := by decide +kernel
theorem dX4_init_9 : decode cX4_init 9 = .ok (.putfield 9, 3) := by decide +kernel
theorem dX4_init_12 : decode cX4_init 12 = .ok (.aload_n 0, 1) := by decide +kernel
theorem dX4_init_13 : decode cX4_init 13 = .ok (.bipush 40, 2) := by decide +kernel
theorem dX4_init_15 : decode cX4_init 15 = .ok (.newarray .int, 2) := by decide +kernel
theorem dX4_init_17 : decode cX4_init 17 = .ok (.putfield 15, 3) := by decide +kernel
theorem dX4_init_20 : decode cX4_init 20 = .ok (.aload_n 0, 1) := by decide +kernel
theorem dX4_init_21 : decode cX4_init 21 = .ok (.iload_n 1, 1) := by decide +kernel
theorem dX4_init_22 : decode cX4_init 22 = .ok (.bipush 40, 2) := by decide +kernel
theorem dX4_init_24 : decode cX4_init 24 = .ok (.invokestatic 18, 3) := by decide +kernel
theorem dX4_init_27 : decode cX4_init 27 = .ok (.putfield 24, 3) := by decide +kernel
theorem dX4_init_30 : decode cX4_init 30 = .ok (.aload_n 0, 1) := by decide +kernel
theorem dX4_init_31 : decode cX4_init 31 = .ok (.iconst 0, 1) := by decide +kernel
theorem dX4_init_32 : decode cX4_init 32 = .ok (.putfield 28, 3) := by decide +kernel
theorem dX4_init_35 : decode cX4_init 35 = .ok (.return_, 1) := by decide +kernel
theorem dX4_put_0 : decode cX4_put 0 = .ok (.iload_n 1, 1) := by decide +kernel
theorem dX4_put_1 : decode cX4_put 1 = .ok (.iconst 0, 1) := by decide +kernel
theorem dX4_put_2 : decode cX4_put 2 = .ok (.bipush 39, 2) := by decide +kernel
theorem dX4_put_4 : decode cX4_put 4 = .ok (.invokestatic 32, 3) := by decide +kernel
theorem dX4_put_7 : decode cX4_put 7 = .ok (.ifCond .eq 17, 3) := by decide +kernel
theorem dX4_put_10 : decode cX4_put 10 = .ok (.aload_n 0, 1) := by decide +kernel
theorem dX4_put_11 : decode cX4_put 11 = .ok (.getfield 9, 3) := by decide +kernel
theorem dX4_put_14 : decode cX4_put 14 = .ok (.iload_n 1, 1) := by decide +kernel
theorem dX4_put_15 : decode cX4_put 15 = .ok (.iload_n 2, 1) := by decide +kernel
theorem dX4_put_16 : decode cX4_put 16 = .ok (.iastore, 1) := by decide +kernel
theorem dX4_put_17 : decode cX4_put 17 = .ok (.aload_n 0, 1) := by decide +kernel
theorem dX4_put_18 : decode cX4_put 18 = .ok (.getfield 15, 3) := by decide +kernel
theorem dX4_put_21 : decode cX4_put 21 = .ok (.iload_n 1, 1) := by decide +kernel
theorem dX4_put_22 : decode cX4_put 22 = .ok (.iload_n 2, 1) := by decide +kernel
theorem dX4_put_23 : decode cX4_put 23 = .ok (.iastore, 1) := by decide +kernel
theorem dX4_put_24 : decode cX4_put 24 = .ok (.return_, 1) := by decide +kernel
theorem dX4_holds_0 : decode cX4_holds 0 = .ok (.aload_n 0, 1) := by decide +kernel
theorem dX4_holds_1 : decode cX4_holds 1 = .ok (.getfield 28, 3) := by decide +kernel
theorem dX4_holds_4 : decode cX4_holds 4 = .ok (.ifCond .ne 21, 3) := by decide +kernel
theorem dX4_holds_7 : decode cX4_holds 7 = .ok (.iload_n 1, 1) := by decide +kernel
theorem dX4_holds_8 : decode cX4_holds 8 = .ok (.iconst 0, 1) := by decide +kernel
theorem dX4_holds_9 : decode cX4_holds 9 = .ok (.aload_n 0, 1) := by decide +kernel
theorem dX4_holds_10 : decode cX4_holds 10 = .ok (.getfield 24, 3) := by decide +kernel
theorem dX4_holds_13 : decode cX4_holds 13 = .ok (.iconst 1, 1) := by decide +kernel
theorem dX4_holds_14 : decode cX4_holds 14 = .ok (.isub, 1) := by decide +kernel
theorem dX4_holds_15 : decode cX4_holds 15 = .ok (.invokestatic 32, 3) := by decide +kernel
theorem dX4_holds_18 : decode cX4_holds 18 = .ok (.ifCond .eq 7, 3) := by decide +kernel
theorem dX4_holds_21 : decode cX4_holds 21 = .ok (.iconst 1, 1) := by decide +kernel
theorem dX4_holds_22 : decode cX4_holds 22 = .ok (.goto 4, 3) := by decide +kernel
theorem dX4_holds_25 : decode cX4_holds 25 = .ok (.iconst 0, 1) := by decide +kernel
theorem dX4_holds_26 : decode cX4_holds 26 = .ok (.ireturn, 1) := by decide +kernel
theorem dX4_sendAgain_0 : decode cX4_sendAgain 0 = .ok (.iconst 0, 1) := by decide +kernel
theorem dX4_sendAgain_1 : decode cX4_sendAgain 1 = .ok (.istore_n 2, 1) := by decide +kernel
theorem dX4_sendAgain_2 : decode cX4_sendAgain 2 = .ok (.iconst 0, 1) := by decide +kernel
theorem dX4_sendAgain_3 : decode cX4_sendAgain 3 = .ok (.istore_n 3, 1) := by decide +kernel
theorem dX4_sendAgain_4 : decode cX4_sendAgain 4 = .ok (.iload_n 3, 1) := by decide +kernel
theorem dX4_sendAgain_5 : decode cX4_sendAgain 5 = .ok (.iload_n 1, 1) := by decide +kernel
theorem dX4_sendAgain_6 : decode cX4_sendAgain 6 = .ok (.if_icmp .ge 53, 3) := by decide +kernel
theorem dX4_sendAgain_9 : decode cX4_sendAgain 9 = .ok (.iload_n 3, 1) := by decide +kernel
theorem dX4_sendAgain_10 : decode cX4_sendAgain 10 = .ok (.bipush 40, 2) := by decide +kernel
theorem dX4_sendAgain_12 : decode cX4_sendAgain 12 = .ok (.if_icmp .ge 47, 3) := by decide +kernel
theorem dX4_sendAgain_15 : decode cX4_sendAgain 15 = .ok (.aload_n 0, 1) := by decide +kernel
theorem dX4_sendAgain_16 : decode cX4_sendAgain 16 = .ok (.iload_n 3, 1) := by decide +kernel
theorem dX4_sendAgain_17 : decode cX4_sendAgain 17 = .ok (.invokevirtual 36, 3) := by decide +kernel
theorem dX4_sendAgain_20 : decode cX4_sendAgain 20 = .ok (.ifCond .eq 18, 3) := by decide +kernel
theorem dX4_sendAgain_23 : decode cX4_sendAgain 23 = .ok (.aload_n 0, 1) := by decide +kernel
theorem dX4_sendAgain_24 : decode cX4_sendAgain 24 = .ok (.getfield 15, 3) := by decide +kernel
theorem dX4_sendAgain_27 : decode cX4_sendAgain 27 = .ok (.iload_n 3, 1) := by decide +kernel
theorem dX4_sendAgain_28 : decode cX4_sendAgain 28 = .ok (.iaload, 1) := by decide +kernel
theorem dX4_sendAgain_29 : decode cX4_sendAgain 29 = .ok (.aload_n 0, 1) := by decide +kernel
theorem dX4_sendAgain_30 : decode cX4_sendAgain 30 = .ok (.getfield 9, 3) := by decide +kernel
theorem dX4_sendAgain_33 : decode cX4_sendAgain 33 = .ok (.iload_n 3, 1) := by decide +kernel
theorem dX4_sendAgain_34 : decode cX4_sendAgain 34 = .ok (.iaload, 1) := by decide +kernel
theorem dX4_sendAgain_35 : decode cX4_sendAgain 35 = .ok (.if_icmp .eq 6, 3) := by decide +kernel
theorem dX4_sendAgain_38 : decode cX4_sendAgain 38 = .ok (.iinc 2 1, 3) := by decide +kernel
theorem dX4_sendAgain_41 : decode cX4_sendAgain 41 = .ok (.aload_n 0, 1) := by decide +kernel
theorem dX4_sendAgain_42 : decode cX4_sendAgain 42 = .ok (.getfield 15, 3) := by decide +kernel
theorem dX4_sendAgain_45 : decode cX4_sendAgain 45 = .ok (.iload_n 3, 1) := by decide +kernel
theorem dX4_sendAgain_46 : decode cX4_sendAgain 46 = .ok (.aload_n 0, 1) := by decide +kernel
theorem dX4_sendAgain_47 : decode cX4_sendAgain 47 = .ok (.getfield 9, 3) := by decide +kernel
theorem dX4_sendAgain_50 : decode cX4_sendAgain 50 = .ok (.iload_n 3, 1) := by decide +kernel
theorem dX4_sendAgain_51 : decode cX4_sendAgain 51 = .ok (.iaload, 1) := by decide +kernel
theorem dX4_sendAgain_52 : decode cX4_sendAgain 52 = .ok (.iastore, 1) := by decide +kernel
theorem dX4_sendAgain_53 : decode cX4_sendAgain 53 = .ok (.iinc 3 1, 3) := by decide +kernel
theorem dX4_sendAgain_56 : decode cX4_sendAgain 56 = .ok (.goto (-52), 3) := by decide +kernel
theorem dX4_sendAgain_59 : decode cX4_sendAgain 59 = .ok (.aload_n 0, 1) := by decide +kernel
theorem dX4_sendAgain_60 : decode cX4_sendAgain 60 = .ok (.iload_n 1, 1) := by decide +kernel
theorem dX4_sendAgain_61 : decode cX4_sendAgain 61 = .ok (.bipush 40, 2) := by decide +kernel
theorem dX4_sendAgain_63 : decode cX4_sendAgain 63 = .ok (.invokestatic 18, 3) := by decide +kernel
theorem dX4_sendAgain_66 : decode cX4_sendAgain 66 = .ok (.putfield 24, 3) := by decide +kernel
theorem dX4_sendAgain_69 : decode cX4_sendAgain 69 = .ok (.aload_n 0, 1) := by decide +kernel
theorem dX4_sendAgain_70 : decode cX4_sendAgain 70 = .ok (.iconst 0, 1) := by decide +kernel
theorem dX4_sendAgain_71 : decode cX4_sendAgain 71 = .ok (.putfield 28, 3) := by decide +kernel
theorem dX4_sendAgain_74 : decode cX4_sendAgain 74 = .ok (.iload_n 2, 1) := by decide +kernel
theorem dX4_sendAgain_75 : decode cX4_sendAgain 75 = .ok (.ireturn, 1) := by decide +kernel
theorem dX5_init_0 : decode cX5_init 0 = .ok (.aload_n 0, 1) := by decide +kernel
theorem dX5_init_1 : decode cX5_init 1 = .ok (.invokespecial 1, 3) := by decide +kernel
theorem dX5_init_4 : decode cX5_init 4 = .ok (.aload_n 0, 1) := by decide +kernel
theorem dX5_init_5 : decode cX5_init 5 = .ok (.aload_n 1, 1) := by decide +kernel
theorem dX5_init_6 : decode cX5_init 6 = .ok (.putfield 7, 3) := by decide +kernel
theorem dX5_init_9 : decode cX5_init 9 = .ok (.aload_n 0, 1) := by decide +kernel
theorem dX5_init_10 : decode cX5_init 10 = .ok (.iload_n 2, 1) := by decide +kernel
theorem dX5_init_11 : decode cX5_init 11 = .ok (.putfield 13, 3) := by decide +kernel
theorem dX5_init_14 : decode cX5_init 14 = .ok (.aload_n 0, 1) := by decide +kernel
theorem dX5_init_15 : decode cX5_init 15 = .ok (.iload_n 3, 1) := by decide +kernel
theorem dX5_init_16 : decode cX5_init 16 = .ok (.putfield 17, 3) := by decide +kernel
theorem dX5_init_19 : decode cX5_init 19 = .ok (.return_, 1) := by decide +kernel
theorem dX5_hasLetter_0 : decode cX5_hasLetter 0 = .ok (.iload_n 1, 1) := by decide +kernel
theorem dX5_hasLetter_1 : decode cX5_hasLetter 1 = .ok (.iconst 0, 1) := by decide +kernel
theorem dX5_hasLetter_2 : decode cX5_hasLetter 2 = .ok (.aload_n 0, 1) := by decide +kernel
theorem dX5_hasLetter_3 : decode cX5_hasLetter 3 = .ok (.getfield 7, 3) := by decide +kernel
theorem dX5_hasLetter_6 : decode cX5_hasLetter 6 = .ok (.arraylength, 1) := by decide +kernel
theorem dX5_hasLetter_7 : decode cX5_hasLetter 7 = .ok (.iconst 1, 1) := by decide +kernel
theorem dX5_hasLetter_8 : decode cX5_hasLetter 8 = .ok (.isub, 1) := by decide +kernel
theorem dX5_hasLetter_9 : decode cX5_hasLetter 9 = .ok (.invokestatic 20, 3) := by decide +kernel
theorem dX5_hasLetter_12 : decode cX5_hasLetter 12 = .ok (.ireturn, 1) := by decide +kernel
theorem dX5_stripes_0 : decode cX5_stripes 0 = .ok (.aload_n 0, 1) := by decide +kernel
theorem dX5_stripes_1 : decode cX5_stripes 1 = .ok (.getfield 7, 3) := by decide +kernel
theorem dX5_stripes_4 : decode cX5_stripes 4 = .ok (.arraylength, 1) := by decide +kernel
theorem dX5_stripes_5 : decode cX5_stripes 5 = .ok (.aload_n 0, 1) := by decide +kernel
theorem dX5_stripes_6 : decode cX5_stripes 6 = .ok (.getfield 13, 3) := by decide +kernel
theorem dX5_stripes_9 : decode cX5_stripes 9 = .ok (.invokestatic 26, 3) := by decide +kernel
theorem dX5_stripes_12 : decode cX5_stripes 12 = .ok (.ireturn, 1) := by decide +kernel
theorem dX5_stripeOf_0 : decode cX5_stripeOf 0 = .ok (.aload_n 0, 1) := by decide +kernel
theorem dX5_stripeOf_1 : decode cX5_stripeOf 1 = .ok (.getfield 13, 3) := by decide +kernel
theorem dX5_stripeOf_4 : decode cX5_stripeOf 4 = .ok (.iconst 1, 1) := by decide +kernel
theorem dX5_stripeOf_5 : decode cX5_stripeOf 5 = .ok (.if_icmp .ge 7, 3) := by decide +kernel
theorem dX5_stripeOf_8 : decode cX5_stripeOf 8 = .ok (.iconst 0, 1) := by decide +kernel
theorem dX5_stripeOf_9 : decode cX5_stripeOf 9 = .ok (.goto 9, 3) := by decide +kernel
theorem dX5_stripeOf_12 : decode cX5_stripeOf 12 = .ok (.iload_n 1, 1) := by decide +kernel
theorem dX5_stripeOf_13 : decode cX5_stripeOf 13 = .ok (.aload_n 0, 1) := by decide +kernel
theorem dX5_stripeOf_14 : decode cX5_stripeOf 14 = .ok (.getfield 13, 3) := by decide +kernel
theorem dX5_stripeOf_17 : decode cX5_stripeOf 17 = .ok (.idiv, 1) := by decide +kernel
theorem dX5_stripeOf_18 : decode cX5_stripeOf 18 = .ok (.ireturn, 1) := by decide +kernel
theorem dX5_placeInStripe_0 : decode cX5_placeInStripe 0 = .ok (.aload_n 0, 1) := by decide +kernel
theorem dX5_placeInStripe_1 : decode cX5_placeInStripe 1 = .ok (.getfield 13, 3) := by decide +kernel
theorem dX5_placeInStripe_4 : decode cX5_placeInStripe 4 = .ok (.iconst 1, 1) := by decide +kernel
theorem dX5_placeInStripe_5 : decode cX5_placeInStripe 5 = .ok (.if_icmp .ge 7, 3) := by decide +kernel
theorem dX5_placeInStripe_8 : decode cX5_placeInStripe 8 = .ok (.iconst 0, 1) := by decide +kernel
theorem dX5_placeInStripe_9 : decode cX5_placeInStripe 9 = .ok (.goto 9, 3) := by decide +kernel
theorem dX5_placeInStripe_12 : decode cX5_placeInStripe 12 = .ok (.iload_n 1, 1) := by decide +kernel
theorem dX5_placeInStripe_13 : decode cX5_placeInStripe 13 = .ok (.aload_n 0, 1) := by decide +kernel
theorem dX5_placeInStripe_14 : decode cX5_placeInStripe 14 = .ok (.getfield 13, 3) := by decide +kernel
theorem dX5_placeInStripe_17 : decode cX5_placeInStripe 17 = .ok (.irem, 1) := by decide +kernel
theorem dX5_placeInStripe_18 : decode cX5_placeInStripe 18 = .ok (.ireturn, 1) := by decide +kernel
theorem dX6_init_0 : decode cX6_init 0 = .ok (.aload_n 0, 1) := by decide +kernel
theorem dX6_init_1 : decode cX6_init 1 = .ok (.invokespecial 3, 3) := by decide +kernel
theorem dX6_init_4 : decode cX6_init 4 = .ok (.aload_n 0, 1) := by decide +kernel
theorem dX6_init_5 : decode cX6_init 5 = .ok (.bipush 7, 2) := by decide +kernel
theorem dX6_init_7 : decode cX6_init 7 = .ok (.bipush 41, 2) := by decide +kernel
theorem dX6_init_9 : decode cX6_init 9 = .ok (.multianewarray 9 2, 4) := by decide +kernel
theorem dX6_init_13 : decode cX6_init 13 = .ok (.putfield 11, 3) := by decide +kernel
theorem dX6_init_16 : decode cX6_init 16 = .ok (.aload_n 0, 1) := by decide +kernel
theorem dX6_init_17 : decode cX6_init 17 = .ok (.bipush 6, 2) := by decide +kernel
theorem dX6_init_19 : decode cX6_init 19 = .ok (.newarray .int, 2) := by decide +kernel
theorem dX6_init_21 : decode cX6_init 21 = .ok (.putfield 16, 3) := by decide +kernel
theorem dX6_init_24 : decode cX6_init 24 = .ok (.return_, 1) := by decide +kernel
theorem dX6_makePlan_0 : decode cX6_makePlan 0 = .ok (.aload_n 1, 1) := by decide +kernel
theorem dX6_makePlan_1 : decode cX6_makePlan 1 = .ok (.getfield 20, 3) := by decide +kernel
theorem dX6_makePlan_4 : decode cX6_makePlan 4 = .ok (.istore_n 2, 1) := by decide +kernel
theorem dX6_makePlan_5 : decode cX6_makePlan 5 = .ok (.iconst 0, 1) := by decide +kernel
theorem dX6_makePlan_6 : decode cX6_makePlan 6 = .ok (.istore_n 3, 1) := by decide +kernel
theorem dX6_makePlan_7 : decode cX6_makePlan 7 = .ok (.iload_n 3, 1) := by decide +kernel
theorem dX6_makePlan_8 : decode cX6_makePlan 8 = .ok (.bipush 40, 2) := by decide +kernel
theorem dX6_makePlan_10 : decode cX6_makePlan 10 = .ok (.if_icmp .gt 18, 3) := by decide +kernel
theorem dX6_makePlan_13 : decode cX6_makePlan 13 = .ok (.aload_n 0, 1) := by decide +kernel
theorem dX6_makePlan_14 : decode cX6_makePlan 14 = .ok (.getfield 11, 3) := by decide +kernel
theorem dX6_makePlan_17 : decode cX6_makePlan 17 = .ok (.iload_n 2, 1) := by decide +kernel
theorem dX6_makePlan_18 : decode cX6_makePlan 18 = .ok (.aaload, 1) := by decide +kernel
theorem dX6_makePlan_19 : decode cX6_makePlan 19 = .ok (.iload_n 3, 1) := by decide +kernel
theorem dX6_makePlan_20 : decode cX6_makePlan 20 = .ok (.iconst 0, 1) := by decide +kernel
theorem dX6_makePlan_21 : decode cX6_makePlan 21 = .ok (.iastore, 1) := by decide +kernel
theorem dX6_makePlan_22 : decode cX6_makePlan 22 = .ok (.iinc 3 1, 3) := by decide +kernel
theorem dX6_makePlan_25 : decode cX6_makePlan 25 = .ok (.goto (-18), 3) := by decide +kernel
theorem dX6_makePlan_28 : decode cX6_makePlan 28 = .ok (.iload_n 2, 1) := by decide +kernel
theorem dX6_makePlan_29 : decode cX6_makePlan 29 = .ok (.iconst 1, 1) := by decide +kernel
theorem dX6_makePlan_30 : decode cX6_makePlan 30 = .ok (.isub, 1) := by decide +kernel
theorem dX6_makePlan_31 : decode cX6_makePlan 31 = .ok (.istore_n 3, 1) := by decide +kernel
theorem dX6_makePlan_32 : decode cX6_makePlan 32 = .ok (.iload_n 3, 1) := by decide +kernel
theorem dX6_makePlan_33 : decode cX6_makePlan 33 = .ok (.ifCond .lt 44, 3) := by decide +kernel
theorem dX6_makePlan_36 : decode cX6_makePlan 36 = .ok (.iconst 0, 1) := by decide +kernel
theorem dX6_makePlan_37 : decode cX6_makePlan 37 = .ok (.istore 4, 2) := by decide +kernel
theorem dX6_makePlan_39 : decode cX6_makePlan 39 = .ok (.iload 4, 2) := by decide +kernel
theorem dX6_makePlan_41 : decode cX6_makePlan 41 = .ok (.aload_n 1, 1) := by decide +kernel
theorem dX6_makePlan_42 : decode cX6_makePlan 42 = .ok (.getfield 26, 3) := by decide +kernel
theorem dX6_makePlan_45 : decode cX6_makePlan 45 = .ok (.if_icmp .gt 26, 3) := by decide +kernel
theorem dX6_makePlan_48 : decode cX6_makePlan 48 = .ok (.aload_n 0, 1) := by decide +kernel
theorem dX6_makePlan_49 : decode cX6_makePlan 49 = .ok (.getfield 11, 3) := by decide +kernel
theorem dX6_makePlan_52 : decode cX6_makePlan 52 = .ok (.iload_n 3, 1) := by decide +kernel
theorem dX6_makePlan_53 : decode cX6_makePlan 53 = .ok (.aaload, 1) := by decide +kernel
theorem dX6_makePlan_54 : decode cX6_makePlan 54 = .ok (.iload 4, 2) := by decide +kernel
theorem dX6_makePlan_56 : decode cX6_makePlan 56 = .ok (.aload_n 0, 1) := by decide +kernel
theorem dX6_makePlan_57 : decode cX6_makePlan 57 = .ok (.aload_n 1, 1) := by decide +kernel
theorem dX6_makePlan_58 : decode cX6_makePlan 58 = .ok (.iload_n 3, 1) := by decide +kernel
theorem dX6_makePlan_59 : decode cX6_makePlan 59 = .ok (.iload 4, 2) := by decide +kernel
theorem dX6_makePlan_61 : decode cX6_makePlan 61 = .ok (.invokevirtual 29, 3) := by decide +kernel
theorem dX6_makePlan_64 : decode cX6_makePlan 64 = .ok (.iastore, 1) := by decide +kernel
theorem dX6_makePlan_65 : decode cX6_makePlan 65 = .ok (.iinc 4 1, 3) := by decide +kernel
theorem dX6_makePlan_68 : decode cX6_makePlan 68 = .ok (.goto (-29), 3) := by decide +kernel
theorem dX6_makePlan_71 : decode cX6_makePlan 71 = .ok (.iinc 3 (-1), 3) := by decide +kernel
theorem dX6_makePlan_74 : decode cX6_makePlan 74 = .ok (.goto (-42), 3) := by decide +kernel
theorem dX6_makePlan_77 : decode cX6_makePlan 77 = .ok (.aload_n 0, 1) := by decide +kernel
theorem dX6_makePlan_78 : decode cX6_makePlan 78 = .ok (.aload_n 0, 1) := by decide +kernel
theorem dX6_makePlan_79 : decode cX6_makePlan 79 = .ok (.getfield 11, 3) := by decide +kernel
theorem dX6_makePlan_82 : decode cX6_makePlan 82 = .ok (.iconst 0, 1) := by decide +kernel
theorem dX6_makePlan_83 : decode cX6_makePlan 83 = .ok (.aaload, 1) := by decide +kernel
theorem dX6_makePlan_84 : decode cX6_makePlan 84 = .ok (.aload_n 1, 1) := by decide +kernel
theorem dX6_makePlan_85 : decode cX6_makePlan 85 = .ok (.getfield 26, 3) := by decide +kernel
theorem dX6_makePlan_88 : decode cX6_makePlan 88 = .ok (.iaload, 1) := by decide +kernel
theorem dX6_makePlan_89 : decode cX6_makePlan 89 = .ok (.putfield 33, 3) := by decide +kernel
theorem dX6_makePlan_92 : decode cX6_makePlan 92 = .ok (.aload_n 0, 1) := by decide +kernel
theorem dX6_makePlan_93 : decode cX6_makePlan 93 = .ok (.getfield 33, 3) := by decide +kernel
theorem dX6_makePlan_96 : decode cX6_makePlan 96 = .ok (.ldc 36, 2) := by decide +kernel
theorem dX6_makePlan_98 : decode cX6_makePlan 98 = .ok (.if_icmp .lt 5, 3) := by decide +kernel
theorem dX6_makePlan_101 : decode cX6_makePlan 101 = .ok (.iconst 0, 1) := by decide +kernel
theorem dX6_makePlan_102 : decode cX6_makePlan 102 = .ok (.ireturn, 1) := by decide +kernel
theorem dX6_makePlan_103 : decode cX6_makePlan 103 = .ok (.aload_n 0, 1) := by decide +kernel
theorem dX6_makePlan_104 : decode cX6_makePlan 104 = .ok (.aload_n 1, 1) := by decide +kernel
theorem dX6_makePlan_105 : decode cX6_makePlan 105 = .ok (.invokevirtual 37, 3) := by decide +kernel
theorem dX6_makePlan_108 : decode cX6_makePlan 108 = .ok (.iconst 1, 1) := by decide +kernel
theorem dX6_makePlan_109 : decode cX6_makePlan 109 = .ok (.ireturn, 1) := by decide +kernel
theorem dX6_leastFrom_0 : decode cX6_leastFrom 0 = .ok (.ldc 36, 2) := by decide +kernel
theorem dX6_leastFrom_2 : decode cX6_leastFrom 2 = .ok (.istore 4, 2) := by decide +kernel
theorem dX6_leastFrom_4 : decode cX6_leastFrom 4 = .ok (.iconst 1, 1) := by decide +kernel
theorem dX6_leastFrom_5 : decode cX6_leastFrom 5 = .ok (.istore 5, 2) := by decide +kernel
theorem dX6_leastFrom_7 : decode cX6_leastFrom 7 = .ok (.iload 5, 2) := by decide +kernel
theorem dX6_leastFrom_9 : decode cX6_leastFrom 9 = .ok (.aload_n 1, 1) := by decide +kernel
theorem dX6_leastFrom_10 : decode cX6_leastFrom 10 = .ok (.getfield 41, 3) := by decide +kernel
theorem dX6_leastFrom_13 : decode cX6_leastFrom 13 = .ok (.if_icmp .gt 30, 3) := by decide +kernel
theorem dX6_leastFrom_16 : decode cX6_leastFrom 16 = .ok (.iload 4, 2) := by decide +kernel
theorem dX6_leastFrom_18 : decode cX6_leastFrom 18 = .ok (.aload_n 0, 1) := by decide +kernel
theorem dX6_leastFrom_19 : decode cX6_leastFrom 19 = .ok (.aload_n 1, 1) := by decide +kernel
theorem dX6_leastFrom_20 : decode cX6_leastFrom 20 = .ok (.getfield 44, 3) := by decide +kernel
theorem dX6_leastFrom_23 : decode cX6_leastFrom 23 = .ok (.iload_n 2, 1) := by decide +kernel
theorem dX6_leastFrom_24 : decode cX6_leastFrom 24 = .ok (.aaload, 1) := by decide +kernel
theorem dX6_leastFrom_25 : decode cX6_leastFrom 25 = .ok (.iload 5, 2) := by decide +kernel
theorem dX6_leastFrom_27 : decode cX6_leastFrom 27 = .ok (.iload_n 2, 1) := by decide +kernel
theorem dX6_leastFrom_28 : decode cX6_leastFrom 28 = .ok (.iload_n 3, 1) := by decide +kernel
theorem dX6_leastFrom_29 : decode cX6_leastFrom 29 = .ok (.invokevirtual 48, 3) := by decide +kernel
theorem dX6_leastFrom_32 : decode cX6_leastFrom 32 = .ok (.invokestatic 52, 3) := by decide +kernel
theorem dX6_leastFrom_35 : decode cX6_leastFrom 35 = .ok (.istore 4, 2) := by decide +kernel
theorem dX6_leastFrom_37 : decode cX6_leastFrom 37 = .ok (.iinc 5 1, 3) := by decide +kernel
theorem dX6_leastFrom_40 : decode cX6_leastFrom 40 = .ok (.goto (-33), 3) := by decide +kernel
theorem dX6_leastFrom_43 : decode cX6_leastFrom 43 = .ok (.iload 4, 2) := by decide +kernel
theorem dX6_leastFrom_45 : decode cX6_leastFrom 45 = .ok (.ireturn, 1) := by decide +kernel
theorem dX6_costWith_0 : decode cX6_costWith 0 = .ok (.iload 4, 2) := by decide +kernel
theorem dX6_costWith_2 : decode cX6_costWith 2 = .ok (.aload_n 1, 1) := by decide +kernel
theorem dX6_costWith_3 : decode cX6_costWith 3 = .ok (.getfield 58, 3) := by decide +kernel
theorem dX6_costWith_6 : decode cX6_costWith 6 = .ok (.arraylength, 1) := by decide +kernel
theorem dX6_costWith_7 : decode cX6_costWith 7 = .ok (.iload_n 2, 1) := by decide +kernel
theorem dX6_costWith_8 : decode cX6_costWith 8 = .ok (.invokestatic 63, 3) := by decide +kernel
theorem dX6_costWith_11 : decode cX6_costWith 11 = .ok (.isub, 1) := by decide +kernel
theorem dX6_costWith_12 : decode cX6_costWith 12 = .ok (.istore 5, 2) := by decide +kernel
theorem dX6_costWith_14 : decode cX6_costWith 14 = .ok (.iload 5, 2) := by decide +kernel
theorem dX6_costWith_16 : decode cX6_costWith 16 = .ok (.ifCond .ge 8, 3) := by decide +kernel
theorem dX6_costWith_19 : decode cX6_costWith 19 = .ok (.ldc 36, 2) := by decide +kernel
theorem dX6_costWith_21 : decode cX6_costWith 21 = .ok (.goto 26, 3) := by decide +kernel
theorem dX6_costWith_24 : decode cX6_costWith 24 = .ok (.ldc 36, 2) := by decide +kernel
theorem dX6_costWith_26 : decode cX6_costWith 26 = .ok (.aload_n 1, 1) := by decide +kernel
theorem dX6_costWith_27 : decode cX6_costWith 27 = .ok (.getfield 66, 3) := by decide +kernel
theorem dX6_costWith_30 : decode cX6_costWith 30 = .ok (.iload_n 2, 1) := by decide +kernel
theorem dX6_costWith_31 : decode cX6_costWith 31 = .ok (.imul, 1) := by decide +kernel
theorem dX6_costWith_32 : decode cX6_costWith 32 = .ok (.aload_n 0, 1) := by decide +kernel
theorem dX6_costWith_33 : decode cX6_costWith 33 = .ok (.getfield 11, 3) := by decide +kernel
theorem dX6_costWith_36 : decode cX6_costWith 36 = .ok (.iload_n 3, 1) := by decide +kernel
theorem dX6_costWith_37 : decode cX6_costWith 37 = .ok (.iconst 1, 1) := by decide +kernel
theorem dX6_costWith_38 : decode cX6_costWith 38 = .ok (.iadd, 1) := by decide +kernel
theorem dX6_costWith_39 : decode cX6_costWith 39 = .ok (.aaload, 1) := by decide +kernel
theorem dX6_costWith_40 : decode cX6_costWith 40 = .ok (.iload 5, 2) := by decide +kernel
theorem dX6_costWith_42 : decode cX6_costWith 42 = .ok (.iaload, 1) := by decide +kernel
theorem dX6_costWith_43 : decode cX6_costWith 43 = .ok (.iadd, 1) := by decide +kernel
theorem dX6_costWith_44 : decode cX6_costWith 44 = .ok (.invokestatic 52, 3) := by decide +kernel
theorem dX6_costWith_47 : decode cX6_costWith 47 = .ok (.ireturn, 1) := by decide +kernel
theorem dX6_chooseNeeds_0 : decode cX6_chooseNeeds 0 = .ok (.aload_n 1, 1) := by decide +kernel
theorem dX6_chooseNeeds_1 : decode cX6_chooseNeeds 1 = .ok (.getfield 26, 3) := by decide +kernel
theorem dX6_chooseNeeds_4 : decode cX6_chooseNeeds 4 = .ok (.istore_n 2, 1) := by decide +kernel
theorem dX6_chooseNeeds_5 : decode cX6_chooseNeeds 5 = .ok (.iconst 0, 1) := by decide +kernel
theorem dX6_chooseNeeds_6 : decode cX6_chooseNeeds 6 = .ok (.istore_n 3, 1) := by decide +kernel
theorem dX6_chooseNeeds_7 : decode cX6_chooseNeeds 7 = .ok (.iload_n 3, 1) := by decide +kernel
theorem dX6_chooseNeeds_8 : decode cX6_chooseNeeds 8 = .ok (.aload_n 1, 1) := by decide +kernel
theorem dX6_chooseNeeds_9 : decode cX6_chooseNeeds 9 = .ok (.getfield 20, 3) := by decide +kernel
theorem dX6_chooseNeeds_12 : decode cX6_chooseNeeds 12 = .ok (.if_icmp .ge 82, 3) := by decide +kernel
theorem dX6_chooseNeeds_15 : decode cX6_chooseNeeds 15 = .ok (.iconst 1, 1) := by decide +kernel
theorem dX6_chooseNeeds_16 : decode cX6_chooseNeeds 16 = .ok (.istore 4, 2) := by decide +kernel
theorem dX6_chooseNeeds_18 : decode cX6_chooseNeeds 18 = .ok (.iload 4, 2) := by decide +kernel
theorem dX6_chooseNeeds_20 : decode cX6_chooseNeeds 20 = .ok (.aload_n 1, 1) := by decide +kernel
theorem dX6_chooseNeeds_21 : decode cX6_chooseNeeds 21 = .ok (.getfield 41, 3) := by decide +kernel
theorem dX6_chooseNeeds_24 : decode cX6_chooseNeeds 24 = .ok (.if_icmp .ge 34, 3) := by decide +kernel
theorem dX6_chooseNeeds_27 : decode cX6_chooseNeeds 27 = .ok (.aload_n 0, 1) := by decide +kernel
theorem dX6_chooseNeeds_28 : decode cX6_chooseNeeds 28 = .ok (.aload_n 1, 1) := by decide +kernel
theorem dX6_chooseNeeds_29 : decode cX6_chooseNeeds 29 = .ok (.getfield 44, 3) := by decide +kernel
theorem dX6_chooseNeeds_32 : decode cX6_chooseNeeds 32 = .ok (.iload_n 3, 1) := by decide +kernel
theorem dX6_chooseNeeds_33 : decode cX6_chooseNeeds 33 = .ok (.aaload, 1) := by decide +kernel
theorem dX6_chooseNeeds_34 : decode cX6_chooseNeeds 34 = .ok (.iload 4, 2) := by decide +kernel
theorem dX6_chooseNeeds_36 : decode cX6_chooseNeeds 36 = .ok (.iload_n 3, 1) := by decide +kernel
theorem dX6_chooseNeeds_37 : decode cX6_chooseNeeds 37 = .ok (.iload_n 2, 1) := by decide +kernel
theorem dX6_chooseNeeds_38 : decode cX6_chooseNeeds 38 = .ok (.invokevirtual 48, 3) := by decide +kernel
theorem dX6_chooseNeeds_41 : decode cX6_chooseNeeds 41 = .ok (.aload_n 0, 1) := by decide +kernel
theorem dX6_chooseNeeds_42 : decode cX6_chooseNeeds 42 = .ok (.getfield 11, 3) := by decide +kernel
theorem dX6_chooseNeeds_45 : decode cX6_chooseNeeds 45 = .ok (.iload_n 3, 1) := by decide +kernel
theorem dX6_chooseNeeds_46 : decode cX6_chooseNeeds 46 = .ok (.aaload, 1) := by decide +kernel
theorem dX6_chooseNeeds_47 : decode cX6_chooseNeeds 47 = .ok (.iload_n 2, 1) := by decide +kernel
theorem dX6_chooseNeeds_48 : decode cX6_chooseNeeds 48 = .ok (.iaload, 1) := by decide +kernel
theorem dX6_chooseNeeds_49 : decode cX6_chooseNeeds 49 = .ok (.if_icmp .eq 9, 3) := by decide +kernel
theorem dX6_chooseNeeds_52 : decode cX6_chooseNeeds 52 = .ok (.iinc 4 1, 3) := by decide +kernel
theorem dX6_chooseNeeds_55 : decode cX6_chooseNeeds 55 = .ok (.goto (-37), 3) := by decide +kernel
theorem dX6_chooseNeeds_58 : decode cX6_chooseNeeds 58 = .ok (.aload_n 0, 1) := by decide +kernel
theorem dX6_chooseNeeds_59 : decode cX6_chooseNeeds 59 = .ok (.getfield 16, 3) := by decide +kernel
theorem dX6_chooseNeeds_62 : decode cX6_chooseNeeds 62 = .ok (.iload_n 3, 1) := by decide +kernel
theorem dX6_chooseNeeds_63 : decode cX6_chooseNeeds 63 = .ok (.iload 4, 2) := by decide +kernel
theorem dX6_chooseNeeds_65 : decode cX6_chooseNeeds 65 = .ok (.iastore, 1) := by decide +kernel
theorem dX6_chooseNeeds_66 : decode cX6_chooseNeeds 66 = .ok (.iconst 0, 1) := by decide +kernel
theorem dX6_chooseNeeds_67 : decode cX6_chooseNeeds 67 = .ok (.iload_n 2, 1) := by decide +kernel
theorem dX6_chooseNeeds_68 : decode cX6_chooseNeeds 68 = .ok (.aload_n 1, 1) := by decide +kernel
theorem dX6_chooseNeeds_69 : decode cX6_chooseNeeds 69 = .ok (.getfield 44, 3) := by decide +kernel
theorem dX6_chooseNeeds_72 : decode cX6_chooseNeeds 72 = .ok (.iload_n 3, 1) := by decide +kernel
theorem dX6_chooseNeeds_73 : decode cX6_chooseNeeds 73 = .ok (.aaload, 1) := by decide +kernel
theorem dX6_chooseNeeds_74 : decode cX6_chooseNeeds 74 = .ok (.getfield 58, 3) := by decide +kernel
theorem dX6_chooseNeeds_77 : decode cX6_chooseNeeds 77 = .ok (.arraylength, 1) := by decide +kernel
theorem dX6_chooseNeeds_78 : decode cX6_chooseNeeds 78 = .ok (.iload 4, 2) := by decide +kernel
theorem dX6_chooseNeeds_80 : decode cX6_chooseNeeds 80 = .ok (.invokestatic 63, 3) := by decide +kernel
theorem dX6_chooseNeeds_83 : decode cX6_chooseNeeds 83 = .ok (.isub, 1) := by decide +kernel
theorem dX6_chooseNeeds_84 : decode cX6_chooseNeeds 84 = .ok (.invokestatic 69, 3) := by decide +kernel
theorem dX6_chooseNeeds_87 : decode cX6_chooseNeeds 87 = .ok (.istore_n 2, 1) := by decide +kernel
theorem dX6_chooseNeeds_88 : decode cX6_chooseNeeds 88 = .ok (.iinc 3 1, 3) := by decide +kernel
theorem dX6_chooseNeeds_91 : decode cX6_chooseNeeds 91 = .ok (.goto (-84), 3) := by decide +kernel
theorem dX6_chooseNeeds_94 : decode cX6_chooseNeeds 94 = .ok (.return_, 1) := by decide +kernel
theorem dX7_init_0 : decode cX7_init 0 = .ok (.aload_n 0, 1) := by decide +kernel
theorem dX7_init_1 : decode cX7_init 1 = .ok (.invokespecial 3, 3) := by decide +kernel
theorem dX7_init_4 : decode cX7_init 4 = .ok (.aload_n 0, 1) := by decide +kernel
theorem dX7_init_5 : decode cX7_init 5 = .ok (.aload_n 1, 1) := by decide +kernel
theorem dX7_init_6 : decode cX7_init 6 = .ok (.putfield 9, 3) := by decide +kernel
theorem dX7_init_9 : decode cX7_init 9 = .ok (.aload_n 0, 1) := by decide +kernel
theorem dX7_init_10 : decode cX7_init 10 = .ok (.bipush 24, 2) := by decide +kernel
theorem dX7_init_12 : decode cX7_init 12 = .ok (.anewarray 15, 3) := by decide +kernel
theorem dX7_init_15 : decode cX7_init 15 = .ok (.putfield 17, 3) := by decide +kernel
theorem dX7_init_18 : decode cX7_init 18 = .ok (.iconst 0, 1) := by decide +kernel
theorem dX7_init_19 : decode cX7_init 19 = .ok (.istore_n 2, 1) := by decide +kernel
theorem dX7_init_20 : decode cX7_init 20 = .ok (.iload_n 2, 1) := by decide +kernel
theorem dX7_init_21 : decode cX7_init 21 = .ok (.bipush 24, 2) := by decide +kernel
theorem dX7_init_23 : decode cX7_init 23 = .ok (.if_icmp .ge 22, 3) := by decide +kernel
theorem dX7_init_26 : decode cX7_init 26 = .ok (.aload_n 0, 1) := by decide +kernel
theorem dX7_init_27 : decode cX7_init 27 = .ok (.getfield 17, 3) := by decide +kernel
theorem dX7_init_30 : decode cX7_init 30 = .ok (.iload_n 2, 1) := by decide +kernel
theorem dX7_init_31 : decode cX7_init 31 = .ok (.new 15, 3) := by decide +kernel
theorem dX7_init_34 : decode cX7_init 34 = .ok (.dup, 1) := by decide +kernel
theorem dX7_init_35 : decode cX7_init 35 = .ok (.invokespecial 21, 3) := by decide +kernel
theorem dX7_init_38 : decode cX7_init 38 = .ok (.aastore, 1) := by decide +kernel
theorem dX7_init_39 : decode cX7_init 39 = .ok (.iinc 2 1, 3) := by decide +kernel
theorem dX7_init_42 : decode cX7_init 42 = .ok (.goto (-22), 3) := by decide +kernel
theorem dX7_init_45 : decode cX7_init 45 = .ok (.return_, 1) := by decide +kernel
theorem dX7_firstFault_0 : decode cX7_firstFault 0 = .ok (.aload_n 0, 1) := by decide +kernel
theorem dX7_firstFault_1 : decode cX7_firstFault 1 = .ok (.iconst 0, 1) := by decide +kernel
theorem dX7_firstFault_2 : decode cX7_firstFault 2 = .ok (.putfield 22, 3) := by decide +kernel
theorem dX7_firstFault_5 : decode cX7_firstFault 5 = .ok (.aload_n 0, 1) := by decide +kernel
theorem dX7_firstFault_6 : decode cX7_firstFault 6 = .ok (.iconst 0, 1) := by decide +kernel
theorem dX7_firstFault_7 : decode cX7_firstFault 7 = .ok (.putfield 26, 3) := by decide +kernel
theorem dX7_firstFault_10 : decode cX7_firstFault 10 = .ok (.aload_n 0, 1) := by decide +kernel
theorem dX7_firstFault_11 : decode cX7_firstFault 11 = .ok (.iload_n 1, 1) := by decide +kernel
theorem dX7_firstFault_12 : decode cX7_firstFault 12 = .ok (.putfield 29, 3) := by decide +kernel
theorem dX7_firstFault_15 : decode cX7_firstFault 15 = .ok (.iconst 0, 1) := by decide +kernel
theorem dX7_firstFault_16 : decode cX7_firstFault 16 = .ok (.istore_n 2, 1) := by decide +kernel
theorem dX7_firstFault_17 : decode cX7_firstFault 17 = .ok (.iload_n 2, 1) := by decide +kernel
theorem dX7_firstFault_18 : decode cX7_firstFault 18 = .ok (.bipush 24, 2) := by decide +kernel
theorem dX7_firstFault_20 : decode cX7_firstFault 20 = .ok (.if_icmp .ge 71, 3) := by decide +kernel
theorem dX7_firstFault_23 : decode cX7_firstFault 23 = .ok (.aload_n 0, 1) := by decide +kernel
theorem dX7_firstFault_24 : decode cX7_firstFault 24 = .ok (.aload_n 0, 1) := by decide +kernel
theorem dX7_firstFault_25 : decode cX7_firstFault 25 = .ok (.getfield 17, 3) := by decide +kernel
theorem dX7_firstFault_28 : decode cX7_firstFault 28 = .ok (.iload_n 2, 1) := by decide +kernel
theorem dX7_firstFault_29 : decode cX7_firstFault 29 = .ok (.aaload, 1) := by decide +kernel
theorem dX7_firstFault_30 : decode cX7_firstFault 30 = .ok (.invokevirtual 32, 3) := by decide +kernel
theorem dX7_firstFault_33 : decode cX7_firstFault 33 = .ok (.ifCond .ne 8, 3) := by decide +kernel
theorem dX7_firstFault_36 : decode cX7_firstFault 36 = .ok (.aload_n 0, 1) := by decide +kernel
theorem dX7_firstFault_37 : decode cX7_firstFault 37 = .ok (.getfield 36, 3) := by decide +kernel
theorem dX7_firstFault_40 : decode cX7_firstFault 40 = .ok (.ireturn, 1) := by decide +kernel
theorem dX7_firstFault_41 : decode cX7_firstFault 41 = .ok (.aload_n 0, 1) := by decide +kernel
theorem dX7_firstFault_42 : decode cX7_firstFault 42 = .ok (.dup, 1) := by decide +kernel
theorem dX7_firstFault_43 : decode cX7_firstFault 43 = .ok (.getfield 26, 3) := by decide +kernel
theorem dX7_firstFault_46 : decode cX7_firstFault 46 = .ok (.iconst 1, 1) := by decide +kernel
theorem dX7_firstFault_47 : decode cX7_firstFault 47 = .ok (.iadd, 1) := by decide +kernel
theorem dX7_firstFault_48 : decode cX7_firstFault 48 = .ok (.putfield 26, 3) := by decide +kernel
theorem dX7_firstFault_51 : decode cX7_firstFault 51 = .ok (.aload_n 0, 1) := by decide +kernel
theorem dX7_firstFault_52 : decode cX7_firstFault 52 = .ok (.invokevirtual 39, 3) := by decide +kernel
theorem dX7_firstFault_55 : decode cX7_firstFault 55 = .ok (.aload_n 0, 1) := by decide +kernel
theorem dX7_firstFault_56 : decode cX7_firstFault 56 = .ok (.getfield 42, 3) := by decide +kernel
theorem dX7_firstFault_59 : decode cX7_firstFault 59 = .ok (.ifCond .ne 5, 3) := by decide +kernel
theorem dX7_firstFault_62 : decode cX7_firstFault 62 = .ok (.iconst (-1), 1) := by decide +kernel
theorem dX7_firstFault_63 : decode cX7_firstFault 63 = .ok (.ireturn, 1) := by decide +kernel
theorem dX7_firstFault_64 : decode cX7_firstFault 64 = .ok (.aload_n 0, 1) := by decide +kernel
theorem dX7_firstFault_65 : decode cX7_firstFault 65 = .ok (.getfield 9, 3) := by decide +kernel
theorem dX7_firstFault_68 : decode cX7_firstFault 68 = .ok (.aload_n 0, 1) := by decide +kernel
theorem dX7_firstFault_69 : decode cX7_firstFault 69 = .ok (.getfield 36, 3) := by decide +kernel
theorem dX7_firstFault_72 : decode cX7_firstFault 72 = .ok (.bipush 59, 2) := by decide +kernel
theorem dX7_firstFault_74 : decode cX7_firstFault 74 = .ok (.invokevirtual 45, 3) := by decide +kernel
theorem dX7_firstFault_77 : decode cX7_firstFault 77 = .ok (.ifCond .ne 8, 3) := by decide +kernel
theorem dX7_firstFault_80 : decode cX7_firstFault 80 = .ok (.aload_n 0, 1) := by decide +kernel
theorem dX7_firstFault_81 : decode cX7_firstFault 81 = .ok (.getfield 36, 3) := by decide +kernel
theorem dX7_firstFault_84 : decode cX7_firstFault 84 = .ok (.ireturn, 1) := by decide +kernel
theorem dX7_firstFault_85 : decode cX7_firstFault 85 = .ok (.iinc 2 1, 3) := by decide +kernel
theorem dX7_firstFault_88 : decode cX7_firstFault 88 = .ok (.goto (-71), 3) := by decide +kernel
theorem dX7_firstFault_91 : decode cX7_firstFault 91 = .ok (.aload_n 0, 1) := by decide +kernel
theorem dX7_firstFault_92 : decode cX7_firstFault 92 = .ok (.getfield 36, 3) := by decide +kernel
theorem dX7_firstFault_95 : decode cX7_firstFault 95 = .ok (.ireturn, 1) := by decide +kernel
theorem dX7_takeClause_0 : decode cX7_takeClause 0 = .ok (.aload_n 0, 1) := by decide +kernel
theorem dX7_takeClause_1 : decode cX7_takeClause 1 = .ok (.invokevirtual 39, 3) := by decide +kernel
theorem dX7_takeClause_4 : decode cX7_takeClause 4 = .ok (.aload_n 0, 1) := by decide +kernel
theorem dX7_takeClause_5 : decode cX7_takeClause 5 = .ok (.getfield 9, 3) := by decide +kernel
theorem dX7_takeClause_8 : decode cX7_takeClause 8 = .ok (.aload_n 0, 1) := by decide +kernel
theorem dX7_takeClause_9 : decode cX7_takeClause 9 = .ok (.getfield 36, 3) := by decide +kernel
theorem dX7_takeClause_12 : decode cX7_takeClause 12 = .ok (.aload_n 0, 1) := by decide +kernel
theorem dX7_takeClause_13 : decode cX7_takeClause 13 = .ok (.getfield 22, 3) := by decide +kernel
theorem dX7_takeClause_16 : decode cX7_takeClause 16 = .ok (.ldc 51, 2) := by decide +kernel
theorem dX7_takeClause_18 : decode cX7_takeClause 18 = .ok (.invokevirtual 53, 3) := by decide +kernel
theorem dX7_takeClause_21 : decode cX7_takeClause 21 = .ok (.ifCond .eq 15, 3) := by decide +kernel
theorem dX7_takeClause_24 : decode cX7_takeClause 24 = .ok (.aload_n 1, 1) := by decide +kernel
theorem dX7_takeClause_25 : decode cX7_takeClause 25 = .ok (.iconst 0, 1) := by decide +kernel
theorem dX7_takeClause_26 : decode cX7_takeClause 26 = .ok (.putfield 57, 3) := by decide +kernel
theorem dX7_takeClause_29 : decode cX7_takeClause 29 = .ok (.aload_n 0, 1) := by decide +kernel
theorem dX7_takeClause_30 : decode cX7_takeClause 30 = .ok (.iconst 0, 1) := by decide +kernel
theorem dX7_takeClause_31 : decode cX7_takeClause 31 = .ok (.putfield 29, 3) := by decide +kernel
theorem dX7_takeClause_34 : decode cX7_takeClause 34 = .ok (.iconst 1, 1) := by decide +kernel
theorem dX7_takeClause_35 : decode cX7_takeClause 35 = .ok (.ireturn, 1) := by decide +kernel
theorem dX7_takeClause_36 : decode cX7_takeClause 36 = .ok (.aload_n 0, 1) := by decide +kernel
theorem dX7_takeClause_37 : decode cX7_takeClause 37 = .ok (.getfield 9, 3) := by decide +kernel
theorem dX7_takeClause_40 : decode cX7_takeClause 40 = .ok (.aload_n 0, 1) := by decide +kernel
theorem dX7_takeClause_41 : decode cX7_takeClause 41 = .ok (.getfield 36, 3) := by decide +kernel
theorem dX7_takeClause_44 : decode cX7_takeClause 44 = .ok (.aload_n 0, 1) := by decide +kernel
theorem dX7_takeClause_45 : decode cX7_takeClause 45 = .ok (.getfield 22, 3) := by decide +kernel
theorem dX7_takeClause_48 : decode cX7_takeClause 48 = .ok (.ldc 60, 2) := by decide +kernel
theorem dX7_takeClause_50 : decode cX7_takeClause 50 = .ok (.invokevirtual 53, 3) := by decide +kernel
theorem dX7_takeClause_53 : decode cX7_takeClause 53 = .ok (.ifCond .eq 16, 3) := by decide +kernel
theorem dX7_takeClause_56 : decode cX7_takeClause 56 = .ok (.aload_n 1, 1) := by decide +kernel
theorem dX7_takeClause_57 : decode cX7_takeClause 57 = .ok (.iconst 1, 1) := by decide +kernel
theorem dX7_takeClause_58 : decode cX7_takeClause 58 = .ok (.putfield 57, 3) := by decide +kernel
theorem dX7_takeClause_61 : decode cX7_takeClause 61 = .ok (.aload_n 0, 1) := by decide +kernel
theorem dX7_takeClause_62 : decode cX7_takeClause 62 = .ok (.aload_n 1, 1) := by decide +kernel
theorem dX7_takeClause_63 : decode cX7_takeClause 63 = .ok (.bipush 8, 2) := by decide +kernel
theorem dX7_takeClause_65 : decode cX7_takeClause 65 = .ok (.invokevirtual 62, 3) := by decide +kernel
theorem dX7_takeClause_68 : decode cX7_takeClause 68 = .ok (.ireturn, 1) := by decide +kernel
theorem dX7_takeClause_69 : decode cX7_takeClause 69 = .ok (.aload_n 0, 1) := by decide +kernel
theorem dX7_takeClause_70 : decode cX7_takeClause 70 = .ok (.getfield 9, 3) := by decide +kernel
theorem dX7_takeClause_73 : decode cX7_takeClause 73 = .ok (.aload_n 0, 1) := by decide +kernel
theorem dX7_takeClause_74 : decode cX7_takeClause 74 = .ok (.getfield 36, 3) := by decide +kernel
theorem dX7_takeClause_77 : decode cX7_takeClause 77 = .ok (.aload_n 0, 1) := by decide +kernel
theorem dX7_takeClause_78 : decode cX7_takeClause 78 = .ok (.getfield 22, 3) := by decide +kernel
theorem dX7_takeClause_81 : decode cX7_takeClause 81 = .ok (.ldc 66, 2) := by decide +kernel
theorem dX7_takeClause_83 : decode cX7_takeClause 83 = .ok (.invokevirtual 53, 3) := by decide +kernel
theorem dX7_takeClause_86 : decode cX7_takeClause 86 = .ok (.ifCond .eq 16, 3) := by decide +kernel
theorem dX7_takeClause_89 : decode cX7_takeClause 89 = .ok (.aload_n 1, 1) := by decide +kernel
theorem dX7_takeClause_90 : decode cX7_takeClause 90 = .ok (.iconst 2, 1) := by decide +kernel
theorem dX7_takeClause_91 : decode cX7_takeClause 91 = .ok (.putfield 57, 3) := by decide +kernel
theorem dX7_takeClause_94 : decode cX7_takeClause 94 = .ok (.aload_n 0, 1) := by decide +kernel
theorem dX7_takeClause_95 : decode cX7_takeClause 95 = .ok (.aload_n 1, 1) := by decide +kernel
theorem dX7_takeClause_96 : decode cX7_takeClause 96 = .ok (.bipush 40, 2) := by decide +kernel
theorem dX7_takeClause_98 : decode cX7_takeClause 98 = .ok (.invokevirtual 62, 3) := by decide +kernel
theorem dX7_takeClause_101 : decode cX7_takeClause 101 = .ok (.ireturn, 1) := by decide +kernel
theorem dX7_takeClause_102 : decode cX7_takeClause 102 = .ok (.aload_n 0, 1) := by decide +kernel
theorem dX7_takeClause_103 : decode cX7_takeClause 103 = .ok (.getfield 9, 3) := by decide +kernel
theorem dX7_takeClause_106 : decode cX7_takeClause 106 = .ok (.aload_n 0, 1) := by decide +kernel
theorem dX7_takeClause_107 : decode cX7_takeClause 107 = .ok (.getfield 36, 3) := by decide +kernel
theorem dX7_takeClause_110 : decode cX7_takeClause 110 = .ok (.aload_n 0, 1) := by decide +kernel
theorem dX7_takeClause_111 : decode cX7_takeClause 111 = .ok (.getfield 22, 3) := by decide +kernel
theorem dX7_takeClause_114 : decode cX7_takeClause 114 = .ok (.ldc 68, 2) := by decide +kernel
theorem dX7_takeClause_116 : decode cX7_takeClause 116 = .ok (.invokevirtual 53, 3) := by decide +kernel
theorem dX7_takeClause_119 : decode cX7_takeClause 119 = .ok (.ifCond .eq 61, 3) := by decide +kernel
theorem dX7_takeClause_122 : decode cX7_takeClause 122 = .ok (.aload_n 0, 1) := by decide +kernel
theorem dX7_takeClause_123 : decode cX7_takeClause 123 = .ok (.getfield 29, 3) := by decide +kernel
theorem dX7_takeClause_126 : decode cX7_takeClause 126 = .ok (.bipush 6, 2) := by decide +kernel
theorem dX7_takeClause_128 : decode cX7_takeClause 128 = .ok (.if_icmp .ge 52, 3) := by decide +kernel
theorem dX7_takeClause_131 : decode cX7_takeClause 131 = .ok (.aload_n 1, 1) := by decide +kernel
theorem dX7_takeClause_132 : decode cX7_takeClause 132 = .ok (.iconst 3, 1) := by decide +kernel
theorem dX7_takeClause_133 : decode cX7_takeClause 133 = .ok (.putfield 57, 3) := by decide +kernel
theorem dX7_takeClause_136 : decode cX7_takeClause 136 = .ok (.aload_n 0, 1) := by decide +kernel
theorem dX7_takeClause_137 : decode cX7_takeClause 137 = .ok (.dup, 1) := by decide +kernel
theorem dX7_takeClause_138 : decode cX7_takeClause 138 = .ok (.getfield 29, 3) := by decide +kernel
theorem dX7_takeClause_141 : decode cX7_takeClause 141 = .ok (.iconst 1, 1) := by decide +kernel
theorem dX7_takeClause_142 : decode cX7_takeClause 142 = .ok (.iadd, 1) := by decide +kernel
theorem dX7_takeClause_143 : decode cX7_takeClause 143 = .ok (.putfield 29, 3) := by decide +kernel
theorem dX7_takeClause_146 : decode cX7_takeClause 146 = .ok (.aload_n 0, 1) := by decide +kernel
theorem dX7_takeClause_147 : decode cX7_takeClause 147 = .ok (.aload_n 1, 1) := by decide +kernel
theorem dX7_takeClause_148 : decode cX7_takeClause 148 = .ok (.invokevirtual 70, 3) := by decide +kernel
theorem dX7_takeClause_151 : decode cX7_takeClause 151 = .ok (.ifCond .eq 27, 3) := by decide +kernel
theorem dX7_takeClause_154 : decode cX7_takeClause 154 = .ok (.aload_n 0, 1) := by decide +kernel
theorem dX7_takeClause_155 : decode cX7_takeClause 155 = .ok (.aload_n 1, 1) := by decide +kernel
theorem dX7_takeClause_156 : decode cX7_takeClause 156 = .ok (.bipush 8, 2) := by decide +kernel
theorem dX7_takeClause_158 : decode cX7_takeClause 158 = .ok (.invokevirtual 62, 3) := by decide +kernel
theorem dX7_takeClause_161 : decode cX7_takeClause 161 = .ok (.ifCond .eq 17, 3) := by decide +kernel
theorem dX7_takeClause_164 : decode cX7_takeClause 164 = .ok (.aload_n 0, 1) := by decide +kernel
theorem dX7_takeClause_165 : decode cX7_takeClause 165 = .ok (.aload_n 1, 1) := by decide +kernel
theorem dX7_takeClause_166 : decode cX7_takeClause 166 = .ok (.bipush 9, 2) := by decide +kernel
theorem dX7_takeClause_168 : decode cX7_takeClause 168 = .ok (.invokevirtual 73, 3) := by decide +kernel
theorem dX7_takeClause_171 : decode cX7_takeClause 171 = .ok (.ifCond .eq 7, 3) := by decide +kernel
theorem dX7_takeClause_174 : decode cX7_takeClause 174 = .ok (.iconst 1, 1) := by decide +kernel
theorem dX7_takeClause_175 : decode cX7_takeClause 175 = .ok (.goto 4, 3) := by decide +kernel
theorem dX7_takeClause_178 : decode cX7_takeClause 178 = .ok (.iconst 0, 1) := by decide +kernel
theorem dX7_takeClause_179 : decode cX7_takeClause 179 = .ok (.ireturn, 1) := by decide +kernel
theorem dX7_takeClause_180 : decode cX7_takeClause 180 = .ok (.iconst 0, 1) := by decide +kernel
theorem dX7_takeClause_181 : decode cX7_takeClause 181 = .ok (.ireturn, 1) := by decide +kernel
theorem dX7_takeWord_0 : decode cX7_takeWord 0 = .ok (.aload_n 0, 1) := by decide +kernel
theorem dX7_takeWord_1 : decode cX7_takeWord 1 = .ok (.invokevirtual 39, 3) := by decide +kernel
theorem dX7_takeWord_4 : decode cX7_takeWord 4 = .ok (.aload_n 1, 1) := by decide +kernel
theorem dX7_takeWord_5 : decode cX7_takeWord 5 = .ok (.aload_n 0, 1) := by decide +kernel
theorem dX7_takeWord_6 : decode cX7_takeWord 6 = .ok (.getfield 36, 3) := by decide +kernel
theorem dX7_takeWord_9 : decode cX7_takeWord 9 = .ok (.putfield 76, 3) := by decide +kernel
theorem dX7_takeWord_12 : decode cX7_takeWord 12 = .ok (.aload_n 1, 1) := by decide +kernel
theorem dX7_takeWord_13 : decode cX7_takeWord 13 = .ok (.aload_n 0, 1) := by decide +kernel
theorem dX7_takeWord_14 : decode cX7_takeWord 14 = .ok (.getfield 22, 3) := by decide +kernel
theorem dX7_takeWord_17 : decode cX7_takeWord 17 = .ok (.aload_n 0, 1) := by decide +kernel
theorem dX7_takeWord_18 : decode cX7_takeWord 18 = .ok (.getfield 36, 3) := by decide +kernel
theorem dX7_takeWord_21 : decode cX7_takeWord 21 = .ok (.isub, 1) := by decide +kernel
theorem dX7_takeWord_22 : decode cX7_takeWord 22 = .ok (.putfield 79, 3) := by decide +kernel
theorem dX7_takeWord_25 : decode cX7_takeWord 25 = .ok (.aload_n 0, 1) := by decide +kernel
theorem dX7_takeWord_26 : decode cX7_takeWord 26 = .ok (.getfield 42, 3) := by decide +kernel
theorem dX7_takeWord_29 : decode cX7_takeWord 29 = .ok (.iconst 1, 1) := by decide +kernel
theorem dX7_takeWord_30 : decode cX7_takeWord 30 = .ok (.if_icmp .ne 16, 3) := by decide +kernel
theorem dX7_takeWord_33 : decode cX7_takeWord 33 = .ok (.aload_n 1, 1) := by decide +kernel
theorem dX7_takeWord_34 : decode cX7_takeWord 34 = .ok (.getfield 79, 3) := by decide +kernel
theorem dX7_takeWord_37 : decode cX7_takeWord 37 = .ok (.bipush 12, 2) := by decide +kernel
theorem dX7_takeWord_39 : decode cX7_takeWord 39 = .ok (.if_icmp .gt 7, 3) := by decide +kernel
theorem dX7_takeWord_42 : decode cX7_takeWord 42 = .ok (.iconst 1, 1) := by decide +kernel
theorem dX7_takeWord_43 : decode cX7_takeWord 43 = .ok (.goto 4, 3) := by decide +kernel
theorem dX7_takeWord_46 : decode cX7_takeWord 46 = .ok (.iconst 0, 1) := by decide +kernel
theorem dX7_takeWord_47 : decode cX7_takeWord 47 = .ok (.ireturn, 1) := by decide +kernel
theorem dX7_takeFirst_0 : decode cX7_takeFirst 0 = .ok (.aload_n 0, 1) := by decide +kernel
theorem dX7_takeFirst_1 : decode cX7_takeFirst 1 = .ok (.iload_n 2, 1) := by decide +kernel
theorem dX7_takeFirst_2 : decode cX7_takeFirst 2 = .ok (.invokevirtual 82, 3) := by decide +kernel
theorem dX7_takeFirst_5 : decode cX7_takeFirst 5 = .ok (.istore_n 3, 1) := by decide +kernel
theorem dX7_takeFirst_6 : decode cX7_takeFirst 6 = .ok (.aload_n 1, 1) := by decide +kernel
