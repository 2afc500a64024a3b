theorem dX12_init_226 : decode cX12_init 226 = .ok (.bipush 20, 2) := by decide +kernel
theorem dX12_init_228 : decode cX12_init 228 = .ok (.iastore, 1) := by decide +kernel
theorem dX12_init_229 : decode cX12_init 229 = .ok (.return_, 1) := by decide +kernel
theorem dX12_in_0 : decode cX12_in 0 = .ok (.lload_n 0, 1) := by decide +kernel
theorem dX12_in_1 : decode cX12_in 1 = .ok (.lload_n 2, 1) := by decide +kernel
theorem dX12_in_2 : decode cX12_in 2 = .ok (.lcmp, 1) := by decide +kernel
theorem dX12_in_3 : decode cX12_in 3 = .ok (.ifCond .lt 14, 3) := by decide +kernel
theorem dX12_in_6 : decode cX12_in 6 = .ok (.lload_n 0, 1) := by decide +kernel
theorem dX12_in_7 : decode cX12_in 7 = .ok (.lload 4, 2) := by decide +kernel
theorem dX12_in_9 : decode cX12_in 9 = .ok (.lcmp, 1) := by decide +kernel
theorem dX12_in_10 : decode cX12_in 10 = .ok (.ifCond .gt 7, 3) := by decide +kernel
theorem dX12_in_13 : decode cX12_in 13 = .ok (.iconst 1, 1) := by decide +kernel
theorem dX12_in_14 : decode cX12_in 14 = .ok (.goto 4, 3) := by decide +kernel
theorem dX12_in_17 : decode cX12_in 17 = .ok (.iconst 0, 1) := by decide +kernel
theorem dX12_in_18 : decode cX12_in 18 = .ok (.ireturn, 1) := by decide +kernel
theorem dX12_isPart_0 : decode cX12_isPart 0 = .ok (.iload_n 1, 1) := by decide +kernel
theorem dX12_isPart_1 : decode cX12_isPart 1 = .ok (.i2l, 1) := by decide +kernel
theorem dX12_isPart_2 : decode cX12_isPart 2 = .ok (.lconst 0, 1) := by decide +kernel
theorem dX12_isPart_3 : decode cX12_isPart 3 = .ok (.aload_n 0, 1) := by decide +kernel
theorem dX12_isPart_4 : decode cX12_isPart 4 = .ok (.getfield 7, 3) := by decide +kernel
theorem dX12_isPart_7 : decode cX12_isPart 7 = .ok (.iconst 2, 1) := by decide +kernel
theorem dX12_isPart_8 : decode cX12_isPart 8 = .ok (.iaload, 1) := by decide +kernel
theorem dX12_isPart_9 : decode cX12_isPart 9 = .ok (.iconst 1, 1) := by decide +kernel
theorem dX12_isPart_10 : decode cX12_isPart 10 = .ok (.isub, 1) := by decide +kernel
theorem dX12_isPart_11 : decode cX12_isPart 11 = .ok (.i2l, 1) := by decide +kernel
theorem dX12_isPart_12 : decode cX12_isPart 12 = .ok (.invokestatic 31, 3) := by decide +kernel
theorem dX12_isPart_15 : decode cX12_isPart 15 = .ok (.ireturn, 1) := by decide +kernel
theorem dX12_at_0 : decode cX12_at 0 = .ok (.iconst 3, 1) := by decide +kernel
theorem dX12_at_1 : decode cX12_at 1 = .ok (.bipush 15, 2) := by decide +kernel
theorem dX12_at_3 : decode cX12_at 3 = .ok (.iload_n 0, 1) := by decide +kernel
theorem dX12_at_4 : decode cX12_at 4 = .ok (.imul, 1) := by decide +kernel
theorem dX12_at_5 : decode cX12_at 5 = .ok (.iadd, 1) := by decide +kernel
theorem dX12_at_6 : decode cX12_at 6 = .ok (.ireturn, 1) := by decide +kernel
theorem dX12_stripes_0 : decode cX12_stripes 0 = .ok (.iload_n 0, 1) := by decide +kernel
theorem dX12_stripes_1 : decode cX12_stripes 1 = .ok (.iload_n 1, 1) := by decide +kernel
theorem dX12_stripes_2 : decode cX12_stripes 2 = .ok (.iadd, 1) := by decide +kernel
theorem dX12_stripes_3 : decode cX12_stripes 3 = .ok (.iconst 1, 1) := by decide +kernel
theorem dX12_stripes_4 : decode cX12_stripes 4 = .ok (.isub, 1) := by decide +kernel
theorem dX12_stripes_5 : decode cX12_stripes 5 = .ok (.iload_n 1, 1) := by decide +kernel
theorem dX12_stripes_6 : decode cX12_stripes 6 = .ok (.idiv, 1) := by decide +kernel
theorem dX12_stripes_7 : decode cX12_stripes 7 = .ok (.ireturn, 1) := by decide +kernel
theorem dX12_stripesOf_0 : decode cX12_stripesOf 0 = .ok (.aload_n 0, 1) := by decide +kernel
theorem dX12_stripesOf_1 : decode cX12_stripesOf 1 = .ok (.getfield 7, 3) := by decide +kernel
theorem dX12_stripesOf_4 : decode cX12_stripesOf 4 = .ok (.iload_n 1, 1) := by decide +kernel
theorem dX12_stripesOf_5 : decode cX12_stripesOf 5 = .ok (.invokestatic 35, 3) := by decide +kernel
theorem dX12_stripesOf_8 : decode cX12_stripesOf 8 = .ok (.iconst 0, 1) := by decide +kernel
theorem dX12_stripesOf_9 : decode cX12_stripesOf 9 = .ok (.iadd, 1) := by decide +kernel
theorem dX12_stripesOf_10 : decode cX12_stripesOf 10 = .ok (.iaload, 1) := by decide +kernel
theorem dX12_stripesOf_11 : decode cX12_stripesOf 11 = .ok (.aload_n 0, 1) := by decide +kernel
theorem dX12_stripesOf_12 : decode cX12_stripesOf 12 = .ok (.getfield 7, 3) := by decide +kernel
theorem dX12_stripesOf_15 : decode cX12_stripesOf 15 = .ok (.iload_n 1, 1) := by decide +kernel
theorem dX12_stripesOf_16 : decode cX12_stripesOf 16 = .ok (.invokestatic 35, 3) := by decide +kernel
theorem dX12_stripesOf_19 : decode cX12_stripesOf 19 = .ok (.iconst 1, 1) := by decide +kernel
theorem dX12_stripesOf_20 : decode cX12_stripesOf 20 = .ok (.iadd, 1) := by decide +kernel
theorem dX12_stripesOf_21 : decode cX12_stripesOf 21 = .ok (.iaload, 1) := by decide +kernel
theorem dX12_stripesOf_22 : decode cX12_stripesOf 22 = .ok (.invokestatic 39, 3) := by decide +kernel
theorem dX12_stripesOf_25 : decode cX12_stripesOf 25 = .ok (.ireturn, 1) := by decide +kernel
theorem dX12_lengthOf_0 : decode cX12_lengthOf 0 = .ok (.iconst 0, 1) := by decide +kernel
theorem dX12_lengthOf_1 : decode cX12_lengthOf 1 = .ok (.istore_n 2, 1) := by decide +kernel
theorem dX12_lengthOf_2 : decode cX12_lengthOf 2 = .ok (.iconst 0, 1) := by decide +kernel
theorem dX12_lengthOf_3 : decode cX12_lengthOf 3 = .ok (.istore_n 3, 1) := by decide +kernel
theorem dX12_lengthOf_4 : decode cX12_lengthOf 4 = .ok (.iload_n 3, 1) := by decide +kernel
theorem dX12_lengthOf_5 : decode cX12_lengthOf 5 = .ok (.aload_n 0, 1) := by decide +kernel
theorem dX12_lengthOf_6 : decode cX12_lengthOf 6 = .ok (.getfield 7, 3) := by decide +kernel
theorem dX12_lengthOf_9 : decode cX12_lengthOf 9 = .ok (.iconst 2, 1) := by decide +kernel
theorem dX12_lengthOf_10 : decode cX12_lengthOf 10 = .ok (.iaload, 1) := by decide +kernel
theorem dX12_lengthOf_11 : decode cX12_lengthOf 11 = .ok (.if_icmp .ge 30, 3) := by decide +kernel
theorem dX12_lengthOf_14 : decode cX12_lengthOf 14 = .ok (.iload_n 2, 1) := by decide +kernel
theorem dX12_lengthOf_15 : decode cX12_lengthOf 15 = .ok (.iload_n 1, 1) := by decide +kernel
theorem dX12_lengthOf_16 : decode cX12_lengthOf 16 = .ok (.iload_n 3, 1) := by decide +kernel
theorem dX12_lengthOf_17 : decode cX12_lengthOf 17 = .ok (.ishr, 1) := by decide +kernel
theorem dX12_lengthOf_18 : decode cX12_lengthOf 18 = .ok (.iconst 1, 1) := by decide +kernel
theorem dX12_lengthOf_19 : decode cX12_lengthOf 19 = .ok (.iand, 1) := by decide +kernel
theorem dX12_lengthOf_20 : decode cX12_lengthOf 20 = .ok (.iconst 1, 1) := by decide +kernel
theorem dX12_lengthOf_21 : decode cX12_lengthOf 21 = .ok (.if_icmp .ne 11, 3) := by decide +kernel
theorem dX12_lengthOf_24 : decode cX12_lengthOf 24 = .ok (.aload_n 0, 1) := by decide +kernel
theorem dX12_lengthOf_25 : decode cX12_lengthOf 25 = .ok (.iload_n 3, 1) := by decide +kernel
theorem dX12_lengthOf_26 : decode cX12_lengthOf 26 = .ok (.invokevirtual 43, 3) := by decide +kernel
theorem dX12_lengthOf_29 : decode cX12_lengthOf 29 = .ok (.goto 4, 3) := by decide +kernel
theorem dX12_lengthOf_32 : decode cX12_lengthOf 32 = .ok (.iconst 0, 1) := by decide +kernel
theorem dX12_lengthOf_33 : decode cX12_lengthOf 33 = .ok (.iadd, 1) := by decide +kernel
theorem dX12_lengthOf_34 : decode cX12_lengthOf 34 = .ok (.istore_n 2, 1) := by decide +kernel
theorem dX12_lengthOf_35 : decode cX12_lengthOf 35 = .ok (.iinc 3 1, 3) := by decide +kernel
theorem dX12_lengthOf_38 : decode cX12_lengthOf 38 = .ok (.goto (-34), 3) := by decide +kernel
theorem dX12_lengthOf_41 : decode cX12_lengthOf 41 = .ok (.iload_n 2, 1) := by decide +kernel
theorem dX12_lengthOf_42 : decode cX12_lengthOf 42 = .ok (.ireturn, 1) := by decide +kernel
theorem dX12_isFit_0 : decode cX12_isFit 0 = .ok (.aload_n 0, 1) := by decide +kernel
theorem dX12_isFit_1 : decode cX12_isFit 1 = .ok (.bipush 63, 2) := by decide +kernel
theorem dX12_isFit_3 : decode cX12_isFit 3 = .ok (.invokevirtual 46, 3) := by decide +kernel
theorem dX12_isFit_6 : decode cX12_isFit 6 = .ok (.aload_n 0, 1) := by decide +kernel
theorem dX12_isFit_7 : decode cX12_isFit 7 = .ok (.getfield 7, 3) := by decide +kernel
theorem dX12_isFit_10 : decode cX12_isFit 10 = .ok (.iconst 1, 1) := by decide +kernel
theorem dX12_isFit_11 : decode cX12_isFit 11 = .ok (.iaload, 1) := by decide +kernel
theorem dX12_isFit_12 : decode cX12_isFit 12 = .ok (.if_icmp .gt 7, 3) := by decide +kernel
theorem dX12_isFit_15 : decode cX12_isFit 15 = .ok (.iconst 1, 1) := by decide +kernel
theorem dX12_isFit_16 : decode cX12_isFit 16 = .ok (.goto 4, 3) := by decide +kernel
theorem dX12_isFit_19 : decode cX12_isFit 19 = .ok (.iconst 0, 1) := by decide +kernel
theorem dX12_isFit_20 : decode cX12_isFit 20 = .ok (.istore_n 1, 1) := by decide +kernel
theorem dX12_isFit_21 : decode cX12_isFit 21 = .ok (.iconst 0, 1) := by decide +kernel
theorem dX12_isFit_22 : decode cX12_isFit 22 = .ok (.istore_n 2, 1) := by decide +kernel
theorem dX12_isFit_23 : decode cX12_isFit 23 = .ok (.iload_n 2, 1) := by decide +kernel
theorem dX12_isFit_24 : decode cX12_isFit 24 = .ok (.aload_n 0, 1) := by decide +kernel
theorem dX12_isFit_25 : decode cX12_isFit 25 = .ok (.getfield 7, 3) := by decide +kernel
theorem dX12_isFit_28 : decode cX12_isFit 28 = .ok (.iconst 2, 1) := by decide +kernel
theorem dX12_isFit_29 : decode cX12_isFit 29 = .ok (.iaload, 1) := by decide +kernel
theorem dX12_isFit_30 : decode cX12_isFit 30 = .ok (.if_icmp .ge 39, 3) := by decide +kernel
theorem dX12_isFit_33 : decode cX12_isFit 33 = .ok (.iload_n 1, 1) := by decide +kernel
theorem dX12_isFit_34 : decode cX12_isFit 34 = .ok (.ifCond .eq 27, 3) := by decide +kernel
theorem dX12_isFit_37 : decode cX12_isFit 37 = .ok (.aload_n 0, 1) := by decide +kernel
theorem dX12_isFit_38 : decode cX12_isFit 38 = .ok (.getfield 7, 3) := by decide +kernel
theorem dX12_isFit_41 : decode cX12_isFit 41 = .ok (.iload_n 2, 1) := by decide +kernel
theorem dX12_isFit_42 : decode cX12_isFit 42 = .ok (.invokestatic 35, 3) := by decide +kernel
theorem dX12_isFit_45 : decode cX12_isFit 45 = .ok (.iconst 1, 1) := by decide +kernel
theorem dX12_isFit_46 : decode cX12_isFit 46 = .ok (.iadd, 1) := by decide +kernel
theorem dX12_isFit_47 : decode cX12_isFit 47 = .ok (.iaload, 1) := by decide +kernel
theorem dX12_isFit_48 : decode cX12_isFit 48 = .ok (.aload_n 0, 1) := by decide +kernel
theorem dX12_isFit_49 : decode cX12_isFit 49 = .ok (.getfield 7, 3) := by decide +kernel
theorem dX12_isFit_52 : decode cX12_isFit 52 = .ok (.iconst 0, 1) := by decide +kernel
theorem dX12_isFit_53 : decode cX12_isFit 53 = .ok (.iaload, 1) := by decide +kernel
theorem dX12_isFit_54 : decode cX12_isFit 54 = .ok (.if_icmp .gt 7, 3) := by decide +kernel
theorem dX12_isFit_57 : decode cX12_isFit 57 = .ok (.iconst 1, 1) := by decide +kernel
theorem dX12_isFit_58 : decode cX12_isFit 58 = .ok (.goto 4, 3) := by decide +kernel
theorem dX12_isFit_61 : decode cX12_isFit 61 = .ok (.iconst 0, 1) := by decide +kernel
theorem dX12_isFit_62 : decode cX12_isFit 62 = .ok (.istore_n 1, 1) := by decide +kernel
theorem dX12_isFit_63 : decode cX12_isFit 63 = .ok (.iinc 2 1, 3) := by decide +kernel
theorem dX12_isFit_66 : decode cX12_isFit 66 = .ok (.goto (-43), 3) := by decide +kernel
theorem dX12_isFit_69 : decode cX12_isFit 69 = .ok (.iload_n 1, 1) := by decide +kernel
theorem dX12_isFit_70 : decode cX12_isFit 70 = .ok (.ireturn, 1) := by decide +kernel
theorem dX12_write_0 : decode cX12_write 0 = .ok (.iload_n 1, 1) := by decide +kernel
theorem dX12_write_1 : decode cX12_write 1 = .ok (.i2l, 1) := by decide +kernel
theorem dX12_write_2 : decode cX12_write 2 = .ok (.lconst 0, 1) := by decide +kernel
theorem dX12_write_3 : decode cX12_write 3 = .ok (.ldc2_w 49, 3) := by decide +kernel
theorem dX12_write_6 : decode cX12_write 6 = .ok (.invokestatic 31, 3) := by decide +kernel
theorem dX12_write_9 : decode cX12_write 9 = .ok (.ifCond .ne 6, 3) := by decide +kernel
theorem dX12_write_12 : decode cX12_write 12 = .ok (.bipush (-3), 2) := by decide +kernel
theorem dX12_write_14 : decode cX12_write 14 = .ok (.ireturn, 1) := by decide +kernel
theorem dX12_write_15 : decode cX12_write 15 = .ok (.aload_n 0, 1) := by decide +kernel
theorem dX12_write_16 : decode cX12_write 16 = .ok (.getfield 51, 3) := by decide +kernel
theorem dX12_write_19 : decode cX12_write 19 = .ok (.sipush 200, 3) := by decide +kernel
theorem dX12_write_22 : decode cX12_write 22 = .ok (.if_icmp .ne 6, 3) := by decide +kernel
theorem dX12_write_25 : decode cX12_write 25 = .ok (.bipush (-5), 2) := by decide +kernel
theorem dX12_write_27 : decode cX12_write 27 = .ok (.ireturn, 1) := by decide +kernel
theorem dX12_write_28 : decode cX12_write 28 = .ok (.aload_n 0, 1) := by decide +kernel
theorem dX12_write_29 : decode cX12_write 29 = .ok (.getfield 13, 3) := by decide +kernel
theorem dX12_write_32 : decode cX12_write 32 = .ok (.aload_n 0, 1) := by decide +kernel
theorem dX12_write_33 : decode cX12_write 33 = .ok (.getfield 51, 3) := by decide +kernel
theorem dX12_write_36 : decode cX12_write 36 = .ok (.iload_n 1, 1) := by decide +kernel
theorem dX12_write_37 : decode cX12_write 37 = .ok (.iastore, 1) := by decide +kernel
theorem dX12_write_38 : decode cX12_write 38 = .ok (.aload_n 0, 1) := by decide +kernel
theorem dX12_write_39 : decode cX12_write 39 = .ok (.dup, 1) := by decide +kernel
theorem dX12_write_40 : decode cX12_write 40 = .ok (.getfield 51, 3) := by decide +kernel
theorem dX12_write_43 : decode cX12_write 43 = .ok (.iconst 1, 1) := by decide +kernel
theorem dX12_write_44 : decode cX12_write 44 = .ok (.iadd, 1) := by decide +kernel
theorem dX12_write_45 : decode cX12_write 45 = .ok (.putfield 51, 3) := by decide +kernel
theorem dX12_write_48 : decode cX12_write 48 = .ok (.aload_n 0, 1) := by decide +kernel
theorem dX12_write_49 : decode cX12_write 49 = .ok (.getfield 51, 3) := by decide +kernel
theorem dX12_write_52 : decode cX12_write 52 = .ok (.ireturn, 1) := by decide +kernel
theorem dX12_erase_0 : decode cX12_erase 0 = .ok (.aload_n 0, 1) := by decide +kernel
theorem dX12_erase_1 : decode cX12_erase 1 = .ok (.getfield 51, 3) := by decide +kernel
theorem dX12_erase_4 : decode cX12_erase 4 = .ok (.istore_n 1, 1) := by decide +kernel
theorem dX12_erase_5 : decode cX12_erase 5 = .ok (.aload_n 0, 1) := by decide +kernel
theorem dX12_erase_6 : decode cX12_erase 6 = .ok (.iconst 0, 1) := by decide +kernel
theorem dX12_erase_7 : decode cX12_erase 7 = .ok (.putfield 51, 3) := by decide +kernel
theorem dX12_erase_10 : decode cX12_erase 10 = .ok (.iload_n 1, 1) := by decide +kernel
theorem dX12_erase_11 : decode cX12_erase 11 = .ok (.ireturn, 1) := by decide +kernel
theorem dX12_isSmall_0 : decode cX12_isSmall 0 = .ok (.iload_n 0, 1) := by decide +kernel
theorem dX12_isSmall_1 : decode cX12_isSmall 1 = .ok (.i2l, 1) := by decide +kernel
theorem dX12_isSmall_2 : decode cX12_isSmall 2 = .ok (.ldc2_w 55, 3) := by decide +kernel
theorem dX12_isSmall_5 : decode cX12_isSmall 5 = .ok (.ldc2_w 57, 3) := by decide +kernel
theorem dX12_isSmall_8 : decode cX12_isSmall 8 = .ok (.invokestatic 31, 3) := by decide +kernel
theorem dX12_isSmall_11 : decode cX12_isSmall 11 = .ok (.ireturn, 1) := by decide +kernel
theorem dX12_isDigit_0 : decode cX12_isDigit 0 = .ok (.iload_n 0, 1) := by decide +kernel
theorem dX12_isDigit_1 : decode cX12_isDigit 1 = .ok (.i2l, 1) := by decide +kernel
theorem dX12_isDigit_2 : decode cX12_isDigit 2 = .ok (.ldc2_w 59, 3) := by decide +kernel
theorem dX12_isDigit_5 : decode cX12_isDigit 5 = .ok (.ldc2_w 61, 3) := by decide +kernel
theorem dX12_isDigit_8 : decode cX12_isDigit 8 = .ok (.invokestatic 31, 3) := by decide +kernel
theorem dX12_isDigit_11 : decode cX12_isDigit 11 = .ok (.ireturn, 1) := by decide +kernel
theorem dX12_next_0 : decode cX12_next 0 = .ok (.aload_n 0, 1) := by decide +kernel
theorem dX12_next_1 : decode cX12_next 1 = .ok (.aload_n 0, 1) := by decide +kernel
theorem dX12_next_2 : decode cX12_next 2 = .ok (.getfield 63, 3) := by decide +kernel
theorem dX12_next_5 : decode cX12_next 5 = .ok (.putfield 66, 3) := by decide +kernel
theorem dX12_next_8 : decode cX12_next 8 = .ok (.aload_n 0, 1) := by decide +kernel
theorem dX12_next_9 : decode cX12_next 9 = .ok (.getfield 66, 3) := by decide +kernel
theorem dX12_next_12 : decode cX12_next 12 = .ok (.aload_n 0, 1) := by decide +kernel
theorem dX12_next_13 : decode cX12_next 13 = .ok (.getfield 51, 3) := by decide +kernel
theorem dX12_next_16 : decode cX12_next 16 = .ok (.if_icmp .ge 30, 3) := by decide +kernel
theorem dX12_next_19 : decode cX12_next 19 = .ok (.aload_n 0, 1) := by decide +kernel
theorem dX12_next_20 : decode cX12_next 20 = .ok (.getfield 13, 3) := by decide +kernel
theorem dX12_next_23 : decode cX12_next 23 = .ok (.aload_n 0, 1) := by decide +kernel
theorem dX12_next_24 : decode cX12_next 24 = .ok (.getfield 66, 3) := by decide +kernel
theorem dX12_next_27 : decode cX12_next 27 = .ok (.iaload, 1) := by decide +kernel
theorem dX12_next_28 : decode cX12_next 28 = .ok (.bipush 32, 2) := by decide +kernel
theorem dX12_next_30 : decode cX12_next 30 = .ok (.if_icmp .ne 16, 3) := by decide +kernel
theorem dX12_next_33 : decode cX12_next 33 = .ok (.aload_n 0, 1) := by decide +kernel
theorem dX12_next_34 : decode cX12_next 34 = .ok (.dup, 1) := by decide +kernel
theorem dX12_next_35 : decode cX12_next 35 = .ok (.getfield 66, 3) := by decide +kernel
theorem dX12_next_38 : decode cX12_next 38 = .ok (.iconst 1, 1) := by decide +kernel
theorem dX12_next_39 : decode cX12_next 39 = .ok (.iadd, 1) := by decide +kernel
theorem dX12_next_40 : decode cX12_next 40 = .ok (.putfield 66, 3) := by decide +kernel
theorem dX12_next_43 : decode cX12_next 43 = .ok (.goto (-35), 3) := by decide +kernel
theorem dX12_next_46 : decode cX12_next 46 = .ok (.aload_n 0, 1) := by decide +kernel
theorem dX12_next_47 : decode cX12_next 47 = .ok (.aload_n 0, 1) := by decide +kernel
theorem dX12_next_48 : decode cX12_next 48 = .ok (.getfield 66, 3) := by decide +kernel
theorem dX12_next_51 : decode cX12_next 51 = .ok (.aload_n 0, 1) := by decide +kernel
theorem dX12_next_52 : decode cX12_next 52 = .ok (.getfield 51, 3) := by decide +kernel
theorem dX12_next_55 : decode cX12_next 55 = .ok (.if_icmp .ge 12, 3) := by decide +kernel
theorem dX12_next_58 : decode cX12_next 58 = .ok (.aload_n 0, 1) := by decide +kernel
theorem dX12_next_59 : decode cX12_next 59 = .ok (.getfield 66, 3) := by decide +kernel
theorem dX12_next_62 : decode cX12_next 62 = .ok (.iconst 1, 1) := by decide +kernel
theorem dX12_next_63 : decode cX12_next 63 = .ok (.iadd, 1) := by decide +kernel
theorem dX12_next_64 : decode cX12_next 64 = .ok (.goto 7, 3) := by decide +kernel
theorem dX12_next_67 : decode cX12_next 67 = .ok (.aload_n 0, 1) := by decide +kernel
theorem dX12_next_68 : decode cX12_next 68 = .ok (.getfield 66, 3) := by decide +kernel
theorem dX12_next_71 : decode cX12_next 71 = .ok (.putfield 63, 3) := by decide +kernel
theorem dX12_next_74 : decode cX12_next 74 = .ok (.aload_n 0, 1) := by decide +kernel
theorem dX12_next_75 : decode cX12_next 75 = .ok (.getfield 66, 3) := by decide +kernel
theorem dX12_next_78 : decode cX12_next 78 = .ok (.aload_n 0, 1) := by decide +kernel
theorem dX12_next_79 : decode cX12_next 79 = .ok (.getfield 51, 3) := by decide +kernel
theorem dX12_next_82 : decode cX12_next 82 = .ok (.if_icmp .ge 22, 3) := by decide +kernel
theorem dX12_next_85 : decode cX12_next 85 = .ok (.aload_n 0, 1) := by decide +kernel
theorem dX12_next_86 : decode cX12_next 86 = .ok (.getfield 13, 3) := by decide +kernel
theorem dX12_next_89 : decode cX12_next 89 = .ok (.aload_n 0, 1) := by decide +kernel
theorem dX12_next_90 : decode cX12_next 90 = .ok (.getfield 66, 3) := by decide +kernel
theorem dX12_next_93 : decode cX12_next 93 = .ok (.iaload, 1) := by decide +kernel
theorem dX12_next_94 : decode cX12_next 94 = .ok (.invokestatic 69, 3) := by decide +kernel
theorem dX12_next_97 : decode cX12_next 97 = .ok (.ifCond .eq 7, 3) := by decide +kernel
theorem dX12_next_100 : decode cX12_next 100 = .ok (.iconst 1, 1) := by decide +kernel
theorem dX12_next_101 : decode cX12_next 101 = .ok (.goto 4, 3) := by decide +kernel
theorem dX12_next_104 : decode cX12_next 104 = .ok (.iconst 0, 1) := by decide +kernel
theorem dX12_next_105 : decode cX12_next 105 = .ok (.istore_n 1, 1) := by decide +kernel
theorem dX12_next_106 : decode cX12_next 106 = .ok (.aload_n 0, 1) := by decide +kernel
theorem dX12_next_107 : decode cX12_next 107 = .ok (.getfield 66, 3) := by decide +kernel
theorem dX12_next_110 : decode cX12_next 110 = .ok (.aload_n 0, 1) := by decide +kernel
theorem dX12_next_111 : decode cX12_next 111 = .ok (.getfield 51, 3) := by decide +kernel
theorem dX12_next_114 : decode cX12_next 114 = .ok (.if_icmp .ge 22, 3) := by decide +kernel
theorem dX12_next_117 : decode cX12_next 117 = .ok (.aload_n 0, 1) := by decide +kernel
theorem dX12_next_118 : decode cX12_next 118 = .ok (.getfield 13, 3) := by decide +kernel
theorem dX12_next_121 : decode cX12_next 121 = .ok (.aload_n 0, 1) := by decide +kernel
theorem dX12_next_122 : decode cX12_next 122 = .ok (.getfield 66, 3) := by decide +kernel
theorem dX12_next_125 : decode cX12_next 125 = .ok (.iaload, 1) := by decide +kernel
theorem dX12_next_126 : decode cX12_next 126 = .ok (.invokestatic 73, 3) := by decide +kernel
theorem dX12_next_129 : decode cX12_next 129 = .ok (.ifCond .eq 7, 3) := by decide +kernel
theorem dX12_next_132 : decode cX12_next 132 = .ok (.iconst 1, 1) := by decide +kernel
theorem dX12_next_133 : decode cX12_next 133 = .ok (.goto 4, 3) := by decide +kernel
theorem dX12_next_136 : decode cX12_next 136 = .ok (.iconst 0, 1) := by decide +kernel
theorem dX12_next_137 : decode cX12_next 137 = .ok (.istore_n 2, 1) := by decide +kernel
theorem dX12_next_138 : decode cX12_next 138 = .ok (.aload_n 0, 1) := by decide +kernel
theorem dX12_next_139 : decode cX12_next 139 = .ok (.getfield 63, 3) := by decide +kernel
theorem dX12_next_142 : decode cX12_next 142 = .ok (.aload_n 0, 1) := by decide +kernel
theorem dX12_next_143 : decode cX12_next 143 = .ok (.getfield 51, 3) := by decide +kernel
theorem dX12_next_146 : decode cX12_next 146 = .ok (.if_icmp .ge 54, 3) := by decide +kernel
theorem dX12_next_149 : decode cX12_next 149 = .ok (.iload_n 1, 1) := by decide +kernel
theorem dX12_next_150 : decode cX12_next 150 = .ok (.ifCond .eq 18, 3) := by decide +kernel
theorem dX12_next_153 : decode cX12_next 153 = .ok (.aload_n 0, 1) := by decide +kernel
theorem dX12_next_154 : decode cX12_next 154 = .ok (.getfield 13, 3) := by decide +kernel
theorem dX12_next_157 : decode cX12_next 157 = .ok (.aload_n 0, 1) := by decide +kernel
theorem dX12_next_158 : decode cX12_next 158 = .ok (.getfield 63, 3) := by decide +kernel
theorem dX12_next_161 : decode cX12_next 161 = .ok (.iaload, 1) := by decide +kernel
theorem dX12_next_162 : decode cX12_next 162 = .ok (.invokestatic 69, 3) := by decide +kernel
theorem dX12_next_165 : decode cX12_next 165 = .ok (.ifCond .ne 22, 3) := by decide +kernel
theorem dX12_next_168 : decode cX12_next 168 = .ok (.iload_n 2, 1) := by decide +kernel
theorem dX12_next_169 : decode cX12_next 169 = .ok (.ifCond .eq 31, 3) := by decide +kernel
theorem dX12_next_172 : decode cX12_next 172 = .ok (.aload_n 0, 1) := by decide +kernel
theorem dX12_next_173 : decode cX12_next 173 = .ok (.getfield 13, 3) := by decide +kernel
theorem dX12_next_176 : decode cX12_next 176 = .ok (.aload_n 0, 1) := by decide +kernel
theorem dX12_next_177 : decode cX12_next 177 = .ok (.getfield 63, 3) := by decide +kernel
theorem dX12_next_180 : decode cX12_next 180 = .ok (.iaload, 1) := by decide +kernel
theorem dX12_next_181 : decode cX12_next 181 = .ok (.invokestatic 73, 3) := by decide +kernel
theorem dX12_next_184 : decode cX12_next 184 = .ok (.ifCond .eq 16, 3) := by decide +kernel
theorem dX12_next_187 : decode cX12_next 187 = .ok (.aload_n 0, 1) := by decide +kernel
theorem dX12_next_188 : decode cX12_next 188 = .ok (.dup, 1) := by decide +kernel
theorem dX12_next_189 : decode cX12_next 189 = .ok (.getfield 63, 3) := by decide +kernel
theorem dX12_next_192 : decode cX12_next 192 = .ok (.iconst 1, 1) := by decide +kernel
theorem dX12_next_193 : decode cX12_next 193 = .ok (.iadd, 1) := by decide +kernel
theorem dX12_next_194 : decode cX12_next 194 = .ok (.putfield 63, 3) := by decide +kernel
theorem dX12_next_197 : decode cX12_next 197 = .ok (.goto (-59), 3) := by decide +kernel
theorem dX12_next_200 : decode cX12_next 200 = .ok (.return_, 1) := by decide +kernel
theorem dX12_wordHere_0 : decode cX12_wordHere 0 = .ok (.iconst 0, 1) := by decide +kernel
theorem dX12_wordHere_1 : decode cX12_wordHere 1 = .ok (.istore_n 1, 1) := by decide +kernel
theorem dX12_wordHere_2 : decode cX12_wordHere 2 = .ok (.iload_n 1, 1) := by decide +kernel
theorem dX12_wordHere_3 : decode cX12_wordHere 3 = .ok (.iconst 4, 1) := by decide +kernel
theorem dX12_wordHere_4 : decode cX12_wordHere 4 = .ok (.if_icmp .ge 112, 3) := by decide +kernel
theorem dX12_wordHere_7 : decode cX12_wordHere 7 = .ok (.aload_n 0, 1) := by decide +kernel
theorem dX12_wordHere_8 : decode cX12_wordHere 8 = .ok (.getfield 63, 3) := by decide +kernel
theorem dX12_wordHere_11 : decode cX12_wordHere 11 = .ok (.aload_n 0, 1) := by decide +kernel
theorem dX12_wordHere_12 : decode cX12_wordHere 12 = .ok (.getfield 66, 3) := by decide +kernel
theorem dX12_wordHere_15 : decode cX12_wordHere 15 = .ok (.if_icmp .le 21, 3) := by decide +kernel
theorem dX12_wordHere_18 : decode cX12_wordHere 18 = .ok (.aload_n 0, 1) := by decide +kernel
theorem dX12_wordHere_19 : decode cX12_wordHere 19 = .ok (.getfield 63, 3) := by decide +kernel
theorem dX12_wordHere_22 : decode cX12_wordHere 22 = .ok (.aload_n 0, 1) := by decide +kernel
theorem dX12_wordHere_23 : decode cX12_wordHere 23 = .ok (.getfield 66, 3) := by decide +kernel
theorem dX12_wordHere_26 : decode cX12_wordHere 26 = .ok (.isub, 1) := by decide +kernel
theorem dX12_wordHere_27 : decode cX12_wordHere 27 = .ok (.bipush 8, 2) := by decide +kernel
theorem dX12_wordHere_29 : decode cX12_wordHere 29 = .ok (.if_icmp .ge 7, 3) := by decide +kernel
theorem dX12_wordHere_32 : decode cX12_wordHere 32 = .ok (.iconst 1, 1) := by decide +kernel
theorem dX12_wordHere_33 : decode cX12_wordHere 33 = .ok (.goto 4, 3) := by decide +kernel
theorem dX12_wordHere_36 : decode cX12_wordHere 36 = .ok (.iconst 0, 1) := by decide +kernel
theorem dX12_wordHere_37 : decode cX12_wordHere 37 = .ok (.istore_n 2, 1) := by decide +kernel
theorem dX12_wordHere_38 : decode cX12_wordHere 38 = .ok (.iconst 0, 1) := by decide +kernel
theorem dX12_wordHere_39 : decode cX12_wordHere 39 = .ok (.istore_n 3, 1) := by decide +kernel
theorem dX12_wordHere_40 : decode cX12_wordHere 40 = .ok (.iload_n 3, 1) := by decide +kernel
theorem dX12_wordHere_41 : decode cX12_wordHere 41 = .ok (.bipush 7, 2) := by decide +kernel
theorem dX12_wordHere_43 : decode cX12_wordHere 43 = .ok (.if_icmp .ge 61, 3) := by decide +kernel
theorem dX12_wordHere_46 : decode cX12_wordHere 46 = .ok (.iload_n 2, 1) := by decide +kernel
theorem dX12_wordHere_47 : decode cX12_wordHere 47 = .ok (.ifCond .eq 57, 3) := by decide +kernel
theorem dX12_wordHere_50 : decode cX12_wordHere 50 = .ok (.aload_n 0, 1) := by decide +kernel
theorem dX12_wordHere_51 : decode cX12_wordHere 51 = .ok (.getfield 19, 3) := by decide +kernel
theorem dX12_wordHere_54 : decode cX12_wordHere 54 = .ok (.bipush 7, 2) := by decide +kernel
theorem dX12_wordHere_56 : decode cX12_wordHere 56 = .ok (.iload_n 1, 1) := by decide +kernel
theorem dX12_wordHere_57 : decode cX12_wordHere 57 = .ok (.imul, 1) := by decide +kernel
theorem dX12_wordHere_58 : decode cX12_wordHere 58 = .ok (.iload_n 3, 1) := by decide +kernel
theorem dX12_wordHere_59 : decode cX12_wordHere 59 = .ok (.iadd, 1) := by decide +kernel
theorem dX12_wordHere_60 : decode cX12_wordHere 60 = .ok (.iaload, 1) := by decide +kernel
theorem dX12_wordHere_61 : decode cX12_wordHere 61 = .ok (.aload_n 0, 1) := by decide +kernel
theorem dX12_wordHere_62 : decode cX12_wordHere 62 = .ok (.getfield 66, 3) := by decide +kernel
theorem dX12_wordHere_65 : decode cX12_wordHere 65 = .ok (.iload_n 3, 1) := by decide +kernel
theorem dX12_wordHere_66 : decode cX12_wordHere 66 = .ok (.iadd, 1) := by decide +kernel
theorem dX12_wordHere_67 : decode cX12_wordHere 67 = .ok (.aload_n 0, 1) := by decide +kernel
theorem dX12_wordHere_68 : decode cX12_wordHere 68 = .ok (.getfield 63, 3) := by decide +kernel
theorem dX12_wordHere_71 : decode cX12_wordHere 71 = .ok (.if_icmp .ge 17, 3) := by decide +kernel
theorem dX12_wordHere_74 : decode cX12_wordHere 74 = .ok (.aload_n 0, 1) := by decide +kernel
theorem dX12_wordHere_75 : decode cX12_wordHere 75 = .ok (.getfield 13, 3) := by decide +kernel
theorem dX12_wordHere_78 : decode cX12_wordHere 78 = .ok (.aload_n 0, 1) := by decide +kernel
theorem dX12_wordHere_79 : decode cX12_wordHere 79 = .ok (.getfield 66, 3) := by decide +kernel
theorem dX12_wordHere_82 : decode cX12_wordHere 82 = .ok (.iload_n 3, 1) := by decide +kernel
theorem dX12_wordHere_83 : decode cX12_wordHere 83 = .ok (.iadd, 1) := by decide +kernel
theorem dX12_wordHere_84 : decode cX12_wordHere 84 = .ok (.iaload, 1) := by decide +kernel
theorem dX12_wordHere_85 : decode cX12_wordHere 85 = .ok (.goto 4, 3) := by decide +kernel
theorem dX12_wordHere_88 : decode cX12_wordHere 88 = .ok (.iconst 0, 1) := by decide +kernel
theorem dX12_wordHere_89 : decode cX12_wordHere 89 = .ok (.if_icmp .ne 7, 3) := by decide +kernel
theorem dX12_wordHere_92 : decode cX12_wordHere 92 = .ok (.iconst 1, 1) := by decide +kernel
theorem dX12_wordHere_93 : decode cX12_wordHere 93 = .ok (.goto 4, 3) := by decide +kernel
theorem dX12_wordHere_96 : decode cX12_wordHere 96 = .ok (.iconst 0, 1) := by decide +kernel
theorem dX12_wordHere_97 : decode cX12_wordHere 97 = .ok (.istore_n 2, 1) := by decide +kernel
theorem dX12_wordHere_98 : decode cX12_wordHere 98 = .ok (.iinc 3 1, 3) := by decide +kernel
theorem dX12_wordHere_101 : decode cX12_wordHere 101 = .ok (.goto (-61), 3) := by decide +kernel
theorem dX12_wordHere_104 : decode cX12_wordHere 104 = .ok (.iload_n 2, 1) := by decide +kernel
theorem dX12_wordHere_105 : decode cX12_wordHere 105 = .ok (.ifCond .eq 5, 3) := by decide +kernel
theorem dX12_wordHere_108 : decode cX12_wordHere 108 = .ok (.iload_n 1, 1) := by decide +kernel
theorem dX12_wordHere_109 : decode cX12_wordHere 109 = .ok (.ireturn, 1) := by decide +kernel
theorem dX12_wordHere_110 : decode cX12_wordHere 110 = .ok (.iinc 1 1, 3) := by decide +kernel
theorem dX12_wordHere_113 : decode cX12_wordHere 113 = .ok (.goto (-111), 3) := by decide +kernel
theorem dX12_wordHere_116 : decode cX12_wordHere 116 = .ok (.iconst (-1), 1) := by decide +kernel
theorem dX12_wordHere_117 : decode cX12_wordHere 117 = .ok (.ireturn, 1) := by decide +kernel
theorem dX12_reads_0 : decode cX12_reads 0 = .ok (.aload_n 0, 1) := by decide +kernel
theorem dX12_reads_1 : decode cX12_reads 1 = .ok (.getfield 66, 3) := by decide +kernel
theorem dX12_reads_4 : decode cX12_reads 4 = .ok (.aload_n 0, 1) := by decide +kernel
theorem dX12_reads_5 : decode cX12_reads 5 = .ok (.getfield 51, 3) := by decide +kernel
theorem dX12_reads_8 : decode cX12_reads 8 = .ok (.if_icmp .eq 31, 3) := by decide +kernel
theorem dX12_reads_11 : decode cX12_reads 11 = .ok (.aload_n 0, 1) := by decide +kernel
theorem dX12_reads_12 : decode cX12_reads 12 = .ok (.getfield 13, 3) := by decide +kernel
theorem dX12_reads_15 : decode cX12_reads 15 = .ok (.aload_n 0, 1) := by decide +kernel
theorem dX12_reads_16 : decode cX12_reads 16 = .ok (.getfield 66, 3) := by decide +kernel
theorem dX12_reads_19 : decode cX12_reads 19 = .ok (.iaload, 1) := by decide +kernel
theorem dX12_reads_20 : decode cX12_reads 20 = .ok (.invokestatic 73, 3) := by decide +kernel
theorem dX12_reads_23 : decode cX12_reads 23 = .ok (.ifCond .eq 16, 3) := by decide +kernel
theorem dX12_reads_26 : decode cX12_reads 26 = .ok (.aload_n 0, 1) := by decide +kernel
theorem dX12_reads_27 : decode cX12_reads 27 = .ok (.getfield 63, 3) := by decide +kernel
theorem dX12_reads_30 : decode cX12_reads 30 = .ok (.aload_n 0, 1) := by decide +kernel
theorem dX12_reads_31 : decode cX12_reads 31 = .ok (.getfield 66, 3) := by decide +kernel
theorem dX12_reads_34 : decode cX12_reads 34 = .ok (.isub, 1) := by decide +kernel
theorem dX12_reads_35 : decode cX12_reads 35 = .ok (.iconst 2, 1) := by decide +kernel
theorem dX12_reads_36 : decode cX12_reads 36 = .ok (.if_icmp .le 5, 3) := by decide +kernel
theorem dX12_reads_39 : decode cX12_reads 39 = .ok (.iconst 0, 1) := by decide +kernel
theorem dX12_reads_40 : decode cX12_reads 40 = .ok (.ireturn, 1) := by decide +kernel
theorem dX12_reads_41 : decode cX12_reads 41 = .ok (.iconst 0, 1) := by decide +kernel
theorem dX12_reads_42 : decode cX12_reads 42 = .ok (.istore 4, 2) := by decide +kernel
theorem dX12_reads_44 : decode cX12_reads 44 = .ok (.aload_n 0, 1) := by decide +kernel
theorem dX12_reads_45 : decode cX12_reads 45 = .ok (.getfield 66, 3) := by decide +kernel
theorem dX12_reads_48 : decode cX12_reads 48 = .ok (.istore 5, 2) := by decide +kernel
theorem dX12_reads_50 : decode cX12_reads 50 = .ok (.iload 5, 2) := by decide +kernel
theorem dX12_reads_52 : decode cX12_reads 52 = .ok (.aload_n 0, 1) := by decide +kernel
theorem dX12_reads_53 : decode cX12_reads 53 = .ok (.getfield 63, 3) := by decide +kernel
theorem dX12_reads_56 : decode cX12_reads 56 = .ok (.if_icmp .ge 27, 3) := by decide +kernel
theorem dX12_reads_59 : decode cX12_reads 59 = .ok (.bipush 10, 2) := by decide +kernel
theorem dX12_reads_61 : decode cX12_reads 61 = .ok (.iload 4, 2) := by decide +kernel
theorem dX12_reads_63 : decode cX12_reads 63 = .ok (.imul, 1) := by decide +kernel
theorem dX12_reads_64 : decode cX12_reads 64 = .ok (.aload_n 0, 1) := by decide +kernel
theorem dX12_reads_65 : decode cX12_reads 65 = .ok (.getfield 13, 3) := by decide +kernel
theorem dX12_reads_68 : decode cX12_reads 68 = .ok (.iload 5, 2) := by decide +kernel
theorem dX12_reads_70 : decode cX12_reads 70 = .ok (.iaload, 1) := by decide +kernel
theorem dX12_reads_71 : decode cX12_reads 71 = .ok (.iadd, 1) := by decide +kernel
theorem dX12_reads_72 : decode cX12_reads 72 = .ok (.bipush 48, 2) := by decide +kernel
theorem dX12_reads_74 : decode cX12_reads 74 = .ok (.isub, 1) := by decide +kernel
theorem dX12_reads_75 : decode cX12_reads 75 = .ok (.istore 4, 2) := by decide +kernel
theorem dX12_reads_77 : decode cX12_reads 77 = .ok (.iinc 5 1, 3) := by decide +kernel
theorem dX12_reads_80 : decode cX12_reads 80 = .ok (.goto (-30), 3) := by decide +kernel
theorem dX12_reads_83 : decode cX12_reads 83 = .ok (.iload 4, 2) := by decide +kernel
theorem dX12_reads_85 : decode cX12_reads 85 = .ok (.i2l, 1) := by decide +kernel
theorem dX12_reads_86 : decode cX12_reads 86 = .ok (.iload_n 2, 1) := by decide +kernel
theorem dX12_reads_87 : decode cX12_reads 87 = .ok (.i2l, 1) := by decide +kernel
theorem dX12_reads_88 : decode cX12_reads 88 = .ok (.iload_n 3, 1) := by decide +kernel
theorem dX12_reads_89 : decode cX12_reads 89 = .ok (.i2l, 1) := by decide +kernel
theorem dX12_reads_90 : decode cX12_reads 90 = .ok (.invokestatic 31, 3) := by decide +kernel
theorem dX12_reads_93 : decode cX12_reads 93 = .ok (.ifCond .ne 5, 3) := by decide +kernel
theorem dX12_reads_96 : decode cX12_reads 96 = .ok (.iconst 0, 1) := by decide +kernel
theorem dX12_reads_97 : decode cX12_reads 97 = .ok (.ireturn, 1) := by decide +kernel
theorem dX12_reads_98 : decode cX12_reads 98 = .ok (.aload_n 0, 1) := by decide +kernel
theorem dX12_reads_99 : decode cX12_reads 99 = .ok (.getfield 16, 3) := by decide +kernel
theorem dX12_reads_102 : decode cX12_reads 102 = .ok (.iload_n 1, 1) := by decide +kernel
theorem dX12_reads_103 : decode cX12_reads 103 = .ok (.iload 4, 2) := by decide +kernel
theorem dX12_reads_105 : decode cX12_reads 105 = .ok (.iastore, 1) := by decide +kernel
theorem dX12_reads_106 : decode cX12_reads 106 = .ok (.aload_n 0, 1) := by decide +kernel
theorem dX12_reads_107 : decode cX12_reads 107 = .ok (.invokevirtual 76, 3) := by decide +kernel
theorem dX12_reads_110 : decode cX12_reads 110 = .ok (.iconst 1, 1) := by decide +kernel
theorem dX12_reads_111 : decode cX12_reads 111 = .ok (.ireturn, 1) := by decide +kernel
theorem dX12_readsPart_0 : decode cX12_readsPart 0 = .ok (.aload_n 0, 1) := by decide +kernel
theorem dX12_readsPart_1 : decode cX12_readsPart 1 = .ok (.getfield 66, 3) := by decide +kernel
theorem dX12_readsPart_4 : decode cX12_readsPart 4 = .ok (.aload_n 0, 1) := by decide +kernel
theorem dX12_readsPart_5 : decode cX12_readsPart 5 = .ok (.getfield 51, 3) := by decide +kernel
theorem dX12_readsPart_8 : decode cX12_readsPart 8 = .ok (.if_icmp .eq 32, 3) := by decide +kernel
theorem dX12_readsPart_11 : decode cX12_readsPart 11 = .ok (.aload_n 0, 1) := by decide +kernel
theorem dX12_readsPart_12 : decode cX12_readsPart 12 = .ok (.getfield 13, 3) := by decide +kernel
theorem dX12_readsPart_15 : decode cX12_readsPart 15 = .ok (.aload_n 0, 1) := by decide +kernel
theorem dX12_readsPart_16 : decode cX12_readsPart 16 = .ok (.getfield 66, 3) := by decide +kernel
theorem dX12_readsPart_19 : decode cX12_readsPart 19 = .ok (.iaload, 1) := by decide +kernel
theorem dX12_readsPart_20 : decode cX12_readsPart 20 = .ok (.invokestatic 69, 3) := by decide +kernel
theorem dX12_readsPart_23 : decode cX12_readsPart 23 = .ok (.ifCond .eq 17, 3) := by decide +kernel
theorem dX12_readsPart_26 : decode cX12_readsPart 26 = .ok (.aload_n 0, 1) := by decide +kernel
theorem dX12_readsPart_27 : decode cX12_readsPart 27 = .ok (.getfield 63, 3) := by decide +kernel
theorem dX12_readsPart_30 : decode cX12_readsPart 30 = .ok (.aload_n 0, 1) := by decide +kernel
theorem dX12_readsPart_31 : decode cX12_readsPart 31 = .ok (.getfield 66, 3) := by decide +kernel
theorem dX12_readsPart_34 : decode cX12_readsPart 34 = .ok (.isub, 1) := by decide +kernel
theorem dX12_readsPart_35 : decode cX12_readsPart 35 = .ok (.bipush 12, 2) := by decide +kernel
theorem dX12_readsPart_37 : decode cX12_readsPart 37 = .ok (.if_icmp .le 5, 3) := by decide +kernel
theorem dX12_readsPart_40 : decode cX12_readsPart 40 = .ok (.iconst 0, 1) := by decide +kernel
theorem dX12_readsPart_41 : decode cX12_readsPart 41 = .ok (.ireturn, 1) := by decide +kernel
theorem dX12_readsPart_42 : decode cX12_readsPart 42 = .ok (.aload_n 0, 1) := by decide +kernel
theorem dX12_readsPart_43 : decode cX12_readsPart 43 = .ok (.getfield 66, 3) := by decide +kernel
theorem dX12_readsPart_46 : decode cX12_readsPart 46 = .ok (.istore_n 1, 1) := by decide +kernel
theorem dX12_readsPart_47 : decode cX12_readsPart 47 = .ok (.aload_n 0, 1) := by decide +kernel
theorem dX12_readsPart_48 : decode cX12_readsPart 48 = .ok (.getfield 63, 3) := by decide +kernel
theorem dX12_readsPart_51 : decode cX12_readsPart 51 = .ok (.aload_n 0, 1) := by decide +kernel
theorem dX12_readsPart_52 : decode cX12_readsPart 52 = .ok (.getfield 66, 3) := by decide +kernel
theorem dX12_readsPart_55 : decode cX12_readsPart 55 = .ok (.isub, 1) := by decide +kernel
theorem dX12_readsPart_56 : decode cX12_readsPart 56 = .ok (.istore_n 2, 1) := by decide +kernel
theorem dX12_readsPart_57 : decode cX12_readsPart 57 = .ok (.aload_n 0, 1) := by decide +kernel
theorem dX12_readsPart_58 : decode cX12_readsPart 58 = .ok (.invokevirtual 76, 3) := by decide +kernel
theorem dX12_readsPart_61 : decode cX12_readsPart 61 = .ok (.aload_n 0, 1) := by decide +kernel
theorem dX12_readsPart_62 : decode cX12_readsPart 62 = .ok (.iconst 0, 1) := by decide +kernel
theorem dX12_readsPart_63 : decode cX12_readsPart 63 = .ok (.iconst 1, 1) := by decide +kernel
theorem dX12_readsPart_64 : decode cX12_readsPart 64 = .ok (.bipush 8, 2) := by decide +kernel
theorem dX12_readsPart_66 : decode cX12_readsPart 66 = .ok (.invokevirtual 79, 3) := by decide +kernel
theorem dX12_readsPart_69 : decode cX12_readsPart 69 = .ok (.ifCond .eq 14, 3) := by decide +kernel
theorem dX12_readsPart_72 : decode cX12_readsPart 72 = .ok (.aload_n 0, 1) := by decide +kernel
theorem dX12_readsPart_73 : decode cX12_readsPart 73 = .ok (.iconst 1, 1) := by decide +kernel
theorem dX12_readsPart_74 : decode cX12_readsPart 74 = .ok (.iconst 1, 1) := by decide +kernel
theorem dX12_readsPart_75 : decode cX12_readsPart 75 = .ok (.bipush 9, 2) := by decide +kernel
theorem dX12_readsPart_77 : decode cX12_readsPart 77 = .ok (.invokevirtual 79, 3) := by decide +kernel
theorem dX12_readsPart_80 : decode cX12_readsPart 80 = .ok (.ifCond .ne 5, 3) := by decide +kernel
theorem dX12_readsPart_83 : decode cX12_readsPart 83 = .ok (.iconst 0, 1) := by decide +kernel
theorem dX12_readsPart_84 : decode cX12_readsPart 84 = .ok (.ireturn, 1) := by decide +kernel
theorem dX12_readsPart_85 : decode cX12_readsPart 85 = .ok (.aload_n 0, 1) := by decide +kernel
theorem dX12_readsPart_86 : decode cX12_readsPart 86 = .ok (.dup, 1) := by decide +kernel
theorem dX12_readsPart_87 : decode cX12_readsPart 87 = .ok (.getfield 83, 3) := by decide +kernel
theorem dX12_readsPart_90 : decode cX12_readsPart 90 = .ok (.iconst 1, 1) := by decide +kernel
theorem dX12_readsPart_91 : decode cX12_readsPart 91 = .ok (.iadd, 1) := by decide +kernel
theorem dX12_readsPart_92 : decode cX12_readsPart 92 = .ok (.putfield 83, 3) := by decide +kernel
theorem dX12_readsPart_95 : decode cX12_readsPart 95 = .ok (.aload_n 0, 1) := by decide +kernel
theorem dX12_readsPart_96 : decode cX12_readsPart 96 = .ok (.getfield 86, 3) := by decide +kernel
theorem dX12_readsPart_99 : decode cX12_readsPart 99 = .ok (.ifCond .eq 98, 3) := by decide +kernel
theorem dX12_readsPart_102 : decode cX12_readsPart 102 = .ok (.aload_n 0, 1) := by decide +kernel
theorem dX12_readsPart_103 : decode cX12_readsPart 103 = .ok (.getfield 7, 3) := by decide +kernel
theorem dX12_readsPart_106 : decode cX12_readsPart 106 = .ok (.iconst 2, 1) := by decide +kernel
theorem dX12_readsPart_107 : decode cX12_readsPart 107 = .ok (.iaload, 1) := by decide +kernel
theorem dX12_readsPart_108 : decode cX12_readsPart 108 = .ok (.invokestatic 35, 3) := by decide +kernel
theorem dX12_readsPart_111 : decode cX12_readsPart 111 = .ok (.istore_n 3, 1) := by decide +kernel
theorem dX12_readsPart_112 : decode cX12_readsPart 112 = .ok (.aload_n 0, 1) := by decide +kernel
theorem dX12_readsPart_113 : decode cX12_readsPart 113 = .ok (.getfield 7, 3) := by decide +kernel
theorem dX12_readsPart_116 : decode cX12_readsPart 116 = .ok (.iconst 2, 1) := by decide +kernel
theorem dX12_readsPart_117 : decode cX12_readsPart 117 = .ok (.dup2, 1) := by decide +kernel
theorem dX12_readsPart_118 : decode cX12_readsPart 118 = .ok (.iaload, 1) := by decide +kernel
theorem dX12_readsPart_119 : decode cX12_readsPart 119 = .ok (.iconst 1, 1) := by decide +kernel
theorem dX12_readsPart_120 : decode cX12_readsPart 120 = .ok (.iadd, 1) := by decide +kernel
theorem dX12_readsPart_121 : decode cX12_readsPart 121 = .ok (.iastore, 1) := by decide +kernel
theorem dX12_readsPart_122 : decode cX12_readsPart 122 = .ok (.aload_n 0, 1) := by decide +kernel
theorem dX12_readsPart_123 : decode cX12_readsPart 123 = .ok (.getfield 7, 3) := by decide +kernel
theorem dX12_readsPart_126 : decode cX12_readsPart 126 = .ok (.iload_n 3, 1) := by decide +kernel
theorem dX12_readsPart_127 : decode cX12_readsPart 127 = .ok (.iconst 0, 1) := by decide +kernel
theorem dX12_readsPart_128 : decode cX12_readsPart 128 = .ok (.iadd, 1) := by decide +kernel
theorem dX12_readsPart_129 : decode cX12_readsPart 129 = .ok (.iload_n 2, 1) := by decide +kernel
theorem dX12_readsPart_130 : decode cX12_readsPart 130 = .ok (.iastore, 1) := by decide +kernel
theorem dX12_readsPart_131 : decode cX12_readsPart 131 = .ok (.aload_n 0, 1) := by decide +kernel
theorem dX12_readsPart_132 : decode cX12_readsPart 132 = .ok (.getfield 7, 3) := by decide +kernel
theorem dX12_readsPart_135 : decode cX12_readsPart 135 = .ok (.iload_n 3, 1) := by decide +kernel
theorem dX12_readsPart_136 : decode cX12_readsPart 136 = .ok (.iconst 1, 1) := by decide +kernel
theorem dX12_readsPart_137 : decode cX12_readsPart 137 = .ok (.iadd, 1) := by decide +kernel
theorem dX12_readsPart_138 : decode cX12_readsPart 138 = .ok (.aload_n 0, 1) := by decide +kernel
theorem dX12_readsPart_139 : decode cX12_readsPart 139 = .ok (.getfield 16, 3) := by decide +kernel
theorem dX12_readsPart_142 : decode cX12_readsPart 142 = .ok (.iconst 0, 1) := by decide +kernel
theorem dX12_readsPart_143 : decode cX12_readsPart 143 = .ok (.iaload, 1) := by decide +kernel
theorem dX12_readsPart_144 : decode cX12_readsPart 144 = .ok (.iastore, 1) := by decide +kernel
theorem dX12_readsPart_145 : decode cX12_readsPart 145 = .ok (.aload_n 0, 1) := by decide +kernel
theorem dX12_readsPart_146 : decode cX12_readsPart 146 = .ok (.getfield 7, 3) := by decide +kernel
theorem dX12_readsPart_149 : decode cX12_readsPart 149 = .ok (.iload_n 3, 1) := by decide +kernel
theorem dX12_readsPart_150 : decode cX12_readsPart 150 = .ok (.iconst 2, 1) := by decide +kernel
theorem dX12_readsPart_151 : decode cX12_readsPart 151 = .ok (.iadd, 1) := by decide +kernel
theorem dX12_readsPart_152 : decode cX12_readsPart 152 = .ok (.aload_n 0, 1) := by decide +kernel
theorem dX12_readsPart_153 : decode cX12_readsPart 153 = .ok (.getfield 16, 3) := by decide +kernel
theorem dX12_readsPart_156 : decode cX12_readsPart 156 = .ok (.iconst 1, 1) := by decide +kernel
theorem dX12_readsPart_157 : decode cX12_readsPart 157 = .ok (.iaload, 1) := by decide +kernel
theorem dX12_readsPart_158 : decode cX12_readsPart 158 = .ok (.iastore, 1) := by decide +kernel
theorem dX12_readsPart_159 : decode cX12_readsPart 159 = .ok (.iconst 0, 1) := by decide +kernel
theorem dX12_readsPart_160 : decode cX12_readsPart 160 = .ok (.istore 4, 2) := by decide +kernel
theorem dX12_readsPart_162 : decode cX12_readsPart 162 = .ok (.iload 4, 2) := by decide +kernel
theorem dX12_readsPart_164 : decode cX12_readsPart 164 = .ok (.iload_n 2, 1) := by decide +kernel
theorem dX12_readsPart_165 : decode cX12_readsPart 165 = .ok (.if_icmp .ge 32, 3) := by decide +kernel
theorem dX12_readsPart_168 : decode cX12_readsPart 168 = .ok (.aload_n 0, 1) := by decide +kernel
theorem dX12_readsPart_169 : decode cX12_readsPart 169 = .ok (.getfield 7, 3) := by decide +kernel
theorem dX12_readsPart_172 : decode cX12_readsPart 172 = .ok (.iload_n 3, 1) := by decide +kernel
theorem dX12_readsPart_173 : decode cX12_readsPart 173 = .ok (.iconst 3, 1) := by decide +kernel
theorem dX12_readsPart_174 : decode cX12_readsPart 174 = .ok (.iadd, 1) := by decide +kernel
theorem dX12_readsPart_175 : decode cX12_readsPart 175 = .ok (.iload 4, 2) := by decide +kernel
theorem dX12_readsPart_177 : decode cX12_readsPart 177 = .ok (.iadd, 1) := by decide +kernel
theorem dX12_readsPart_178 : decode cX12_readsPart 178 = .ok (.aload_n 0, 1) := by decide +kernel
theorem dX12_readsPart_179 : decode cX12_readsPart 179 = .ok (.getfield 13, 3) := by decide +kernel
theorem dX12_readsPart_182 : decode cX12_readsPart 182 = .ok (.iload_n 1, 1) := by decide +kernel
theorem dX12_readsPart_183 : decode cX12_readsPart 183 = .ok (.iload 4, 2) := by decide +kernel
theorem dX12_readsPart_185 : decode cX12_readsPart 185 = .ok (.iadd, 1) := by decide +kernel
theorem dX12_readsPart_186 : decode cX12_readsPart 186 = .ok (.iaload, 1) := by decide +kernel
theorem dX12_readsPart_187 : decode cX12_readsPart 187 = .ok (.bipush 97, 2) := by decide +kernel
theorem dX12_readsPart_189 : decode cX12_readsPart 189 = .ok (.isub, 1) := by decide +kernel
theorem dX12_readsPart_190 : decode cX12_readsPart 190 = .ok (.iastore, 1) := by decide +kernel
theorem dX12_readsPart_191 : decode cX12_readsPart 191 = .ok (.iinc 4 1, 3) := by decide +kernel
theorem dX12_readsPart_194 : decode cX12_readsPart 194 = .ok (.goto (-32), 3) := by decide +kernel
theorem dX12_readsPart_197 : decode cX12_readsPart 197 = .ok (.iconst 1, 1) := by decide +kernel
theorem dX12_readsPart_198 : decode cX12_readsPart 198 = .ok (.ireturn, 1) := by decide +kernel
theorem dX12_readsClause_0 : decode cX12_readsClause 0 = .ok (.aload_n 0, 1) := by decide +kernel
theorem dX12_readsClause_1 : decode cX12_readsClause 1 = .ok (.invokevirtual 90, 3) := by decide +kernel
theorem dX12_readsClause_4 : decode cX12_readsClause 4 = .ok (.istore_n 1, 1) := by decide +kernel
theorem dX12_readsClause_5 : decode cX12_readsClause 5 = .ok (.iload_n 1, 1) := by decide +kernel
theorem dX12_readsClause_6 : decode cX12_readsClause 6 = .ok (.iconst (-1), 1) := by decide +kernel
theorem dX12_readsClause_7 : decode cX12_readsClause 7 = .ok (.if_icmp .eq 17, 3) := by decide +kernel
theorem dX12_readsClause_10 : decode cX12_readsClause 10 = .ok (.iload_n 1, 1) := by decide +kernel
theorem dX12_readsClause_11 : decode cX12_readsClause 11 = .ok (.iconst 3, 1) := by decide +kernel
theorem dX12_readsClause_12 : decode cX12_readsClause 12 = .ok (.if_icmp .ne 14, 3) := by decide +kernel
theorem dX12_readsClause_15 : decode cX12_readsClause 15 = .ok (.aload_n 0, 1) := by decide +kernel
theorem dX12_readsClause_16 : decode cX12_readsClause 16 = .ok (.getfield 83, 3) := by decide +kernel
theorem dX12_readsClause_19 : decode cX12_readsClause 19 = .ok (.bipush 6, 2) := by decide +kernel
theorem dX12_readsClause_21 : decode cX12_readsClause 21 = .ok (.if_icmp .ne 5, 3) := by decide +kernel
theorem dX12_readsClause_24 : decode cX12_readsClause 24 = .ok (.iconst 0, 1) := by decide +kernel
theorem dX12_readsClause_25 : decode cX12_readsClause 25 = .ok (.ireturn, 1) := by decide +kernel
theorem dX12_readsClause_26 : decode cX12_readsClause 26 = .ok (.aload_n 0, 1) := by decide +kernel
theorem dX12_readsClause_27 : decode cX12_readsClause 27 = .ok (.invokevirtual 76, 3) := by decide +kernel
theorem dX12_readsClause_30 : decode cX12_readsClause 30 = .ok (.iload_n 1, 1) := by decide +kernel
theorem dX12_readsClause_31 : decode cX12_readsClause 31 = .ok (.iconst 3, 1) := by decide +kernel
theorem dX12_readsClause_32 : decode cX12_readsClause 32 = .ok (.if_icmp .ne 8, 3) := by decide +kernel
theorem dX12_readsClause_35 : decode cX12_readsClause 35 = .ok (.aload_n 0, 1) := by decide +kernel
theorem dX12_readsClause_36 : decode cX12_readsClause 36 = .ok (.invokevirtual 94, 3) := by decide +kernel
theorem dX12_readsClause_39 : decode cX12_readsClause 39 = .ok (.ireturn, 1) := by decide +kernel
theorem dX12_readsClause_40 : decode cX12_readsClause 40 = .ok (.iload_n 1, 1) := by decide +kernel
theorem dX12_readsClause_41 : decode cX12_readsClause 41 = .ok (.ifCond .ne 39, 3) := by decide +kernel
theorem dX12_readsClause_44 : decode cX12_readsClause 44 = .ok (.aload_n 0, 1) := by decide +kernel
theorem dX12_readsClause_45 : decode cX12_readsClause 45 = .ok (.iconst 0, 1) := by decide +kernel
theorem dX12_readsClause_46 : decode cX12_readsClause 46 = .ok (.putfield 83, 3) := by decide +kernel
theorem dX12_readsClause_49 : decode cX12_readsClause 49 = .ok (.aload_n 0, 1) := by decide +kernel
theorem dX12_readsClause_50 : decode cX12_readsClause 50 = .ok (.getfield 86, 3) := by decide +kernel
theorem dX12_readsClause_53 : decode cX12_readsClause 53 = .ok (.ifCond .eq 25, 3) := by decide +kernel
theorem dX12_readsClause_56 : decode cX12_readsClause 56 = .ok (.aload_n 0, 1) := by decide +kernel
theorem dX12_readsClause_57 : decode cX12_readsClause 57 = .ok (.getfield 7, 3) := by decide +kernel
theorem dX12_readsClause_60 : decode cX12_readsClause 60 = .ok (.iconst 0, 1) := by decide +kernel
theorem dX12_readsClause_61 : decode cX12_readsClause 61 = .ok (.iconst 4, 1) := by decide +kernel
theorem dX12_readsClause_62 : decode cX12_readsClause 62 = .ok (.iastore, 1) := by decide +kernel
theorem dX12_readsClause_63 : decode cX12_readsClause 63 = .ok (.aload_n 0, 1) := by decide +kernel
theorem dX12_readsClause_64 : decode cX12_readsClause 64 = .ok (.getfield 7, 3) := by decide +kernel
theorem dX12_readsClause_67 : decode cX12_readsClause 67 = .ok (.iconst 1, 1) := by decide +kernel
theorem dX12_readsClause_68 : decode cX12_readsClause 68 = .ok (.bipush 20, 2) := by decide +kernel
theorem dX12_readsClause_70 : decode cX12_readsClause 70 = .ok (.iastore, 1) := by decide +kernel
theorem dX12_readsClause_71 : decode cX12_readsClause 71 = .ok (.aload_n 0, 1) := by decide +kernel
theorem dX12_readsClause_72 : decode cX12_readsClause 72 = .ok (.getfield 7, 3) := by decide +kernel
theorem dX12_readsClause_75 : decode cX12_readsClause 75 = .ok (.iconst 2, 1) := by decide +kernel
theorem dX12_readsClause_76 : decode cX12_readsClause 76 = .ok (.iconst 0, 1) := by decide +kernel
theorem dX12_readsClause_77 : decode cX12_readsClause 77 = .ok (.iastore, 1) := by decide +kernel
theorem dX12_readsClause_78 : decode cX12_readsClause 78 = .ok (.iconst 1, 1) := by decide +kernel
theorem dX12_readsClause_79 : decode cX12_readsClause 79 = .ok (.ireturn, 1) := by decide +kernel
theorem dX12_readsClause_80 : decode cX12_readsClause 80 = .ok (.aload_n 0, 1) := by decide +kernel
theorem dX12_readsClause_81 : decode cX12_readsClause 81 = .ok (.iconst 0, 1) := by decide +kernel
theorem dX12_readsClause_82 : decode cX12_readsClause 82 = .ok (.iconst 1, 1) := by decide +kernel
theorem dX12_readsClause_83 : decode cX12_readsClause 83 = .ok (.iload_n 1, 1) := by decide +kernel
theorem dX12_readsClause_84 : decode cX12_readsClause 84 = .ok (.iconst 1, 1) := by decide +kernel
theorem dX12_readsClause_85 : decode cX12_readsClause 85 = .ok (.if_icmp .ne 8, 3) := by decide +kernel
theorem dX12_readsClause_88 : decode cX12_readsClause 88 = .ok (.bipush 8, 2) := by decide +kernel
theorem dX12_readsClause_90 : decode cX12_readsClause 90 = .ok (.goto 5, 3) := by decide +kernel
theorem dX12_readsClause_93 : decode cX12_readsClause 93 = .ok (.bipush 40, 2) := by decide +kernel
theorem dX12_readsClause_95 : decode cX12_readsClause 95 = .ok (.invokevirtual 79, 3) := by decide +kernel
theorem dX12_readsClause_98 : decode cX12_readsClause 98 = .ok (.istore_n 2, 1) := by decide +kernel
theorem dX12_readsClause_99 : decode cX12_readsClause 99 = .ok (.iload_n 2, 1) := by decide +kernel
theorem dX12_readsClause_100 : decode cX12_readsClause 100 = .ok (.ifCond .eq 31, 3) := by decide +kernel
theorem dX12_readsClause_103 : decode cX12_readsClause 103 = .ok (.aload_n 0, 1) := by decide +kernel
theorem dX12_readsClause_104 : decode cX12_readsClause 104 = .ok (.getfield 86, 3) := by decide +kernel
theorem dX12_readsClause_107 : decode cX12_readsClause 107 = .ok (.ifCond .eq 24, 3) := by decide +kernel
theorem dX12_readsClause_110 : decode cX12_readsClause 110 = .ok (.aload_n 0, 1) := by decide +kernel
theorem dX12_readsClause_111 : decode cX12_readsClause 111 = .ok (.getfield 7, 3) := by decide +kernel
theorem dX12_readsClause_114 : decode cX12_readsClause 114 = .ok (.iload_n 1, 1) := by decide +kernel
theorem dX12_readsClause_115 : decode cX12_readsClause 115 = .ok (.iconst 1, 1) := by decide +kernel
theorem dX12_readsClause_116 : decode cX12_readsClause 116 = .ok (.if_icmp .ne 7, 3) := by decide +kernel
theorem dX12_readsClause_119 : decode cX12_readsClause 119 = .ok (.iconst 0, 1) := by decide +kernel
theorem dX12_readsClause_120 : decode cX12_readsClause 120 = .ok (.goto 4, 3) := by decide +kernel
theorem dX12_readsClause_123 : decode cX12_readsClause 123 = .ok (.iconst 1, 1) := by decide +kernel
theorem dX12_readsClause_124 : decode cX12_readsClause 124 = .ok (.aload_n 0, 1) := by decide +kernel
theorem dX12_readsClause_125 : decode cX12_readsClause 125 = .ok (.getfield 16, 3) := by decide +kernel
theorem dX12_readsClause_128 : decode cX12_readsClause 128 = .ok (.iconst 0, 1) := by decide +kernel
theorem dX12_readsClause_129 : decode cX12_readsClause 129 = .ok (.iaload, 1) := by decide +kernel
theorem dX12_readsClause_130 : decode cX12_readsClause 130 = .ok (.iastore, 1) := by decide +kernel
theorem dX12_readsClause_131 : decode cX12_readsClause 131 = .ok (.iload_n 2, 1) := by decide +kernel
theorem dX12_readsClause_132 : decode cX12_readsClause 132 = .ok (.ireturn, 1) := by decide +kernel
theorem dX12_readsAll_0 : decode cX12_readsAll 0 = .ok (.aload_n 0, 1) := by decide +kernel
theorem dX12_readsAll_1 : decode cX12_readsAll 1 = .ok (.iload_n 1, 1) := by decide +kernel
theorem dX12_readsAll_2 : decode cX12_readsAll 2 = .ok (.putfield 86, 3) := by decide +kernel
theorem dX12_readsAll_5 : decode cX12_readsAll 5 = .ok (.aload_n 0, 1) := by decide +kernel
theorem dX12_readsAll_6 : decode cX12_readsAll 6 = .ok (.iconst 0, 1) := by decide +kernel
theorem dX12_readsAll_7 : decode cX12_readsAll 7 = .ok (.putfield 63, 3) := by decide +kernel
theorem dX12_readsAll_10 : decode cX12_readsAll 10 = .ok (.aload_n 0, 1) := by decide +kernel
theorem dX12_readsAll_11 : decode cX12_readsAll 11 = .ok (.iconst 1, 1) := by decide +kernel
theorem dX12_readsAll_12 : decode cX12_readsAll 12 = .ok (.putfield 98, 3) := by decide +kernel
theorem dX12_readsAll_15 : decode cX12_readsAll 15 = .ok (.aload_n 0, 1) := by decide +kernel
theorem dX12_readsAll_16 : decode cX12_readsAll 16 = .ok (.aload_n 0, 1) := by decide +kernel
theorem dX12_readsAll_17 : decode cX12_readsAll 17 = .ok (.getfield 7, 3) := by decide +kernel
theorem dX12_readsAll_20 : decode cX12_readsAll 20 = .ok (.iconst 2, 1) := by decide +kernel
theorem dX12_readsAll_21 : decode cX12_readsAll 21 = .ok (.iaload, 1) := by decide +kernel
theorem dX12_readsAll_22 : decode cX12_readsAll 22 = .ok (.putfield 83, 3) := by decide +kernel
theorem dX12_readsAll_25 : decode cX12_readsAll 25 = .ok (.aload_n 0, 1) := by decide +kernel
theorem dX12_readsAll_26 : decode cX12_readsAll 26 = .ok (.invokevirtual 76, 3) := by decide +kernel
theorem dX12_readsAll_29 : decode cX12_readsAll 29 = .ok (.aload_n 0, 1) := by decide +kernel
theorem dX12_readsAll_30 : decode cX12_readsAll 30 = .ok (.invokevirtual 101, 3) := by decide +kernel
theorem dX12_readsAll_33 : decode cX12_readsAll 33 = .ok (.istore_n 2, 1) := by decide +kernel
theorem dX12_readsAll_34 : decode cX12_readsAll 34 = .ok (.iload_n 2, 1) := by decide +kernel
theorem dX12_readsAll_35 : decode cX12_readsAll 35 = .ok (.ifCond .eq 69, 3) := by decide +kernel
theorem dX12_readsAll_38 : decode cX12_readsAll 38 = .ok (.aload_n 0, 1) := by decide +kernel
theorem dX12_readsAll_39 : decode cX12_readsAll 39 = .ok (.getfield 66, 3) := by decide +kernel
theorem dX12_readsAll_42 : decode cX12_readsAll 42 = .ok (.aload_n 0, 1) := by decide +kernel
theorem dX12_readsAll_43 : decode cX12_readsAll 43 = .ok (.getfield 51, 3) := by decide +kernel
theorem dX12_readsAll_46 : decode cX12_readsAll 46 = .ok (.if_icmp .ge 58, 3) := by decide +kernel
theorem dX12_readsAll_49 : decode cX12_readsAll 49 = .ok (.aload_n 0, 1) := by decide +kernel
theorem dX12_readsAll_50 : decode cX12_readsAll 50 = .ok (.getfield 98, 3) := by decide +kernel
theorem dX12_readsAll_53 : decode cX12_readsAll 53 = .ok (.bipush 24, 2) := by decide +kernel
theorem dX12_readsAll_55 : decode cX12_readsAll 55 = .ok (.if_icmp .ge 21, 3) := by decide +kernel
theorem dX12_readsAll_58 : decode cX12_readsAll 58 = .ok (.aload_n 0, 1) := by decide +kernel
theorem dX12_readsAll_59 : decode cX12_readsAll 59 = .ok (.getfield 13, 3) := by decide +kernel
theorem dX12_readsAll_62 : decode cX12_readsAll 62 = .ok (.aload_n 0, 1) := by decide +kernel
theorem dX12_readsAll_63 : decode cX12_readsAll 63 = .ok (.getfield 66, 3) := by decide +kernel
theorem dX12_readsAll_66 : decode cX12_readsAll 66 = .ok (.iaload, 1) := by decide +kernel
theorem dX12_readsAll_67 : decode cX12_readsAll 67 = .ok (.bipush 59, 2) := by decide +kernel
theorem dX12_readsAll_69 : decode cX12_readsAll 69 = .ok (.if_icmp .ne 7, 3) := by decide +kernel
theorem dX12_readsAll_72 : decode cX12_readsAll 72 = .ok (.iconst 1, 1) := by decide +kernel
theorem dX12_readsAll_73 : decode cX12_readsAll 73 = .ok (.goto 4, 3) := by decide +kernel
theorem dX12_readsAll_76 : decode cX12_readsAll 76 = .ok (.iconst 0, 1) := by decide +kernel
theorem dX12_readsAll_77 : decode cX12_readsAll 77 = .ok (.istore_n 2, 1) := by decide +kernel
theorem dX12_readsAll_78 : decode cX12_readsAll 78 = .ok (.iload_n 2, 1) := by decide +kernel
theorem dX12_readsAll_79 : decode cX12_readsAll 79 = .ok (.ifCond .eq (-45), 3) := by decide +kernel
theorem dX12_readsAll_82 : decode cX12_readsAll 82 = .ok (.aload_n 0, 1) := by decide +kernel
theorem dX12_readsAll_83 : decode cX12_readsAll 83 = .ok (.invokevirtual 76, 3) := by decide +kernel
theorem dX12_readsAll_86 : decode cX12_readsAll 86 = .ok (.aload_n 0, 1) := by decide +kernel
theorem dX12_readsAll_87 : decode cX12_readsAll 87 = .ok (.invokevirtual 101, 3) := by decide +kernel
theorem dX12_readsAll_90 : decode cX12_readsAll 90 = .ok (.istore_n 2, 1) := by decide +kernel
theorem dX12_readsAll_91 : decode cX12_readsAll 91 = .ok (.aload_n 0, 1) := by decide +kernel
theorem dX12_readsAll_92 : decode cX12_readsAll 92 = .ok (.dup, 1) := by decide +kernel
theorem dX12_readsAll_93 : decode cX12_readsAll 93 = .ok (.getfield 98, 3) := by decide +kernel
theorem dX12_readsAll_96 : decode cX12_readsAll 96 = .ok (.iconst 1, 1) := by decide +kernel
theorem dX12_readsAll_97 : decode cX12_readsAll 97 = .ok (.iadd, 1) := by decide +kernel
theorem dX12_readsAll_98 : decode cX12_readsAll 98 = .ok (.putfield 98, 3) := by decide +kernel
theorem dX12_readsAll_101 : decode cX12_readsAll 101 = .ok (.goto (-67), 3) := by decide +kernel
theorem dX12_readsAll_104 : decode cX12_readsAll 104 = .ok (.iload_n 2, 1) := by decide +kernel
theorem dX12_readsAll_105 : decode cX12_readsAll 105 = .ok (.ireturn, 1) := by decide +kernel
theorem dX12_fault_0 : decode cX12_fault 0 = .ok (.aload_n 0, 1) := by decide +kernel
theorem dX12_fault_1 : decode cX12_fault 1 = .ok (.iconst 0, 1) := by decide +kernel
theorem dX12_fault_2 : decode cX12_fault 2 = .ok (.invokevirtual 104, 3) := by decide +kernel
theorem dX12_fault_5 : decode cX12_fault 5 = .ok (.ifCond .eq 7, 3) := by decide +kernel
theorem dX12_fault_8 : decode cX12_fault 8 = .ok (.iconst (-1), 1) := by decide +kernel
theorem dX12_fault_9 : decode cX12_fault 9 = .ok (.goto 7, 3) := by decide +kernel
theorem dX12_fault_12 : decode cX12_fault 12 = .ok (.aload_n 0, 1) := by decide +kernel
theorem dX12_fault_13 : decode cX12_fault 13 = .ok (.getfield 66, 3) := by decide +kernel
theorem dX12_fault_16 : decode cX12_fault 16 = .ok (.ireturn, 1) := by decide +kernel
theorem dX12_tell_0 : decode cX12_tell 0 = .ok (.aload_n 0, 1) := by decide +kernel
theorem dX12_tell_1 : decode cX12_tell 1 = .ok (.iconst 0, 1) := by decide +kernel
theorem dX12_tell_2 : decode cX12_tell 2 = .ok (.invokevirtual 104, 3) := by decide +kernel
theorem dX12_tell_5 : decode cX12_tell 5 = .ok (.ifCond .ne 6, 3) := by decide +kernel
theorem dX12_tell_8 : decode cX12_tell 8 = .ok (.bipush (-4), 2) := by decide +kernel
theorem dX12_tell_10 : decode cX12_tell 10 = .ok (.ireturn, 1) := by decide +kernel
theorem dX12_tell_11 : decode cX12_tell 11 = .ok (.aload_n 0, 1) := by decide +kernel
theorem dX12_tell_12 : decode cX12_tell 12 = .ok (.iconst 1, 1) := by decide +kernel
theorem dX12_tell_13 : decode cX12_tell 13 = .ok (.invokevirtual 104, 3) := by decide +kernel
theorem dX12_tell_16 : decode cX12_tell 16 = .ok (.pop, 1) := by decide +kernel
theorem dX12_tell_17 : decode cX12_tell 17 = .ok (.aload_n 0, 1) := by decide +kernel
theorem dX12_tell_18 : decode cX12_tell 18 = .ok (.iconst 0, 1) := by decide +kernel
theorem dX12_tell_19 : decode cX12_tell 19 = .ok (.putfield 51, 3) := by decide +kernel
theorem dX12_tell_22 : decode cX12_tell 22 = .ok (.aload_n 0, 1) := by decide +kernel
theorem dX12_tell_23 : decode cX12_tell 23 = .ok (.iconst 0, 1) := by decide +kernel
theorem dX12_tell_24 : decode cX12_tell 24 = .ok (.putfield 108, 3) := by decide +kernel
theorem dX12_tell_27 : decode cX12_tell 27 = .ok (.aload_n 0, 1) := by decide +kernel
theorem dX12_tell_28 : decode cX12_tell 28 = .ok (.getfield 98, 3) := by decide +kernel
theorem dX12_tell_31 : decode cX12_tell 31 = .ok (.ireturn, 1) := by decide +kernel
theorem dX12_part_0 : decode cX12_part 0 = .ok (.aload_n 0, 1) := by decide +kernel
theorem dX12_part_1 : decode cX12_part 1 = .ok (.iload_n 1, 1) := by decide +kernel
theorem dX12_part_2 : decode cX12_part 2 = .ok (.invokevirtual 111, 3) := by decide +kernel
theorem dX12_part_5 : decode cX12_part 5 = .ok (.ifCond .ne 6, 3) := by decide +kernel
theorem dX12_part_8 : decode cX12_part 8 = .ok (.bipush (-2), 2) := by decide +kernel
theorem dX12_part_10 : decode cX12_part 10 = .ok (.ireturn, 1) := by decide +kernel
theorem dX12_part_11 : decode cX12_part 11 = .ok (.iload_n 2, 1) := by decide +kernel
theorem dX12_part_12 : decode cX12_part 12 = .ok (.i2l, 1) := by decide +kernel
theorem dX12_part_13 : decode cX12_part 13 = .ok (.lconst 0, 1) := by decide +kernel
theorem dX12_part_14 : decode cX12_part 14 = .ok (.ldc2_w 114, 3) := by decide +kernel
theorem dX12_part_17 : decode cX12_part 17 = .ok (.invokestatic 31, 3) := by decide +kernel
theorem dX12_part_20 : decode cX12_part 20 = .ok (.ifCond .eq 17, 3) := by decide +kernel
theorem dX12_part_23 : decode cX12_part 23 = .ok (.aload_n 0, 1) := by decide +kernel
theorem dX12_part_24 : decode cX12_part 24 = .ok (.getfield 7, 3) := by decide +kernel
theorem dX12_part_27 : decode cX12_part 27 = .ok (.iload_n 1, 1) := by decide +kernel
theorem dX12_part_28 : decode cX12_part 28 = .ok (.invokestatic 35, 3) := by decide +kernel
theorem dX12_part_31 : decode cX12_part 31 = .ok (.iload_n 2, 1) := by decide +kernel
theorem dX12_part_32 : decode cX12_part 32 = .ok (.iadd, 1) := by decide +kernel
theorem dX12_part_33 : decode cX12_part 33 = .ok (.iaload, 1) := by decide +kernel
theorem dX12_part_34 : decode cX12_part 34 = .ok (.goto 18, 3) := by decide +kernel
theorem dX12_part_37 : decode cX12_part 37 = .ok (.iload_n 2, 1) := by decide +kernel
theorem dX12_part_38 : decode cX12_part 38 = .ok (.iconst 3, 1) := by decide +kernel
theorem dX12_part_39 : decode cX12_part 39 = .ok (.if_icmp .ne 11, 3) := by decide +kernel
theorem dX12_part_42 : decode cX12_part 42 = .ok (.aload_n 0, 1) := by decide +kernel
theorem dX12_part_43 : decode cX12_part 43 = .ok (.iload_n 1, 1) := by decide +kernel
theorem dX12_part_44 : decode cX12_part 44 = .ok (.invokevirtual 43, 3) := by decide +kernel
theorem dX12_part_47 : decode cX12_part 47 = .ok (.goto 5, 3) := by decide +kernel
theorem dX12_part_50 : decode cX12_part 50 = .ok (.bipush (-3), 2) := by decide +kernel
theorem dX12_part_52 : decode cX12_part 52 = .ok (.ireturn, 1) := by decide +kernel
theorem dX12_letter_0 : decode cX12_letter 0 = .ok (.aload_n 0, 1) := by decide +kernel
theorem dX12_letter_1 : decode cX12_letter 1 = .ok (.iload_n 1, 1) := by decide +kernel
theorem dX12_letter_2 : decode cX12_letter 2 = .ok (.invokevirtual 111, 3) := by decide +kernel
theorem dX12_letter_5 : decode cX12_letter 5 = .ok (.ifCond .eq 42, 3) := by decide +kernel
theorem dX12_letter_8 : decode cX12_letter 8 = .ok (.iload_n 2, 1) := by decide +kernel
theorem dX12_letter_9 : decode cX12_letter 9 = .ok (.i2l, 1) := by decide +kernel
theorem dX12_letter_10 : decode cX12_letter 10 = .ok (.lconst 0, 1) := by decide +kernel
theorem dX12_letter_11 : decode cX12_letter 11 = .ok (.aload_n 0, 1) := by decide +kernel
theorem dX12_letter_12 : decode cX12_letter 12 = .ok (.getfield 7, 3) := by decide +kernel
theorem dX12_letter_15 : decode cX12_letter 15 = .ok (.iload_n 1, 1) := by decide +kernel
theorem dX12_letter_16 : decode cX12_letter 16 = .ok (.invokestatic 35, 3) := by decide +kernel
theorem dX12_letter_19 : decode cX12_letter 19 = .ok (.iconst 0, 1) := by decide +kernel
theorem dX12_letter_20 : decode cX12_letter 20 = .ok (.iadd, 1) := by decide +kernel
theorem dX12_letter_21 : decode cX12_letter 21 = .ok (.iaload, 1) := by decide +kernel
theorem dX12_letter_22 : decode cX12_letter 22 = .ok (.iconst 1, 1) := by decide +kernel
theorem dX12_letter_23 : decode cX12_letter 23 = .ok (.isub, 1) := by decide +kernel
theorem dX12_letter_24 : decode cX12_letter 24 = .ok (.i2l, 1) := by decide +kernel
theorem dX12_letter_25 : decode cX12_letter 25 = .ok (.invokestatic 31, 3) := by decide +kernel
theorem dX12_letter_28 : decode cX12_letter 28 = .ok (.ifCond .eq 19, 3) := by decide +kernel
theorem dX12_letter_31 : decode cX12_letter 31 = .ok (.aload_n 0, 1) := by decide +kernel
theorem dX12_letter_32 : decode cX12_letter 32 = .ok (.getfield 7, 3) := by decide +kernel
theorem dX12_letter_35 : decode cX12_letter 35 = .ok (.iload_n 1, 1) := by decide +kernel
theorem dX12_letter_36 : decode cX12_letter 36 = .ok (.invokestatic 35, 3) := by decide +kernel
theorem dX12_letter_39 : decode cX12_letter 39 = .ok (.iconst 3, 1) := by decide +kernel
theorem dX12_letter_40 : decode cX12_letter 40 = .ok (.iadd, 1) := by decide +kernel
theorem dX12_letter_41 : decode cX12_letter 41 = .ok (.iload_n 2, 1) := by decide +kernel
theorem dX12_letter_42 : decode cX12_letter 42 = .ok (.iadd, 1) := by decide +kernel
theorem dX12_letter_43 : decode cX12_letter 43 = .ok (.iaload, 1) := by decide +kernel
theorem dX12_letter_44 : decode cX12_letter 44 = .ok (.goto 5, 3) := by decide +kernel
theorem dX12_letter_47 : decode cX12_letter 47 = .ok (.bipush (-2), 2) := by decide +kernel
theorem dX12_letter_49 : decode cX12_letter 49 = .ok (.ireturn, 1) := by decide +kernel
theorem dX12_copyRow_0 : decode cX12_copyRow 0 = .ok (.iconst 0, 1) := by decide +kernel
theorem dX12_copyRow_1 : decode cX12_copyRow 1 = .ok (.istore_n 3, 1) := by decide +kernel
theorem dX12_copyRow_2 : decode cX12_copyRow 2 = .ok (.iload_n 3, 1) := by decide +kernel
theorem dX12_copyRow_3 : decode cX12_copyRow 3 = .ok (.sipush 770, 3) := by decide +kernel
theorem dX12_copyRow_6 : decode cX12_copyRow 6 = .ok (.if_icmp .ge 25, 3) := by decide +kernel
theorem dX12_copyRow_9 : decode cX12_copyRow 9 = .ok (.aload_n 0, 1) := by decide +kernel
theorem dX12_copyRow_10 : decode cX12_copyRow 10 = .ok (.getfield 7, 3) := by decide +kernel
theorem dX12_copyRow_13 : decode cX12_copyRow 13 = .ok (.iload_n 2, 1) := by decide +kernel
theorem dX12_copyRow_14 : decode cX12_copyRow 14 = .ok (.iload_n 3, 1) := by decide +kernel
theorem dX12_copyRow_15 : decode cX12_copyRow 15 = .ok (.iadd, 1) := by decide +kernel
theorem dX12_copyRow_16 : decode cX12_copyRow 16 = .ok (.aload_n 0, 1) := by decide +kernel
theorem dX12_copyRow_17 : decode cX12_copyRow 17 = .ok (.getfield 7, 3) := by decide +kernel
theorem dX12_copyRow_20 : decode cX12_copyRow 20 = .ok (.iload_n 1, 1) := by decide +kernel
theorem dX12_copyRow_21 : decode cX12_copyRow 21 = .ok (.iload_n 3, 1) := by decide +kernel
theorem dX12_copyRow_22 : decode cX12_copyRow 22 = .ok (.iadd, 1) := by decide +kernel
theorem dX12_copyRow_23 : decode cX12_copyRow 23 = .ok (.iaload, 1) := by decide +kernel
theorem dX12_copyRow_24 : decode cX12_copyRow 24 = .ok (.iastore, 1) := by decide +kernel
theorem dX12_copyRow_25 : decode cX12_copyRow 25 = .ok (.iinc 3 1, 3) := by decide +kernel
theorem dX12_copyRow_28 : decode cX12_copyRow 28 = .ok (.goto (-26), 3) := by decide +kernel
theorem dX12_copyRow_31 : decode cX12_copyRow 31 = .ok (.return_, 1) := by decide +kernel
theorem dX12_notes_0 : decode cX12_notes 0 = .ok (.iconst 0, 1) := by decide +kernel
theorem dX12_notes_1 : decode cX12_notes 1 = .ok (.istore_n 1, 1) := by decide +kernel
theorem dX12_notes_2 : decode cX12_notes 2 = .ok (.iload_n 1, 1) := by decide +kernel
theorem dX12_notes_3 : decode cX12_notes 3 = .ok (.sipush 5390, 3) := by decide +kernel
theorem dX12_notes_6 : decode cX12_notes 6 = .ok (.if_icmp .ge 38, 3) := by decide +kernel
theorem dX12_notes_9 : decode cX12_notes 9 = .ok (.aload_n 0, 1) := by decide +kernel
theorem dX12_notes_10 : decode cX12_notes 10 = .ok (.getfield 108, 3) := by decide +kernel
theorem dX12_notes_13 : decode cX12_notes 13 = .ok (.bipush 8, 2) := by decide +kernel
theorem dX12_notes_15 : decode cX12_notes 15 = .ok (.if_icmp .ne 29, 3) := by decide +kernel
theorem dX12_notes_18 : decode cX12_notes 18 = .ok (.aload_n 0, 1) := by decide +kernel
theorem dX12_notes_19 : decode cX12_notes 19 = .ok (.getfield 7, 3) := by decide +kernel
theorem dX12_notes_22 : decode cX12_notes 22 = .ok (.sipush 770, 3) := by decide +kernel
theorem dX12_notes_25 : decode cX12_notes 25 = .ok (.iload_n 1, 1) := by decide +kernel
theorem dX12_notes_26 : decode cX12_notes 26 = .ok (.iadd, 1) := by decide +kernel
theorem dX12_notes_27 : decode cX12_notes 27 = .ok (.aload_n 0, 1) := by decide +kernel
theorem dX12_notes_28 : decode cX12_notes 28 = .ok (.getfield 7, 3) := by decide +kernel
theorem dX12_notes_31 : decode cX12_notes 31 = .ok (.sipush 1540, 3) := by decide +kernel
theorem dX12_notes_34 : decode cX12_notes 34 = .ok (.iload_n 1, 1) := by decide +kernel
theorem dX12_notes_35 : decode cX12_notes 35 = .ok (.iadd, 1) := by decide +kernel
theorem dX12_notes_36 : decode cX12_notes 36 = .ok (.iaload, 1) := by decide +kernel
theorem dX12_notes_37 : decode cX12_notes 37 = .ok (.iastore, 1) := by decide +kernel
theorem dX12_notes_38 : decode cX12_notes 38 = .ok (.iinc 1 1, 3) := by decide +kernel
theorem dX12_notes_41 : decode cX12_notes 41 = .ok (.goto (-39), 3) := by decide +kernel
theorem dX12_notes_44 : decode cX12_notes 44 = .ok (.aload_n 0, 1) := by decide +kernel
theorem dX12_notes_45 : decode cX12_notes 45 = .ok (.dup, 1) := by decide +kernel
theorem dX12_notes_46 : decode cX12_notes 46 = .ok (.getfield 108, 3) := by decide +kernel
theorem dX12_notes_49 : decode cX12_notes 49 = .ok (.aload_n 0, 1) := by decide +kernel
theorem dX12_notes_50 : decode cX12_notes 50 = .ok (.getfield 108, 3) := by decide +kernel
theorem dX12_notes_53 : decode cX12_notes 53 = .ok (.bipush 8, 2) := by decide +kernel
theorem dX12_notes_55 : decode cX12_notes 55 = .ok (.if_icmp .ne 7, 3) := by decide +kernel
theorem dX12_notes_58 : decode cX12_notes 58 = .ok (.iconst 1, 1) := by decide +kernel
theorem dX12_notes_59 : decode cX12_notes 59 = .ok (.goto 4, 3) := by decide +kernel
theorem dX12_notes_62 : decode cX12_notes 62 = .ok (.iconst 0, 1) := by decide +kernel
theorem dX12_notes_63 : decode cX12_notes 63 = .ok (.isub, 1) := by decide +kernel
theorem dX12_notes_64 : decode cX12_notes 64 = .ok (.putfield 108, 3) := by decide +kernel
theorem dX12_notes_67 : decode cX12_notes 67 = .ok (.aload_n 0, 1) := by decide +kernel
theorem dX12_notes_68 : decode cX12_notes 68 = .ok (.iconst 0, 1) := by decide +kernel
theorem dX12_notes_69 : decode cX12_notes 69 = .ok (.sipush 770, 3) := by decide +kernel
theorem dX12_notes_72 : decode cX12_notes 72 = .ok (.sipush 770, 3) := by decide +kernel
theorem dX12_notes_75 : decode cX12_notes 75 = .ok (.aload_n 0, 1) := by decide +kernel
theorem dX12_notes_76 : decode cX12_notes 76 = .ok (.getfield 108, 3) := by decide +kernel
theorem dX12_notes_79 : decode cX12_notes 79 = .ok (.imul, 1) := by decide +kernel
theorem dX12_notes_80 : decode cX12_notes 80 = .ok (.iadd, 1) := by decide +kernel
theorem dX12_notes_81 : decode cX12_notes 81 = .ok (.invokevirtual 116, 3) := by decide +kernel
theorem dX12_notes_84 : decode cX12_notes 84 = .ok (.aload_n 0, 1) := by decide +kernel
theorem dX12_notes_85 : decode cX12_notes 85 = .ok (.dup, 1) := by decide +kernel
theorem dX12_notes_86 : decode cX12_notes 86 = .ok (.getfield 108, 3) := by decide +kernel
theorem dX12_notes_89 : decode cX12_notes 89 = .ok (.iconst 1, 1) := by decide +kernel
theorem dX12_notes_90 : decode cX12_notes 90 = .ok (.iadd, 1) := by decide +kernel
theorem dX12_notes_91 : decode cX12_notes 91 = .ok (.putfield 108, 3) := by decide +kernel
theorem dX12_notes_94 : decode cX12_notes 94 = .ok (.return_, 1) := by decide +kernel
theorem dX12_changes_0 : decode cX12_changes 0 = .ok (.aload_n 0, 1) := by decide +kernel
theorem dX12_changes_1 : decode cX12_changes 1 = .ok (.invokevirtual 120, 3) := by decide +kernel
theorem dX12_changes_4 : decode cX12_changes 4 = .ok (.aload_n 0, 1) := by decide +kernel
theorem dX12_changes_5 : decode cX12_changes 5 = .ok (.getfield 7, 3) := by decide +kernel
theorem dX12_changes_8 : decode cX12_changes 8 = .ok (.iload_n 1, 1) := by decide +kernel
theorem dX12_changes_9 : decode cX12_changes 9 = .ok (.iaload, 1) := by decide +kernel
theorem dX12_changes_10 : decode cX12_changes 10 = .ok (.istore_n 3, 1) := by decide +kernel
theorem dX12_changes_11 : decode cX12_changes 11 = .ok (.aload_n 0, 1) := by decide +kernel
theorem dX12_changes_12 : decode cX12_changes 12 = .ok (.getfield 7, 3) := by decide +kernel
theorem dX12_changes_15 : decode cX12_changes 15 = .ok (.iload_n 1, 1) := by decide +kernel
theorem dX12_changes_16 : decode cX12_changes 16 = .ok (.iload_n 2, 1) := by decide +kernel
theorem dX12_changes_17 : decode cX12_changes 17 = .ok (.iastore, 1) := by decide +kernel
theorem dX12_changes_18 : decode cX12_changes 18 = .ok (.iload_n 3, 1) := by decide +kernel
theorem dX12_changes_19 : decode cX12_changes 19 = .ok (.ireturn, 1) := by decide +kernel
theorem dX12_packets_0 : decode cX12_packets 0 = .ok (.iload_n 1, 1) := by decide +kernel
theorem dX12_packets_1 : decode cX12_packets 1 = .ok (.i2l, 1) := by decide +kernel
theorem dX12_packets_2 : decode cX12_packets 2 = .ok (.lconst 1, 1) := by decide +kernel
theorem dX12_packets_3 : decode cX12_packets 3 = .ok (.ldc2_w 123, 3) := by decide +kernel
theorem dX12_packets_6 : decode cX12_packets 6 = .ok (.invokestatic 31, 3) := by decide +kernel
theorem dX12_packets_9 : decode cX12_packets 9 = .ok (.ifCond .eq 12, 3) := by decide +kernel
theorem dX12_packets_12 : decode cX12_packets 12 = .ok (.aload_n 0, 1) := by decide +kernel
theorem dX12_packets_13 : decode cX12_packets 13 = .ok (.iconst 0, 1) := by decide +kernel
theorem dX12_packets_14 : decode cX12_packets 14 = .ok (.iload_n 1, 1) := by decide +kernel
theorem dX12_packets_15 : decode cX12_packets 15 = .ok (.invokevirtual 125, 3) := by decide +kernel
theorem dX12_packets_18 : decode cX12_packets 18 = .ok (.goto 5, 3) := by decide +kernel
theorem dX12_packets_21 : decode cX12_packets 21 = .ok (.bipush (-3), 2) := by decide +kernel
theorem dX12_packets_23 : decode cX12_packets 23 = .ok (.ireturn, 1) := by decide +kernel
theorem dX12_room_0 : decode cX12_room 0 = .ok (.iload_n 1, 1) := by decide +kernel
theorem dX12_room_1 : decode cX12_room 1 = .ok (.i2l, 1) := by decide +kernel
theorem dX12_room_2 : decode cX12_room 2 = .ok (.lconst 1, 1) := by decide +kernel
theorem dX12_room_3 : decode cX12_room 3 = .ok (.ldc2_w 128, 3) := by decide +kernel
theorem dX12_room_6 : decode cX12_room 6 = .ok (.invokestatic 31, 3) := by decide +kernel
theorem dX12_room_9 : decode cX12_room 9 = .ok (.ifCond .eq 12, 3) := by decide +kernel
theorem dX12_room_12 : decode cX12_room 12 = .ok (.aload_n 0, 1) := by decide +kernel
theorem dX12_room_13 : decode cX12_room 13 = .ok (.iconst 1, 1) := by decide +kernel
theorem dX12_room_14 : decode cX12_room 14 = .ok (.iload_n 1, 1) := by decide +kernel
theorem dX12_room_15 : decode cX12_room 15 = .ok (.invokevirtual 125, 3) := by decide +kernel
theorem dX12_room_18 : decode cX12_room 18 = .ok (.goto 5, 3) := by decide +kernel
theorem dX12_room_21 : decode cX12_room 21 = .ok (.bipush (-3), 2) := by decide +kernel
theorem dX12_room_23 : decode cX12_room 23 = .ok (.ireturn, 1) := by decide +kernel
theorem dX12_need_0 : decode cX12_need 0 = .ok (.aload_n 0, 1) := by decide +kernel
theorem dX12_need_1 : decode cX12_need 1 = .ok (.iload_n 1, 1) := by decide +kernel
theorem dX12_need_2 : decode cX12_need 2 = .ok (.invokevirtual 111, 3) := by decide +kernel
theorem dX12_need_5 : decode cX12_need 5 = .ok (.ifCond .ne 8, 3) := by decide +kernel
theorem dX12_need_8 : decode cX12_need 8 = .ok (.bipush (-2), 2) := by decide +kernel
theorem dX12_need_10 : decode cX12_need 10 = .ok (.goto 31, 3) := by decide +kernel
theorem dX12_need_13 : decode cX12_need 13 = .ok (.iload_n 2, 1) := by decide +kernel
theorem dX12_need_14 : decode cX12_need 14 = .ok (.i2l, 1) := by decide +kernel
theorem dX12_need_15 : decode cX12_need 15 = .ok (.lconst 1, 1) := by decide +kernel
theorem dX12_need_16 : decode cX12_need 16 = .ok (.ldc2_w 123, 3) := by decide +kernel
theorem dX12_need_19 : decode cX12_need 19 = .ok (.invokestatic 31, 3) := by decide +kernel
theorem dX12_need_22 : decode cX12_need 22 = .ok (.ifCond .eq 17, 3) := by decide +kernel
theorem dX12_need_25 : decode cX12_need 25 = .ok (.aload_n 0, 1) := by decide +kernel
theorem dX12_need_26 : decode cX12_need 26 = .ok (.iload_n 1, 1) := by decide +kernel
theorem dX12_need_27 : decode cX12_need 27 = .ok (.invokestatic 35, 3) := by decide +kernel
theorem dX12_need_30 : decode cX12_need 30 = .ok (.iconst 1, 1) := by decide +kernel
theorem dX12_need_31 : decode cX12_need 31 = .ok (.iadd, 1) := by decide +kernel
theorem dX12_need_32 : decode cX12_need 32 = .ok (.iload_n 2, 1) := by decide +kernel
theorem dX12_need_33 : decode cX12_need 33 = .ok (.invokevirtual 125, 3) := by decide +kernel
theorem dX12_need_36 : decode cX12_need 36 = .ok (.goto 5, 3) := by decide +kernel
theorem dX12_need_39 : decode cX12_need 39 = .ok (.bipush (-3), 2) := by decide +kernel
theorem dX12_need_41 : decode cX12_need 41 = .ok (.ireturn, 1) := by decide +kernel
theorem dX12_weigh_0 : decode cX12_weigh 0 = .ok (.aload_n 0, 1) := by decide +kernel
theorem dX12_weigh_1 : decode cX12_weigh 1 = .ok (.iload_n 1, 1) := by decide +kernel
theorem dX12_weigh_2 : decode cX12_weigh 2 = .ok (.invokevirtual 111, 3) := by decide +kernel
theorem dX12_weigh_5 : decode cX12_weigh 5 = .ok (.ifCond .ne 8, 3) := by decide +kernel
theorem dX12_weigh_8 : decode cX12_weigh 8 = .ok (.bipush (-2), 2) := by decide +kernel
theorem dX12_weigh_10 : decode cX12_weigh 10 = .ok (.goto 31, 3) := by decide +kernel
theorem dX12_weigh_13 : decode cX12_weigh 13 = .ok (.iload_n 2, 1) := by decide +kernel
theorem dX12_weigh_14 : decode cX12_weigh 14 = .ok (.i2l, 1) := by decide +kernel
theorem dX12_weigh_15 : decode cX12_weigh 15 = .ok (.lconst 1, 1) := by decide +kernel
theorem dX12_weigh_16 : decode cX12_weigh 16 = .ok (.ldc2_w 130, 3) := by decide +kernel
theorem dX12_weigh_19 : decode cX12_weigh 19 = .ok (.invokestatic 31, 3) := by decide +kernel
theorem dX12_weigh_22 : decode cX12_weigh 22 = .ok (.ifCond .eq 17, 3) := by decide +kernel
theorem dX12_weigh_25 : decode cX12_weigh 25 = .ok (.aload_n 0, 1) := by decide +kernel
theorem dX12_weigh_26 : decode cX12_weigh 26 = .ok (.iload_n 1, 1) := by decide +kernel
theorem dX12_weigh_27 : decode cX12_weigh 27 = .ok (.invokestatic 35, 3) := by decide +kernel
theorem dX12_weigh_30 : decode cX12_weigh 30 = .ok (.iconst 2, 1) := by decide +kernel
theorem dX12_weigh_31 : decode cX12_weigh 31 = .ok (.iadd, 1) := by decide +kernel
theorem dX12_weigh_32 : decode cX12_weigh 32 = .ok (.iload_n 2, 1) := by decide +kernel
theorem dX12_weigh_33 : decode cX12_weigh 33 = .ok (.invokevirtual 125, 3) := by decide +kernel
theorem dX12_weigh_36 : decode cX12_weigh 36 = .ok (.goto 5, 3) := by decide +kernel
theorem dX12_weigh_39 : decode cX12_weigh 39 = .ok (.bipush (-3), 2) := by decide +kernel
theorem dX12_weigh_41 : decode cX12_weigh 41 = .ok (.ireturn, 1) := by decide +kernel
theorem dX12_drop_0 : decode cX12_drop 0 = .ok (.aload_n 0, 1) := by decide +kernel
theorem dX12_drop_1 : decode cX12_drop 1 = .ok (.iload_n 1, 1) := by decide +kernel
theorem dX12_drop_2 : decode cX12_drop 2 = .ok (.invokevirtual 111, 3) := by decide +kernel
theorem dX12_drop_5 : decode cX12_drop 5 = .ok (.ifCond .ne 6, 3) := by decide +kernel
theorem dX12_drop_8 : decode cX12_drop 8 = .ok (.bipush (-2), 2) := by decide +kernel
theorem dX12_drop_10 : decode cX12_drop 10 = .ok (.ireturn, 1) := by decide +kernel
theorem dX12_drop_11 : decode cX12_drop 11 = .ok (.aload_n 0, 1) := by decide +kernel
theorem dX12_drop_12 : decode cX12_drop 12 = .ok (.invokevirtual 120, 3) := by decide +kernel
theorem dX12_drop_15 : decode cX12_drop 15 = .ok (.aload_n 0, 1) := by decide +kernel
theorem dX12_drop_16 : decode cX12_drop 16 = .ok (.getfield 7, 3) := by decide +kernel
theorem dX12_drop_19 : decode cX12_drop 19 = .ok (.iconst 2, 1) := by decide +kernel
theorem dX12_drop_20 : decode cX12_drop 20 = .ok (.dup2, 1) := by decide +kernel
theorem dX12_drop_21 : decode cX12_drop 21 = .ok (.iaload, 1) := by decide +kernel
theorem dX12_drop_22 : decode cX12_drop 22 = .ok (.iconst 1, 1) := by decide +kernel
theorem dX12_drop_23 : decode cX12_drop 23 = .ok (.isub, 1) := by decide +kernel
theorem dX12_drop_24 : decode cX12_drop 24 = .ok (.iastore, 1) := by decide +kernel
theorem dX12_drop_25 : decode cX12_drop 25 = .ok (.iload_n 1, 1) := by decide +kernel
theorem dX12_drop_26 : decode cX12_drop 26 = .ok (.invokestatic 35, 3) := by decide +kernel
theorem dX12_drop_29 : decode cX12_drop 29 = .ok (.istore_n 2, 1) := by decide +kernel
theorem dX12_drop_30 : decode cX12_drop 30 = .ok (.iload_n 2, 1) := by decide +kernel
theorem dX12_drop_31 : decode cX12_drop 31 = .ok (.aload_n 0, 1) := by decide +kernel
theorem dX12_drop_32 : decode cX12_drop 32 = .ok (.getfield 7, 3) := by decide +kernel
theorem dX12_drop_35 : decode cX12_drop 35 = .ok (.iconst 2, 1) := by decide +kernel
theorem dX12_drop_36 : decode cX12_drop 36 = .ok (.iaload, 1) := by decide +kernel
theorem dX12_drop_37 : decode cX12_drop 37 = .ok (.invokestatic 35, 3) := by decide +kernel
theorem dX12_drop_40 : decode cX12_drop 40 = .ok (.if_icmp .ge 24, 3) := by decide +kernel
theorem dX12_drop_43 : decode cX12_drop 43 = .ok (.aload_n 0, 1) := by decide +kernel
theorem dX12_drop_44 : decode cX12_drop 44 = .ok (.getfield 7, 3) := by decide +kernel
theorem dX12_drop_47 : decode cX12_drop 47 = .ok (.iload_n 2, 1) := by decide +kernel
theorem dX12_drop_48 : decode cX12_drop 48 = .ok (.aload_n 0, 1) := by decide +kernel
theorem dX12_drop_49 : decode cX12_drop 49 = .ok (.getfield 7, 3) := by decide +kernel
theorem dX12_drop_52 : decode cX12_drop 52 = .ok (.iload_n 2, 1) := by decide +kernel
theorem dX12_drop_53 : decode cX12_drop 53 = .ok (.bipush 15, 2) := by decide +kernel
theorem dX12_drop_55 : decode cX12_drop 55 = .ok (.iadd, 1) := by decide +kernel
theorem dX12_drop_56 : decode cX12_drop 56 = .ok (.iaload, 1) := by decide +kernel
theorem dX12_drop_57 : decode cX12_drop 57 = .ok (.iastore, 1) := by decide +kernel
theorem dX12_drop_58 : decode cX12_drop 58 = .ok (.iinc 2 1, 3) := by decide +kernel
theorem dX12_drop_61 : decode cX12_drop 61 = .ok (.goto (-31), 3) := by decide +kernel
theorem dX12_drop_64 : decode cX12_drop 64 = .ok (.aload_n 0, 1) := by decide +kernel
theorem dX12_drop_65 : decode cX12_drop 65 = .ok (.getfield 7, 3) := by decide +kernel
theorem dX12_drop_68 : decode cX12_drop 68 = .ok (.iconst 2, 1) := by decide +kernel
theorem dX12_drop_69 : decode cX12_drop 69 = .ok (.iaload, 1) := by decide +kernel
theorem dX12_drop_70 : decode cX12_drop 70 = .ok (.ireturn, 1) := by decide +kernel
theorem dX12_value_0 : decode cX12_value 0 = .ok (.iload_n 0, 1) := by decide +kernel
theorem dX12_value_1 : decode cX12_value 1 = .ok (.iload_n 1, 1) := by decide +kernel
theorem dX12_value_2 : decode cX12_value 2 = .ok (.imul, 1) := by decide +kernel
theorem dX12_value_3 : decode cX12_value 3 = .ok (.iload_n 2, 1) := by decide +kernel
theorem dX12_value_4 : decode cX12_value 4 = .ok (.iadd, 1) := by decide +kernel
theorem dX12_value_5 : decode cX12_value 5 = .ok (.bipush 29, 2) := by decide +kernel
theorem dX12_value_7 : decode cX12_value 7 = .ok (.irem, 1) := by decide +kernel
theorem dX12_value_8 : decode cX12_value 8 = .ok (.ireturn, 1) := by decide +kernel
theorem dX12_packs_0 : decode cX12_packs 0 = .ok (.iload_n 1, 1) := by decide +kernel
theorem dX12_packs_1 : decode cX12_packs 1 = .ok (.invokestatic 35, 3) := by decide +kernel
theorem dX12_packs_4 : decode cX12_packs 4 = .ok (.istore_n 3, 1) := by decide +kernel
theorem dX12_packs_5 : decode cX12_packs 5 = .ok (.aload_n 0, 1) := by decide +kernel
theorem dX12_packs_6 : decode cX12_packs 6 = .ok (.getfield 7, 3) := by decide +kernel
theorem dX12_packs_9 : decode cX12_packs 9 = .ok (.iload_n 3, 1) := by decide +kernel
theorem dX12_packs_10 : decode cX12_packs 10 = .ok (.iconst 1, 1) := by decide +kernel
theorem dX12_packs_11 : decode cX12_packs 11 = .ok (.iadd, 1) := by decide +kernel
theorem dX12_packs_12 : decode cX12_packs 12 = .ok (.iaload, 1) := by decide +kernel
theorem dX12_packs_13 : decode cX12_packs 13 = .ok (.istore 4, 2) := by decide +kernel
theorem dX12_packs_15 : decode cX12_packs 15 = .ok (.iconst 0, 1) := by decide +kernel
theorem dX12_packs_16 : decode cX12_packs 16 = .ok (.istore 5, 2) := by decide +kernel
theorem dX12_packs_18 : decode cX12_packs 18 = .ok (.iload 5, 2) := by decide +kernel
theorem dX12_packs_20 : decode cX12_packs 20 = .ok (.aload_n 0, 1) := by decide +kernel
theorem dX12_packs_21 : decode cX12_packs 21 = .ok (.iload_n 1, 1) := by decide +kernel
theorem dX12_packs_22 : decode cX12_packs 22 = .ok (.invokevirtual 43, 3) := by decide +kernel
theorem dX12_packs_25 : decode cX12_packs 25 = .ok (.if_icmp .ge 140, 3) := by decide +kernel
theorem dX12_packs_28 : decode cX12_packs 28 = .ok (.iconst 0, 1) := by decide +kernel
theorem dX12_packs_29 : decode cX12_packs 29 = .ok (.istore 6, 2) := by decide +kernel
theorem dX12_packs_31 : decode cX12_packs 31 = .ok (.iload 6, 2) := by decide +kernel
theorem dX12_packs_33 : decode cX12_packs 33 = .ok (.aload_n 0, 1) := by decide +kernel
theorem dX12_packs_34 : decode cX12_packs 34 = .ok (.getfield 7, 3) := by decide +kernel
theorem dX12_packs_37 : decode cX12_packs 37 = .ok (.iconst 0, 1) := by decide +kernel
theorem dX12_packs_38 : decode cX12_packs 38 = .ok (.iaload, 1) := by decide +kernel
theorem dX12_packs_39 : decode cX12_packs 39 = .ok (.if_icmp .ge 120, 3) := by decide +kernel
theorem dX12_packs_42 : decode cX12_packs 42 = .ok (.iconst 0, 1) := by decide +kernel
theorem dX12_packs_43 : decode cX12_packs 43 = .ok (.istore 7, 2) := by decide +kernel
theorem dX12_packs_45 : decode cX12_packs 45 = .ok (.iload 4, 2) := by decide +kernel
theorem dX12_packs_47 : decode cX12_packs 47 = .ok (.iconst 1, 1) := by decide +kernel
theorem dX12_packs_48 : decode cX12_packs 48 = .ok (.isub, 1) := by decide +kernel
theorem dX12_packs_49 : decode cX12_packs 49 = .ok (.istore 8, 2) := by decide +kernel
theorem dX12_packs_51 : decode cX12_packs 51 = .ok (.iload 8, 2) := by decide +kernel
theorem dX12_packs_53 : decode cX12_packs 53 = .ok (.ifCond .lt 58, 3) := by decide +kernel
theorem dX12_packs_56 : decode cX12_packs 56 = .ok (.iload 4, 2) := by decide +kernel
theorem dX12_packs_58 : decode cX12_packs 58 = .ok (.iload 5, 2) := by decide +kernel
theorem dX12_packs_60 : decode cX12_packs 60 = .ok (.imul, 1) := by decide +kernel
theorem dX12_packs_61 : decode cX12_packs 61 = .ok (.iload 8, 2) := by decide +kernel
theorem dX12_packs_63 : decode cX12_packs 63 = .ok (.iadd, 1) := by decide +kernel
theorem dX12_packs_64 : decode cX12_packs 64 = .ok (.istore 9, 2) := by decide +kernel
theorem dX12_packs_66 : decode cX12_packs 66 = .ok (.iload 7, 2) := by decide +kernel
theorem dX12_packs_68 : decode cX12_packs 68 = .ok (.iload 6, 2) := by decide +kernel
theorem dX12_packs_70 : decode cX12_packs 70 = .ok (.iconst 1, 1) := by decide +kernel
theorem dX12_packs_71 : decode cX12_packs 71 = .ok (.iadd, 1) := by decide +kernel
theorem dX12_packs_72 : decode cX12_packs 72 = .ok (.iload 9, 2) := by decide +kernel
theorem dX12_packs_74 : decode cX12_packs 74 = .ok (.aload_n 0, 1) := by decide +kernel
theorem dX12_packs_75 : decode cX12_packs 75 = .ok (.getfield 7, 3) := by decide +kernel
theorem dX12_packs_78 : decode cX12_packs 78 = .ok (.iload_n 3, 1) := by decide +kernel
theorem dX12_packs_79 : decode cX12_packs 79 = .ok (.iconst 0, 1) := by decide +kernel
theorem dX12_packs_80 : decode cX12_packs 80 = .ok (.iadd, 1) := by decide +kernel
theorem dX12_packs_81 : decode cX12_packs 81 = .ok (.iaload, 1) := by decide +kernel
theorem dX12_packs_82 : decode cX12_packs 82 = .ok (.if_icmp .ge 17, 3) := by decide +kernel
theorem dX12_packs_85 : decode cX12_packs 85 = .ok (.aload_n 0, 1) := by decide +kernel
theorem dX12_packs_86 : decode cX12_packs 86 = .ok (.getfield 7, 3) := by decide +kernel
theorem dX12_packs_89 : decode cX12_packs 89 = .ok (.iload_n 3, 1) := by decide +kernel
theorem dX12_packs_90 : decode cX12_packs 90 = .ok (.iconst 3, 1) := by decide +kernel
theorem dX12_packs_91 : decode cX12_packs 91 = .ok (.iadd, 1) := by decide +kernel
theorem dX12_packs_92 : decode cX12_packs 92 = .ok (.iload 9, 2) := by decide +kernel
theorem dX12_packs_94 : decode cX12_packs 94 = .ok (.iadd, 1) := by decide +kernel
theorem dX12_packs_95 : decode cX12_packs 95 = .ok (.iaload, 1) := by decide +kernel
theorem dX12_packs_96 : decode cX12_packs 96 = .ok (.goto 4, 3) := by decide +kernel
theorem dX12_packs_99 : decode cX12_packs 99 = .ok (.iconst 0, 1) := by decide +kernel
theorem dX12_packs_100 : decode cX12_packs 100 = .ok (.invokestatic 132, 3) := by decide +kernel
theorem dX12_packs_103 : decode cX12_packs 103 = .ok (.istore 7, 2) := by decide +kernel
theorem dX12_packs_105 : decode cX12_packs 105 = .ok (.iinc 8 (-1), 3) := by decide +kernel
theorem dX12_packs_108 : decode cX12_packs 108 = .ok (.goto (-57), 3) := by decide +kernel
theorem dX12_packs_111 : decode cX12_packs 111 = .ok (.aload_n 0, 1) := by decide +kernel
theorem dX12_packs_112 : decode cX12_packs 112 = .ok (.getfield 7, 3) := by decide +kernel
theorem dX12_packs_115 : decode cX12_packs 115 = .ok (.sipush 130, 3) := by decide +kernel
theorem dX12_packs_118 : decode cX12_packs 118 = .ok (.bipush 40, 2) := by decide +kernel
theorem dX12_packs_120 : decode cX12_packs 120 = .ok (.iload 6, 2) := by decide +kernel
theorem dX12_packs_122 : decode cX12_packs 122 = .ok (.imul, 1) := by decide +kernel
theorem dX12_packs_123 : decode cX12_packs 123 = .ok (.iadd, 1) := by decide +kernel
theorem dX12_packs_124 : decode cX12_packs 124 = .ok (.iload_n 2, 1) := by decide +kernel
theorem dX12_packs_125 : decode cX12_packs 125 = .ok (.iadd, 1) := by decide +kernel
theorem dX12_packs_126 : decode cX12_packs 126 = .ok (.iload 5, 2) := by decide +kernel
theorem dX12_packs_128 : decode cX12_packs 128 = .ok (.iadd, 1) := by decide +kernel
theorem dX12_packs_129 : decode cX12_packs 129 = .ok (.iload 7, 2) := by decide +kernel
theorem dX12_packs_131 : decode cX12_packs 131 = .ok (.iastore, 1) := by decide +kernel
theorem dX12_packs_132 : decode cX12_packs 132 = .ok (.aload_n 0, 1) := by decide +kernel
theorem dX12_packs_133 : decode cX12_packs 133 = .ok (.getfield 7, 3) := by decide +kernel
theorem dX12_packs_136 : decode cX12_packs 136 = .ok (.sipush 450, 3) := by decide +kernel
theorem dX12_packs_139 : decode cX12_packs 139 = .ok (.bipush 40, 2) := by decide +kernel
theorem dX12_packs_141 : decode cX12_packs 141 = .ok (.iload 6, 2) := by decide +kernel
theorem dX12_packs_143 : decode cX12_packs 143 = .ok (.imul, 1) := by decide +kernel
theorem dX12_packs_144 : decode cX12_packs 144 = .ok (.iadd, 1) := by decide +kernel
theorem dX12_packs_145 : decode cX12_packs 145 = .ok (.iload_n 2, 1) := by decide +kernel
theorem dX12_packs_146 : decode cX12_packs 146 = .ok (.iadd, 1) := by decide +kernel
theorem dX12_packs_147 : decode cX12_packs 147 = .ok (.iload 5, 2) := by decide +kernel
theorem dX12_packs_149 : decode cX12_packs 149 = .ok (.iadd, 1) := by decide +kernel
theorem dX12_packs_150 : decode cX12_packs 150 = .ok (.iload 7, 2) := by decide +kernel
theorem dX12_packs_152 : decode cX12_packs 152 = .ok (.iastore, 1) := by decide +kernel
theorem dX12_packs_153 : decode cX12_packs 153 = .ok (.iinc 6 1, 3) := by decide +kernel
theorem dX12_packs_156 : decode cX12_packs 156 = .ok (.goto (-125), 3) := by decide +kernel
theorem dX12_packs_159 : decode cX12_packs 159 = .ok (.iinc 5 1, 3) := by decide +kernel
theorem dX12_packs_162 : decode cX12_packs 162 = .ok (.goto (-144), 3) := by decide +kernel
theorem dX12_packs_165 : decode cX12_packs 165 = .ok (.return_, 1) := by decide +kernel
theorem dX12_pack_0 : decode cX12_pack 0 = .ok (.aload_n 0, 1) := by decide +kernel
theorem dX12_pack_1 : decode cX12_pack 1 = .ok (.getfield 7, 3) := by decide +kernel
theorem dX12_pack_4 : decode cX12_pack 4 = .ok (.iconst 2, 1) := by decide +kernel
theorem dX12_pack_5 : decode cX12_pack 5 = .ok (.iaload, 1) := by decide +kernel
theorem dX12_pack_6 : decode cX12_pack 6 = .ok (.ifCond .eq 10, 3) := by decide +kernel
theorem dX12_pack_9 : decode cX12_pack 9 = .ok (.aload_n 0, 1) := by decide +kernel
theorem dX12_pack_10 : decode cX12_pack 10 = .ok (.invokevirtual 136, 3) := by decide +kernel
theorem dX12_pack_13 : decode cX12_pack 13 = .ok (.ifCond .ne 6, 3) := by decide +kernel
theorem dX12_pack_16 : decode cX12_pack 16 = .ok (.bipush (-4), 2) := by decide +kernel
theorem dX12_pack_18 : decode cX12_pack 18 = .ok (.ireturn, 1) := by decide +kernel
theorem dX12_pack_19 : decode cX12_pack 19 = .ok (.aload_n 0, 1) := by decide +kernel
theorem dX12_pack_20 : decode cX12_pack 20 = .ok (.invokevirtual 120, 3) := by decide +kernel
theorem dX12_pack_23 : decode cX12_pack 23 = .ok (.aload_n 0, 1) := by decide +kernel
theorem dX12_pack_24 : decode cX12_pack 24 = .ok (.getfield 7, 3) := by decide +kernel
theorem dX12_pack_27 : decode cX12_pack 27 = .ok (.bipush 93, 2) := by decide +kernel
theorem dX12_pack_29 : decode cX12_pack 29 = .ok (.aload_n 0, 1) := by decide +kernel
theorem dX12_pack_30 : decode cX12_pack 30 = .ok (.getfield 7, 3) := by decide +kernel
theorem dX12_pack_33 : decode cX12_pack 33 = .ok (.iconst 2, 1) := by decide +kernel
theorem dX12_pack_34 : decode cX12_pack 34 = .ok (.iaload, 1) := by decide +kernel
theorem dX12_pack_35 : decode cX12_pack 35 = .ok (.iastore, 1) := by decide +kernel
theorem dX12_pack_36 : decode cX12_pack 36 = .ok (.aload_n 0, 1) := by decide +kernel
theorem dX12_pack_37 : decode cX12_pack 37 = .ok (.getfield 7, 3) := by decide +kernel
theorem dX12_pack_40 : decode cX12_pack 40 = .ok (.bipush 94, 2) := by decide +kernel
theorem dX12_pack_42 : decode cX12_pack 42 = .ok (.aload_n 0, 1) := by decide +kernel
theorem dX12_pack_43 : decode cX12_pack 43 = .ok (.getfield 7, 3) := by decide +kernel
theorem dX12_pack_46 : decode cX12_pack 46 = .ok (.iconst 0, 1) := by decide +kernel
theorem dX12_pack_47 : decode cX12_pack 47 = .ok (.iaload, 1) := by decide +kernel
theorem dX12_pack_48 : decode cX12_pack 48 = .ok (.iastore, 1) := by decide +kernel
theorem dX12_pack_49 : decode cX12_pack 49 = .ok (.iconst 0, 1) := by decide +kernel
theorem dX12_pack_50 : decode cX12_pack 50 = .ok (.istore_n 1, 1) := by decide +kernel
theorem dX12_pack_51 : decode cX12_pack 51 = .ok (.iconst 1, 1) := by decide +kernel
theorem dX12_pack_52 : decode cX12_pack 52 = .ok (.istore_n 2, 1) := by decide +kernel
theorem dX12_pack_53 : decode cX12_pack 53 = .ok (.iload_n 2, 1) := by decide +kernel
theorem dX12_pack_54 : decode cX12_pack 54 = .ok (.bipush 9, 2) := by decide +kernel
theorem dX12_pack_56 : decode cX12_pack 56 = .ok (.if_icmp .ge 106, 3) := by decide +kernel
theorem dX12_pack_59 : decode cX12_pack 59 = .ok (.iconst 0, 1) := by decide +kernel
theorem dX12_pack_60 : decode cX12_pack 60 = .ok (.istore_n 3, 1) := by decide +kernel
theorem dX12_pack_61 : decode cX12_pack 61 = .ok (.iload_n 3, 1) := by decide +kernel
theorem dX12_pack_62 : decode cX12_pack 62 = .ok (.aload_n 0, 1) := by decide +kernel
theorem dX12_pack_63 : decode cX12_pack 63 = .ok (.getfield 7, 3) := by decide +kernel
theorem dX12_pack_66 : decode cX12_pack 66 = .ok (.iconst 2, 1) := by decide +kernel
theorem dX12_pack_67 : decode cX12_pack 67 = .ok (.iaload, 1) := by decide +kernel
theorem dX12_pack_68 : decode cX12_pack 68 = .ok (.if_icmp .ge 88, 3) := by decide +kernel
theorem dX12_pack_71 : decode cX12_pack 71 = .ok (.aload_n 0, 1) := by decide +kernel
theorem dX12_pack_72 : decode cX12_pack 72 = .ok (.getfield 7, 3) := by decide +kernel
theorem dX12_pack_75 : decode cX12_pack 75 = .ok (.iload_n 3, 1) := by decide +kernel
theorem dX12_pack_76 : decode cX12_pack 76 = .ok (.invokestatic 35, 3) := by decide +kernel
theorem dX12_pack_79 : decode cX12_pack 79 = .ok (.iconst 1, 1) := by decide +kernel
theorem dX12_pack_80 : decode cX12_pack 80 = .ok (.iadd, 1) := by decide +kernel
theorem dX12_pack_81 : decode cX12_pack 81 = .ok (.iaload, 1) := by decide +kernel
theorem dX12_pack_82 : decode cX12_pack 82 = .ok (.iload_n 2, 1) := by decide +kernel
theorem dX12_pack_83 : decode cX12_pack 83 = .ok (.if_icmp .ne 67, 3) := by decide +kernel
theorem dX12_pack_86 : decode cX12_pack 86 = .ok (.aload_n 0, 1) := by decide +kernel
theorem dX12_pack_87 : decode cX12_pack 87 = .ok (.getfield 7, 3) := by decide +kernel
theorem dX12_pack_90 : decode cX12_pack 90 = .ok (.bipush 96, 2) := by decide +kernel
theorem dX12_pack_92 : decode cX12_pack 92 = .ok (.iconst 3, 1) := by decide +kernel
theorem dX12_pack_93 : decode cX12_pack 93 = .ok (.iload_n 3, 1) := by decide +kernel
theorem dX12_pack_94 : decode cX12_pack 94 = .ok (.imul, 1) := by decide +kernel
theorem dX12_pack_95 : decode cX12_pack 95 = .ok (.iadd, 1) := by decide +kernel
theorem dX12_pack_96 : decode cX12_pack 96 = .ok (.aload_n 0, 1) := by decide +kernel
theorem dX12_pack_97 : decode cX12_pack 97 = .ok (.getfield 7, 3) := by decide +kernel
theorem dX12_pack_100 : decode cX12_pack 100 = .ok (.iload_n 3, 1) := by decide +kernel
theorem dX12_pack_101 : decode cX12_pack 101 = .ok (.invokestatic 35, 3) := by decide +kernel
theorem dX12_pack_104 : decode cX12_pack 104 = .ok (.iconst 0, 1) := by decide +kernel
theorem dX12_pack_105 : decode cX12_pack 105 = .ok (.iadd, 1) := by decide +kernel
theorem dX12_pack_106 : decode cX12_pack 106 = .ok (.iaload, 1) := by decide +kernel
theorem dX12_pack_107 : decode cX12_pack 107 = .ok (.iastore, 1) := by decide +kernel
theorem dX12_pack_108 : decode cX12_pack 108 = .ok (.aload_n 0, 1) := by decide +kernel
theorem dX12_pack_109 : decode cX12_pack 109 = .ok (.getfield 7, 3) := by decide +kernel
theorem dX12_pack_112 : decode cX12_pack 112 = .ok (.bipush 96, 2) := by decide +kernel
theorem dX12_pack_114 : decode cX12_pack 114 = .ok (.iconst 3, 1) := by decide +kernel
theorem dX12_pack_115 : decode cX12_pack 115 = .ok (.iload_n 3, 1) := by decide +kernel
theorem dX12_pack_116 : decode cX12_pack 116 = .ok (.imul, 1) := by decide +kernel
theorem dX12_pack_117 : decode cX12_pack 117 = .ok (.iadd, 1) := by decide +kernel
theorem dX12_pack_118 : decode cX12_pack 118 = .ok (.iconst 1, 1) := by decide +kernel
theorem dX12_pack_119 : decode cX12_pack 119 = .ok (.iadd, 1) := by decide +kernel
theorem dX12_pack_120 : decode cX12_pack 120 = .ok (.iload_n 2, 1) := by decide +kernel
theorem dX12_pack_121 : decode cX12_pack 121 = .ok (.iastore, 1) := by decide +kernel
theorem dX12_pack_122 : decode cX12_pack 122 = .ok (.aload_n 0, 1) := by decide +kernel
theorem dX12_pack_123 : decode cX12_pack 123 = .ok (.getfield 7, 3) := by decide +kernel
theorem dX12_pack_126 : decode cX12_pack 126 = .ok (.bipush 96, 2) := by decide +kernel
theorem dX12_pack_128 : decode cX12_pack 128 = .ok (.iconst 3, 1) := by decide +kernel
theorem dX12_pack_129 : decode cX12_pack 129 = .ok (.iload_n 3, 1) := by decide +kernel
theorem dX12_pack_130 : decode cX12_pack 130 = .ok (.imul, 1) := by decide +kernel
theorem dX12_pack_131 : decode cX12_pack 131 = .ok (.iadd, 1) := by decide +kernel
theorem dX12_pack_132 : decode cX12_pack 132 = .ok (.iconst 2, 1) := by decide +kernel
theorem dX12_pack_133 : decode cX12_pack 133 = .ok (.iadd, 1) := by decide +kernel
theorem dX12_pack_134 : decode cX12_pack 134 = .ok (.iload_n 1, 1) := by decide +kernel
theorem dX12_pack_135 : decode cX12_pack 135 = .ok (.iastore, 1) := by decide +kernel
theorem dX12_pack_136 : decode cX12_pack 136 = .ok (.aload_n 0, 1) := by decide +kernel
theorem dX12_pack_137 : decode cX12_pack 137 = .ok (.iload_n 3, 1) := by decide +kernel
theorem dX12_pack_138 : decode cX12_pack 138 = .ok (.iload_n 1, 1) := by decide +kernel
theorem dX12_pack_139 : decode cX12_pack 139 = .ok (.invokevirtual 139, 3) := by decide +kernel
theorem dX12_pack_142 : decode cX12_pack 142 = .ok (.iload_n 1, 1) := by decide +kernel
theorem dX12_pack_143 : decode cX12_pack 143 = .ok (.aload_n 0, 1) := by decide +kernel
theorem dX12_pack_144 : decode cX12_pack 144 = .ok (.iload_n 3, 1) := by decide +kernel
theorem dX12_pack_145 : decode cX12_pack 145 = .ok (.invokevirtual 43, 3) := by decide +kernel
theorem dX12_pack_148 : decode cX12_pack 148 = .ok (.iadd, 1) := by decide +kernel
theorem dX12_pack_149 : decode cX12_pack 149 = .ok (.istore_n 1, 1) := by decide +kernel
theorem dX12_pack_150 : decode cX12_pack 150 = .ok (.iinc 3 1, 3) := by decide +kernel
theorem dX12_pack_153 : decode cX12_pack 153 = .ok (.goto (-92), 3) := by decide +kernel
theorem dX12_pack_156 : decode cX12_pack 156 = .ok (.iinc 2 1, 3) := by decide +kernel
theorem dX12_pack_159 : decode cX12_pack 159 = .ok (.goto (-106), 3) := by decide +kernel
theorem dX12_pack_162 : decode cX12_pack 162 = .ok (.aload_n 0, 1) := by decide +kernel
theorem dX12_pack_163 : decode cX12_pack 163 = .ok (.getfield 7, 3) := by decide +kernel
theorem dX12_pack_166 : decode cX12_pack 166 = .ok (.bipush 95, 2) := by decide +kernel
theorem dX12_pack_168 : decode cX12_pack 168 = .ok (.iload_n 1, 1) := by decide +kernel
theorem dX12_pack_169 : decode cX12_pack 169 = .ok (.iastore, 1) := by decide +kernel
theorem dX12_pack_170 : decode cX12_pack 170 = .ok (.iconst 0, 1) := by decide +kernel
theorem dX12_pack_171 : decode cX12_pack 171 = .ok (.istore_n 2, 1) := by decide +kernel
theorem dX12_pack_172 : decode cX12_pack 172 = .ok (.iload_n 2, 1) := by decide +kernel
theorem dX12_pack_173 : decode cX12_pack 173 = .ok (.bipush 8, 2) := by decide +kernel
theorem dX12_pack_175 : decode cX12_pack 175 = .ok (.if_icmp .ge 29, 3) := by decide +kernel
theorem dX12_pack_178 : decode cX12_pack 178 = .ok (.aload_n 0, 1) := by decide +kernel
theorem dX12_pack_179 : decode cX12_pack 179 = .ok (.getfield 7, 3) := by decide +kernel
theorem dX12_pack_182 : decode cX12_pack 182 = .ok (.bipush 114, 2) := by decide +kernel
theorem dX12_pack_184 : decode cX12_pack 184 = .ok (.iload_n 2, 1) := by decide +kernel
theorem dX12_pack_185 : decode cX12_pack 185 = .ok (.iadd, 1) := by decide +kernel
theorem dX12_pack_186 : decode cX12_pack 186 = .ok (.iconst 0, 1) := by decide +kernel
theorem dX12_pack_187 : decode cX12_pack 187 = .ok (.iastore, 1) := by decide +kernel
theorem dX12_pack_188 : decode cX12_pack 188 = .ok (.aload_n 0, 1) := by decide +kernel
theorem dX12_pack_189 : decode cX12_pack 189 = .ok (.getfield 7, 3) := by decide +kernel
theorem dX12_pack_192 : decode cX12_pack 192 = .ok (.bipush 122, 2) := by decide +kernel
theorem dX12_pack_194 : decode cX12_pack 194 = .ok (.iload_n 2, 1) := by decide +kernel
theorem dX12_pack_195 : decode cX12_pack 195 = .ok (.iadd, 1) := by decide +kernel
theorem dX12_pack_196 : decode cX12_pack 196 = .ok (.iload_n 1, 1) := by decide +kernel
theorem dX12_pack_197 : decode cX12_pack 197 = .ok (.iastore, 1) := by decide +kernel
theorem dX12_pack_198 : decode cX12_pack 198 = .ok (.iinc 2 1, 3) := by decide +kernel
theorem dX12_pack_201 : decode cX12_pack 201 = .ok (.goto (-29), 3) := by decide +kernel
theorem dX12_pack_204 : decode cX12_pack 204 = .ok (.iload_n 1, 1) := by decide +kernel
theorem dX12_pack_205 : decode cX12_pack 205 = .ok (.ireturn, 1) := by decide +kernel
theorem dX12_isPacket_0 : decode cX12_isPacket 0 = .ok (.iload_n 1, 1) := by decide +kernel
theorem dX12_isPacket_1 : decode cX12_isPacket 1 = .ok (.i2l, 1) := by decide +kernel
theorem dX12_isPacket_2 : decode cX12_isPacket 2 = .ok (.lconst 0, 1) := by decide +kernel
theorem dX12_isPacket_3 : decode cX12_isPacket 3 = .ok (.aload_n 0, 1) := by decide +kernel
theorem dX12_isPacket_4 : decode cX12_isPacket 4 = .ok (.getfield 7, 3) := by decide +kernel
theorem dX12_isPacket_7 : decode cX12_isPacket 7 = .ok (.bipush 94, 2) := by decide +kernel
theorem dX12_isPacket_9 : decode cX12_isPacket 9 = .ok (.iaload, 1) := by decide +kernel
theorem dX12_isPacket_10 : decode cX12_isPacket 10 = .ok (.iconst 1, 1) := by decide +kernel
theorem dX12_isPacket_11 : decode cX12_isPacket 11 = .ok (.isub, 1) := by decide +kernel
theorem dX12_isPacket_12 : decode cX12_isPacket 12 = .ok (.i2l, 1) := by decide +kernel
theorem dX12_isPacket_13 : decode cX12_isPacket 13 = .ok (.invokestatic 31, 3) := by decide +kernel
theorem dX12_isPacket_16 : decode cX12_isPacket 16 = .ok (.ireturn, 1) := by decide +kernel
theorem dX12_lose_0 : decode cX12_lose 0 = .ok (.aload_n 0, 1) := by decide +kernel
theorem dX12_lose_1 : decode cX12_lose 1 = .ok (.iload_n 1, 1) := by decide +kernel
theorem dX12_lose_2 : decode cX12_lose 2 = .ok (.invokevirtual 142, 3) := by decide +kernel
theorem dX12_lose_5 : decode cX12_lose 5 = .ok (.ifCond .ne 6, 3) := by decide +kernel
theorem dX12_lose_8 : decode cX12_lose 8 = .ok (.bipush (-2), 2) := by decide +kernel
theorem dX12_lose_10 : decode cX12_lose 10 = .ok (.ireturn, 1) := by decide +kernel
theorem dX12_lose_11 : decode cX12_lose 11 = .ok (.aload_n 0, 1) := by decide +kernel
theorem dX12_lose_12 : decode cX12_lose 12 = .ok (.getfield 7, 3) := by decide +kernel
theorem dX12_lose_15 : decode cX12_lose 15 = .ok (.bipush 114, 2) := by decide +kernel
theorem dX12_lose_17 : decode cX12_lose 17 = .ok (.iload_n 1, 1) := by decide +kernel
theorem dX12_lose_18 : decode cX12_lose 18 = .ok (.iadd, 1) := by decide +kernel
theorem dX12_lose_19 : decode cX12_lose 19 = .ok (.iaload, 1) := by decide +kernel
theorem dX12_lose_20 : decode cX12_lose 20 = .ok (.iconst 1, 1) := by decide +kernel
theorem dX12_lose_21 : decode cX12_lose 21 = .ok (.if_icmp .ne 6, 3) := by decide +kernel
theorem dX12_lose_24 : decode cX12_lose 24 = .ok (.bipush (-4), 2) := by decide +kernel
theorem dX12_lose_26 : decode cX12_lose 26 = .ok (.ireturn, 1) := by decide +kernel
theorem dX12_lose_27 : decode cX12_lose 27 = .ok (.aload_n 0, 1) := by decide +kernel
theorem dX12_lose_28 : decode cX12_lose 28 = .ok (.bipush 114, 2) := by decide +kernel
theorem dX12_lose_30 : decode cX12_lose 30 = .ok (.iload_n 1, 1) := by decide +kernel
theorem dX12_lose_31 : decode cX12_lose 31 = .ok (.iadd, 1) := by decide +kernel
theorem dX12_lose_32 : decode cX12_lose 32 = .ok (.iconst 1, 1) := by decide +kernel
theorem dX12_lose_33 : decode cX12_lose 33 = .ok (.invokevirtual 125, 3) := by decide +kernel
theorem dX12_lose_36 : decode cX12_lose 36 = .ok (.pop, 1) := by decide +kernel
theorem dX12_lose_37 : decode cX12_lose 37 = .ok (.aload_n 0, 1) := by decide +kernel
theorem dX12_lose_38 : decode cX12_lose 38 = .ok (.getfield 7, 3) := by decide +kernel
theorem dX12_lose_41 : decode cX12_lose 41 = .ok (.bipush 122, 2) := by decide +kernel
theorem dX12_lose_43 : decode cX12_lose 43 = .ok (.iload_n 1, 1) := by decide +kernel
theorem dX12_lose_44 : decode cX12_lose 44 = .ok (.iadd, 1) := by decide +kernel
theorem dX12_lose_45 : decode cX12_lose 45 = .ok (.iaload, 1) := by decide +kernel
theorem dX12_lose_46 : decode cX12_lose 46 = .ok (.ireturn, 1) := by decide +kernel
theorem dX12_cut_0 : decode cX12_cut 0 = .ok (.aload_n 0, 1) := by decide +kernel
theorem dX12_cut_1 : decode cX12_cut 1 = .ok (.iload_n 1, 1) := by decide +kernel
theorem dX12_cut_2 : decode cX12_cut 2 = .ok (.invokevirtual 142, 3) := by decide +kernel
theorem dX12_cut_5 : decode cX12_cut 5 = .ok (.ifCond .ne 6, 3) := by decide +kernel
theorem dX12_cut_8 : decode cX12_cut 8 = .ok (.bipush (-2), 2) := by decide +kernel
theorem dX12_cut_10 : decode cX12_cut 10 = .ok (.ireturn, 1) := by decide +kernel
theorem dX12_cut_11 : decode cX12_cut 11 = .ok (.iload_n 2, 1) := by decide +kernel
theorem dX12_cut_12 : decode cX12_cut 12 = .ok (.i2l, 1) := by decide +kernel
theorem dX12_cut_13 : decode cX12_cut 13 = .ok (.lconst 0, 1) := by decide +kernel
theorem dX12_cut_14 : decode cX12_cut 14 = .ok (.aload_n 0, 1) := by decide +kernel
theorem dX12_cut_15 : decode cX12_cut 15 = .ok (.getfield 7, 3) := by decide +kernel
theorem dX12_cut_18 : decode cX12_cut 18 = .ok (.bipush 122, 2) := by decide +kernel
theorem dX12_cut_20 : decode cX12_cut 20 = .ok (.iload_n 1, 1) := by decide +kernel
theorem dX12_cut_21 : decode cX12_cut 21 = .ok (.iadd, 1) := by decide +kernel
theorem dX12_cut_22 : decode cX12_cut 22 = .ok (.iaload, 1) := by decide +kernel
theorem dX12_cut_23 : decode cX12_cut 23 = .ok (.i2l, 1) := by decide +kernel
theorem dX12_cut_24 : decode cX12_cut 24 = .ok (.invokestatic 31, 3) := by decide +kernel
theorem dX12_cut_27 : decode cX12_cut 27 = .ok (.ifCond .ne 6, 3) := by decide +kernel
theorem dX12_cut_30 : decode cX12_cut 30 = .ok (.bipush (-3), 2) := by decide +kernel
theorem dX12_cut_32 : decode cX12_cut 32 = .ok (.ireturn, 1) := by decide +kernel
theorem dX12_cut_33 : decode cX12_cut 33 = .ok (.aload_n 0, 1) := by decide +kernel
theorem dX12_cut_34 : decode cX12_cut 34 = .ok (.getfield 7, 3) := by decide +kernel
theorem dX12_cut_37 : decode cX12_cut 37 = .ok (.bipush 114, 2) := by decide +kernel
theorem dX12_cut_39 : decode cX12_cut 39 = .ok (.iload_n 1, 1) := by decide +kernel
theorem dX12_cut_40 : decode cX12_cut 40 = .ok (.iadd, 1) := by decide +kernel
theorem dX12_cut_41 : decode cX12_cut 41 = .ok (.iaload, 1) := by decide +kernel
theorem dX12_cut_42 : decode cX12_cut 42 = .ok (.iconst 1, 1) := by decide +kernel
theorem dX12_cut_43 : decode cX12_cut 43 = .ok (.if_icmp .ne 6, 3) := by decide +kernel
theorem dX12_cut_46 : decode cX12_cut 46 = .ok (.bipush (-4), 2) := by decide +kernel
theorem dX12_cut_48 : decode cX12_cut 48 = .ok (.ireturn, 1) := by decide +kernel
theorem dX12_cut_49 : decode cX12_cut 49 = .ok (.aload_n 0, 1) := by decide +kernel
theorem dX12_cut_50 : decode cX12_cut 50 = .ok (.bipush 122, 2) := by decide +kernel
theorem dX12_cut_52 : decode cX12_cut 52 = .ok (.iload_n 1, 1) := by decide +kernel
theorem dX12_cut_53 : decode cX12_cut 53 = .ok (.iadd, 1) := by decide +kernel
theorem dX12_cut_54 : decode cX12_cut 54 = .ok (.iload_n 2, 1) := by decide +kernel
theorem dX12_cut_55 : decode cX12_cut 55 = .ok (.invokevirtual 125, 3) := by decide +kernel
theorem dX12_cut_58 : decode cX12_cut 58 = .ok (.iload_n 2, 1) := by decide +kernel
theorem dX12_cut_59 : decode cX12_cut 59 = .ok (.isub, 1) := by decide +kernel
theorem dX12_cut_60 : decode cX12_cut 60 = .ok (.ireturn, 1) := by decide +kernel
theorem dX12_hasNumber_0 : decode cX12_hasNumber 0 = .ok (.aload_n 0, 1) := by decide +kernel
theorem dX12_hasNumber_1 : decode cX12_hasNumber 1 = .ok (.getfield 7, 3) := by decide +kernel
theorem dX12_hasNumber_4 : decode cX12_hasNumber 4 = .ok (.bipush 114, 2) := by decide +kernel
theorem dX12_hasNumber_6 : decode cX12_hasNumber 6 = .ok (.iload_n 1, 1) := by decide +kernel
theorem dX12_hasNumber_7 : decode cX12_hasNumber 7 = .ok (.iadd, 1) := by decide +kernel
theorem dX12_hasNumber_8 : decode cX12_hasNumber 8 = .ok (.iaload, 1) := by decide +kernel
theorem dX12_hasNumber_9 : decode cX12_hasNumber 9 = .ok (.ifCond .ne 28, 3) := by decide +kernel
theorem dX12_hasNumber_12 : decode cX12_hasNumber 12 = .ok (.iload_n 2, 1) := by decide +kernel
theorem dX12_hasNumber_13 : decode cX12_hasNumber 13 = .ok (.i2l, 1) := by decide +kernel
theorem dX12_hasNumber_14 : decode cX12_hasNumber 14 = .ok (.lconst 0, 1) := by decide +kernel
theorem dX12_hasNumber_15 : decode cX12_hasNumber 15 = .ok (.aload_n 0, 1) := by decide +kernel
theorem dX12_hasNumber_16 : decode cX12_hasNumber 16 = .ok (.getfield 7, 3) := by decide +kernel
theorem dX12_hasNumber_19 : decode cX12_hasNumber 19 = .ok (.bipush 122, 2) := by decide +kernel
theorem dX12_hasNumber_21 : decode cX12_hasNumber 21 = .ok (.iload_n 1, 1) := by decide +kernel
theorem dX12_hasNumber_22 : decode cX12_hasNumber 22 = .ok (.iadd, 1) := by decide +kernel
theorem dX12_hasNumber_23 : decode cX12_hasNumber 23 = .ok (.iaload, 1) := by decide +kernel
theorem dX12_hasNumber_24 : decode cX12_hasNumber 24 = .ok (.iconst 1, 1) := by decide +kernel
theorem dX12_hasNumber_25 : decode cX12_hasNumber 25 = .ok (.isub, 1) := by decide +kernel
theorem dX12_hasNumber_26 : decode cX12_hasNumber 26 = .ok (.i2l, 1) := by decide +kernel
theorem dX12_hasNumber_27 : decode cX12_hasNumber 27 = .ok (.invokestatic 31, 3) := by decide +kernel
theorem dX12_hasNumber_30 : decode cX12_hasNumber 30 = .ok (.ifCond .eq 7, 3) := by decide +kernel
theorem dX12_hasNumber_33 : decode cX12_hasNumber 33 = .ok (.iconst 1, 1) := by decide +kernel
theorem dX12_hasNumber_34 : decode cX12_hasNumber 34 = .ok (.goto 4, 3) := by decide +kernel
theorem dX12_hasNumber_37 : decode cX12_hasNumber 37 = .ok (.iconst 0, 1) := by decide +kernel
theorem dX12_hasNumber_38 : decode cX12_hasNumber 38 = .ok (.ireturn, 1) := by decide +kernel
theorem dX12_spoil_0 : decode cX12_spoil 0 = .ok (.aload_n 0, 1) := by decide +kernel
theorem dX12_spoil_1 : decode cX12_spoil 1 = .ok (.iload_n 1, 1) := by decide +kernel
theorem dX12_spoil_2 : decode cX12_spoil 2 = .ok (.invokevirtual 142, 3) := by decide +kernel
theorem dX12_spoil_5 : decode cX12_spoil 5 = .ok (.ifCond .eq 12, 3) := by decide +kernel
theorem dX12_spoil_8 : decode cX12_spoil 8 = .ok (.aload_n 0, 1) := by decide +kernel
theorem dX12_spoil_9 : decode cX12_spoil 9 = .ok (.iload_n 1, 1) := by decide +kernel
theorem dX12_spoil_10 : decode cX12_spoil 10 = .ok (.iload_n 2, 1) := by decide +kernel
theorem dX12_spoil_11 : decode cX12_spoil 11 = .ok (.invokevirtual 145, 3) := by decide +kernel
theorem dX12_spoil_14 : decode cX12_spoil 14 = .ok (.ifCond .ne 6, 3) := by decide +kernel
theorem dX12_spoil_17 : decode cX12_spoil 17 = .ok (.bipush (-2), 2) := by decide +kernel
theorem dX12_spoil_19 : decode cX12_spoil 19 = .ok (.ireturn, 1) := by decide +kernel
theorem dX12_spoil_20 : decode cX12_spoil 20 = .ok (.iload_n 3, 1) := by decide +kernel
theorem dX12_spoil_21 : decode cX12_spoil 21 = .ok (.i2l, 1) := by decide +kernel
theorem dX12_spoil_22 : decode cX12_spoil 22 = .ok (.lconst 0, 1) := by decide +kernel
theorem dX12_spoil_23 : decode cX12_spoil 23 = .ok (.ldc2_w 149, 3) := by decide +kernel
theorem dX12_spoil_26 : decode cX12_spoil 26 = .ok (.invokestatic 31, 3) := by decide +kernel
theorem dX12_spoil_29 : decode cX12_spoil 29 = .ok (.ifCond .eq 21, 3) := by decide +kernel
theorem dX12_spoil_32 : decode cX12_spoil 32 = .ok (.aload_n 0, 1) := by decide +kernel
theorem dX12_spoil_33 : decode cX12_spoil 33 = .ok (.sipush 450, 3) := by decide +kernel
theorem dX12_spoil_36 : decode cX12_spoil 36 = .ok (.bipush 40, 2) := by decide +kernel
theorem dX12_spoil_38 : decode cX12_spoil 38 = .ok (.iload_n 1, 1) := by decide +kernel
theorem dX12_spoil_39 : decode cX12_spoil 39 = .ok (.imul, 1) := by decide +kernel
theorem dX12_spoil_40 : decode cX12_spoil 40 = .ok (.iadd, 1) := by decide +kernel
theorem dX12_spoil_41 : decode cX12_spoil 41 = .ok (.iload_n 2, 1) := by decide +kernel
theorem dX12_spoil_42 : decode cX12_spoil 42 = .ok (.iadd, 1) := by decide +kernel
theorem dX12_spoil_43 : decode cX12_spoil 43 = .ok (.iload_n 3, 1) := by decide +kernel
theorem dX12_spoil_44 : decode cX12_spoil 44 = .ok (.invokevirtual 125, 3) := by decide +kernel
theorem dX12_spoil_47 : decode cX12_spoil 47 = .ok (.goto 5, 3) := by decide +kernel
theorem dX12_spoil_50 : decode cX12_spoil 50 = .ok (.bipush (-3), 2) := by decide +kernel
theorem dX12_spoil_52 : decode cX12_spoil 52 = .ok (.ireturn, 1) := by decide +kernel
theorem dX12_again_0 : decode cX12_again 0 = .ok (.aload_n 0, 1) := by decide +kernel
theorem dX12_again_1 : decode cX12_again 1 = .ok (.iload_n 1, 1) := by decide +kernel
theorem dX12_again_2 : decode cX12_again 2 = .ok (.invokevirtual 142, 3) := by decide +kernel
theorem dX12_again_5 : decode cX12_again 5 = .ok (.ifCond .ne 6, 3) := by decide +kernel
theorem dX12_again_8 : decode cX12_again 8 = .ok (.bipush (-2), 2) := by decide +kernel
theorem dX12_again_10 : decode cX12_again 10 = .ok (.ireturn, 1) := by decide +kernel
theorem dX12_again_11 : decode cX12_again 11 = .ok (.aload_n 0, 1) := by decide +kernel
theorem dX12_again_12 : decode cX12_again 12 = .ok (.invokevirtual 120, 3) := by decide +kernel
theorem dX12_again_15 : decode cX12_again 15 = .ok (.iconst 0, 1) := by decide +kernel
theorem dX12_again_16 : decode cX12_again 16 = .ok (.istore_n 2, 1) := by decide +kernel
theorem dX12_again_17 : decode cX12_again 17 = .ok (.iconst 0, 1) := by decide +kernel
theorem dX12_again_18 : decode cX12_again 18 = .ok (.istore_n 3, 1) := by decide +kernel
theorem dX12_again_19 : decode cX12_again 19 = .ok (.iload_n 3, 1) := by decide +kernel
theorem dX12_again_20 : decode cX12_again 20 = .ok (.aload_n 0, 1) := by decide +kernel
theorem dX12_again_21 : decode cX12_again 21 = .ok (.getfield 7, 3) := by decide +kernel
theorem dX12_again_24 : decode cX12_again 24 = .ok (.bipush 95, 2) := by decide +kernel
theorem dX12_again_26 : decode cX12_again 26 = .ok (.iaload, 1) := by decide +kernel
theorem dX12_again_27 : decode cX12_again 27 = .ok (.if_icmp .ge 81, 3) := by decide +kernel
theorem dX12_again_30 : decode cX12_again 30 = .ok (.bipush 40, 2) := by decide +kernel
theorem dX12_again_32 : decode cX12_again 32 = .ok (.iload_n 1, 1) := by decide +kernel
theorem dX12_again_33 : decode cX12_again 33 = .ok (.imul, 1) := by decide +kernel
theorem dX12_again_34 : decode cX12_again 34 = .ok (.iload_n 3, 1) := by decide +kernel
theorem dX12_again_35 : decode cX12_again 35 = .ok (.iadd, 1) := by decide +kernel
theorem dX12_again_36 : decode cX12_again 36 = .ok (.istore 4, 2) := by decide +kernel
theorem dX12_again_38 : decode cX12_again 38 = .ok (.iload_n 2, 1) := by decide +kernel
theorem dX12_again_39 : decode cX12_again 39 = .ok (.aload_n 0, 1) := by decide +kernel
theorem dX12_again_40 : decode cX12_again 40 = .ok (.iload_n 1, 1) := by decide +kernel
theorem dX12_again_41 : decode cX12_again 41 = .ok (.iload_n 3, 1) := by decide +kernel
theorem dX12_again_42 : decode cX12_again 42 = .ok (.invokevirtual 145, 3) := by decide +kernel
theorem dX12_again_45 : decode cX12_again 45 = .ok (.ifCond .eq 28, 3) := by decide +kernel
theorem dX12_again_48 : decode cX12_again 48 = .ok (.aload_n 0, 1) := by decide +kernel
theorem dX12_again_49 : decode cX12_again 49 = .ok (.getfield 7, 3) := by decide +kernel
theorem dX12_again_52 : decode cX12_again 52 = .ok (.sipush 450, 3) := by decide +kernel
theorem dX12_again_55 : decode cX12_again 55 = .ok (.iload 4, 2) := by decide +kernel
theorem dX12_again_57 : decode cX12_again 57 = .ok (.iadd, 1) := by decide +kernel
theorem dX12_again_58 : decode cX12_again 58 = .ok (.iaload, 1) := by decide +kernel
theorem dX12_again_59 : decode cX12_again 59 = .ok (.aload_n 0, 1) := by decide +kernel
theorem dX12_again_60 : decode cX12_again 60 = .ok (.getfield 7, 3) := by decide +kernel
theorem dX12_again_63 : decode cX12_again 63 = .ok (.sipush 130, 3) := by decide +kernel
theorem dX12_again_66 : decode cX12_again 66 = .ok (.iload 4, 2) := by decide +kernel
theorem dX12_again_68 : decode cX12_again 68 = .ok (.iadd, 1) := by decide +kernel
theorem dX12_again_69 : decode cX12_again 69 = .ok (.iaload, 1) := by decide +kernel
theorem dX12_again_70 : decode cX12_again 70 = .ok (.if_icmp .eq 7, 3) := by decide +kernel
theorem dX12_again_73 : decode cX12_again 73 = .ok (.iconst 1, 1) := by decide +kernel
theorem dX12_again_74 : decode cX12_again 74 = .ok (.goto 4, 3) := by decide +kernel
theorem dX12_again_77 : decode cX12_again 77 = .ok (.iconst 0, 1) := by decide +kernel
theorem dX12_again_78 : decode cX12_again 78 = .ok (.iadd, 1) := by decide +kernel
theorem dX12_again_79 : decode cX12_again 79 = .ok (.istore_n 2, 1) := by decide +kernel
theorem dX12_again_80 : decode cX12_again 80 = .ok (.aload_n 0, 1) := by decide +kernel
theorem dX12_again_81 : decode cX12_again 81 = .ok (.getfield 7, 3) := by decide +kernel
theorem dX12_again_84 : decode cX12_again 84 = .ok (.sipush 450, 3) := by decide +kernel
theorem dX12_again_87 : decode cX12_again 87 = .ok (.iload 4, 2) := by decide +kernel
theorem dX12_again_89 : decode cX12_again 89 = .ok (.iadd, 1) := by decide +kernel
theorem dX12_again_90 : decode cX12_again 90 = .ok (.aload_n 0, 1) := by decide +kernel
theorem dX12_again_91 : decode cX12_again 91 = .ok (.getfield 7, 3) := by decide +kernel
theorem dX12_again_94 : decode cX12_again 94 = .ok (.sipush 130, 3) := by decide +kernel
theorem dX12_again_97 : decode cX12_again 97 = .ok (.iload 4, 2) := by decide +kernel
theorem dX12_again_99 : decode cX12_again 99 = .ok (.iadd, 1) := by decide +kernel
theorem dX12_again_100 : decode cX12_again 100 = .ok (.iaload, 1) := by decide +kernel
theorem dX12_again_101 : decode cX12_again 101 = .ok (.iastore, 1) := by decide +kernel
theorem dX12_again_102 : decode cX12_again 102 = .ok (.iinc 3 1, 3) := by decide +kernel
theorem dX12_again_105 : decode cX12_again 105 = .ok (.goto (-86), 3) := by decide +kernel
theorem dX12_again_108 : decode cX12_again 108 = .ok (.aload_n 0, 1) := by decide +kernel
theorem dX12_again_109 : decode cX12_again 109 = .ok (.getfield 7, 3) := by decide +kernel
theorem dX12_again_112 : decode cX12_again 112 = .ok (.bipush 114, 2) := by decide +kernel
theorem dX12_again_114 : decode cX12_again 114 = .ok (.iload_n 1, 1) := by decide +kernel
theorem dX12_again_115 : decode cX12_again 115 = .ok (.iadd, 1) := by decide +kernel
theorem dX12_again_116 : decode cX12_again 116 = .ok (.iconst 0, 1) := by decide +kernel
theorem dX12_again_117 : decode cX12_again 117 = .ok (.iastore, 1) := by decide +kernel
theorem dX12_again_118 : decode cX12_again 118 = .ok (.aload_n 0, 1) := by decide +kernel
theorem dX12_again_119 : decode cX12_again 119 = .ok (.getfield 7, 3) := by decide +kernel
theorem dX12_again_122 : decode cX12_again 122 = .ok (.bipush 122, 2) := by decide +kernel
theorem dX12_again_124 : decode cX12_again 124 = .ok (.iload_n 1, 1) := by decide +kernel
theorem dX12_again_125 : decode cX12_again 125 = .ok (.iadd, 1) := by decide +kernel
theorem dX12_again_126 : decode cX12_again 126 = .ok (.aload_n 0, 1) := by decide +kernel
theorem dX12_again_127 : decode cX12_again 127 = .ok (.getfield 7, 3) := by decide +kernel
theorem dX12_again_130 : decode cX12_again 130 = .ok (.bipush 95, 2) := by decide +kernel
theorem dX12_again_132 : decode cX12_again 132 = .ok (.iaload, 1) := by decide +kernel
theorem dX12_again_133 : decode cX12_again 133 = .ok (.iastore, 1) := by decide +kernel
theorem dX12_again_134 : decode cX12_again 134 = .ok (.iload_n 2, 1) := by decide +kernel
theorem dX12_again_135 : decode cX12_again 135 = .ok (.ireturn, 1) := by decide +kernel
theorem dX12_undo_0 : decode cX12_undo 0 = .ok (.aload_n 0, 1) := by decide +kernel
theorem dX12_undo_1 : decode cX12_undo 1 = .ok (.getfield 108, 3) := by decide +kernel
theorem dX12_undo_4 : decode cX12_undo 4 = .ok (.ifCond .ne 6, 3) := by decide +kernel
theorem dX12_undo_7 : decode cX12_undo 7 = .ok (.bipush (-4), 2) := by decide +kernel
theorem dX12_undo_9 : decode cX12_undo 9 = .ok (.ireturn, 1) := by decide +kernel
theorem dX12_undo_10 : decode cX12_undo 10 = .ok (.aload_n 0, 1) := by decide +kernel
theorem dX12_undo_11 : decode cX12_undo 11 = .ok (.dup, 1) := by decide +kernel
theorem dX12_undo_12 : decode cX12_undo 12 = .ok (.getfield 108, 3) := by decide +kernel
theorem dX12_undo_15 : decode cX12_undo 15 = .ok (.iconst 1, 1) := by decide +kernel
theorem dX12_undo_16 : decode cX12_undo 16 = .ok (.isub, 1) := by decide +kernel
theorem dX12_undo_17 : decode cX12_undo 17 = .ok (.putfield 108, 3) := by decide +kernel
theorem dX12_undo_20 : decode cX12_undo 20 = .ok (.aload_n 0, 1) := by decide +kernel
theorem dX12_undo_21 : decode cX12_undo 21 = .ok (.sipush 770, 3) := by decide +kernel
theorem dX12_undo_24 : decode cX12_undo 24 = .ok (.sipush 770, 3) := by decide +kernel
theorem dX12_undo_27 : decode cX12_undo 27 = .ok (.aload_n 0, 1) := by decide +kernel
theorem dX12_undo_28 : decode cX12_undo 28 = .ok (.getfield 108, 3) := by decide +kernel
theorem dX12_undo_31 : decode cX12_undo 31 = .ok (.imul, 1) := by decide +kernel
theorem dX12_undo_32 : decode cX12_undo 32 = .ok (.iadd, 1) := by decide +kernel
theorem dX12_undo_33 : decode cX12_undo 33 = .ok (.iconst 0, 1) := by decide +kernel
theorem dX12_undo_34 : decode cX12_undo 34 = .ok (.invokevirtual 116, 3) := by decide +kernel
theorem dX12_undo_37 : decode cX12_undo 37 = .ok (.aload_n 0, 1) := by decide +kernel
theorem dX12_undo_38 : decode cX12_undo 38 = .ok (.getfield 108, 3) := by decide +kernel
theorem dX12_undo_41 : decode cX12_undo 41 = .ok (.ireturn, 1) := by decide +kernel
theorem dX12_number_0 : decode cX12_number 0 = .ok (.aload_n 0, 1) := by decide +kernel
theorem dX12_number_1 : decode cX12_number 1 = .ok (.iload_n 1, 1) := by decide +kernel
theorem dX12_number_2 : decode cX12_number 2 = .ok (.invokevirtual 142, 3) := by decide +kernel
theorem dX12_number_5 : decode cX12_number 5 = .ok (.ifCond .eq 22, 3) := by decide +kernel
theorem dX12_number_8 : decode cX12_number 8 = .ok (.iload_n 2, 1) := by decide +kernel
theorem dX12_number_9 : decode cX12_number 9 = .ok (.i2l, 1) := by decide +kernel
theorem dX12_number_10 : decode cX12_number 10 = .ok (.lconst 0, 1) := by decide +kernel
theorem dX12_number_11 : decode cX12_number 11 = .ok (.aload_n 0, 1) := by decide +kernel
theorem dX12_number_12 : decode cX12_number 12 = .ok (.getfield 7, 3) := by decide +kernel
theorem dX12_number_15 : decode cX12_number 15 = .ok (.bipush 95, 2) := by decide +kernel
theorem dX12_number_17 : decode cX12_number 17 = .ok (.iaload, 1) := by decide +kernel
theorem dX12_number_18 : decode cX12_number 18 = .ok (.iconst 1, 1) := by decide +kernel
theorem dX12_number_19 : decode cX12_number 19 = .ok (.isub, 1) := by decide +kernel
theorem dX12_number_20 : decode cX12_number 20 = .ok (.i2l, 1) := by decide +kernel
theorem dX12_number_21 : decode cX12_number 21 = .ok (.invokestatic 31, 3) := by decide +kernel
theorem dX12_number_24 : decode cX12_number 24 = .ok (.ifCond .ne 6, 3) := by decide +kernel
theorem dX12_number_27 : decode cX12_number 27 = .ok (.bipush (-2), 2) := by decide +kernel
theorem dX12_number_29 : decode cX12_number 29 = .ok (.ireturn, 1) := by decide +kernel
theorem dX12_number_30 : decode cX12_number 30 = .ok (.aload_n 0, 1) := by decide +kernel
theorem dX12_number_31 : decode cX12_number 31 = .ok (.iload_n 1, 1) := by decide +kernel
theorem dX12_number_32 : decode cX12_number 32 = .ok (.iload_n 2, 1) := by decide +kernel
theorem dX12_number_33 : decode cX12_number 33 = .ok (.invokevirtual 145, 3) := by decide +kernel
theorem dX12_number_36 : decode cX12_number 36 = .ok (.ifCond .eq 21, 3) := by decide +kernel
theorem dX12_number_39 : decode cX12_number 39 = .ok (.aload_n 0, 1) := by decide +kernel
theorem dX12_number_40 : decode cX12_number 40 = .ok (.getfield 7, 3) := by decide +kernel
theorem dX12_number_43 : decode cX12_number 43 = .ok (.sipush 450, 3) := by decide +kernel
theorem dX12_number_46 : decode cX12_number 46 = .ok (.bipush 40, 2) := by decide +kernel
theorem dX12_number_48 : decode cX12_number 48 = .ok (.iload_n 1, 1) := by decide +kernel
theorem dX12_number_49 : decode cX12_number 49 = .ok (.imul, 1) := by decide +kernel
theorem dX12_number_50 : decode cX12_number 50 = .ok (.iadd, 1) := by decide +kernel
theorem dX12_number_51 : decode cX12_number 51 = .ok (.iload_n 2, 1) := by decide +kernel
theorem dX12_number_52 : decode cX12_number 52 = .ok (.iadd, 1) := by decide +kernel
theorem dX12_number_53 : decode cX12_number 53 = .ok (.iaload, 1) := by decide +kernel
theorem dX12_number_54 : decode cX12_number 54 = .ok (.goto 4, 3) := by decide +kernel
theorem dX12_number_57 : decode cX12_number 57 = .ok (.iconst (-1), 1) := by decide +kernel
theorem dX12_number_58 : decode cX12_number 58 = .ok (.ireturn, 1) := by decide +kernel
theorem dX12_isPacked_0 : decode cX12_isPacked 0 = .ok (.iload_n 1, 1) := by decide +kernel
theorem dX12_isPacked_1 : decode cX12_isPacked 1 = .ok (.i2l, 1) := by decide +kernel
theorem dX12_isPacked_2 : decode cX12_isPacked 2 = .ok (.lconst 0, 1) := by decide +kernel
theorem dX12_isPacked_3 : decode cX12_isPacked 3 = .ok (.aload_n 0, 1) := by decide +kernel
theorem dX12_isPacked_4 : decode cX12_isPacked 4 = .ok (.getfield 7, 3) := by decide +kernel
theorem dX12_isPacked_7 : decode cX12_isPacked 7 = .ok (.bipush 93, 2) := by decide +kernel
theorem dX12_isPacked_9 : decode cX12_isPacked 9 = .ok (.iaload, 1) := by decide +kernel
theorem dX12_isPacked_10 : decode cX12_isPacked 10 = .ok (.iconst 1, 1) := by decide +kernel
theorem dX12_isPacked_11 : decode cX12_isPacked 11 = .ok (.isub, 1) := by decide +kernel
theorem dX12_isPacked_12 : decode cX12_isPacked 12 = .ok (.i2l, 1) := by decide +kernel
theorem dX12_isPacked_13 : decode cX12_isPacked 13 = .ok (.invokestatic 31, 3) := by decide +kernel
theorem dX12_isPacked_16 : decode cX12_isPacked 16 = .ok (.ireturn, 1) := by decide +kernel
theorem dX12_packedNeed_0 : decode cX12_packedNeed 0 = .ok (.aload_n 0, 1) := by decide +kernel
theorem dX12_packedNeed_1 : decode cX12_packedNeed 1 = .ok (.getfield 7, 3) := by decide +kernel
theorem dX12_packedNeed_4 : decode cX12_packedNeed 4 = .ok (.bipush 96, 2) := by decide +kernel
theorem dX12_packedNeed_6 : decode cX12_packedNeed 6 = .ok (.iconst 3, 1) := by decide +kernel
theorem dX12_packedNeed_7 : decode cX12_packedNeed 7 = .ok (.iload_n 1, 1) := by decide +kernel
theorem dX12_packedNeed_8 : decode cX12_packedNeed 8 = .ok (.imul, 1) := by decide +kernel
theorem dX12_packedNeed_9 : decode cX12_packedNeed 9 = .ok (.iadd, 1) := by decide +kernel
theorem dX12_packedNeed_10 : decode cX12_packedNeed 10 = .ok (.iconst 1, 1) := by decide +kernel
theorem dX12_packedNeed_11 : decode cX12_packedNeed 11 = .ok (.iadd, 1) := by decide +kernel
theorem dX12_packedNeed_12 : decode cX12_packedNeed 12 = .ok (.iaload, 1) := by decide +kernel
theorem dX12_packedNeed_13 : decode cX12_packedNeed 13 = .ok (.ireturn, 1) := by decide +kernel
theorem dX12_packedFirst_0 : decode cX12_packedFirst 0 = .ok (.aload_n 0, 1) := by decide +kernel
theorem dX12_packedFirst_1 : decode cX12_packedFirst 1 = .ok (.getfield 7, 3) := by decide +kernel
theorem dX12_packedFirst_4 : decode cX12_packedFirst 4 = .ok (.bipush 96, 2) := by decide +kernel
theorem dX12_packedFirst_6 : decode cX12_packedFirst 6 = .ok (.iconst 3, 1) := by decide +kernel
theorem dX12_packedFirst_7 : decode cX12_packedFirst 7 = .ok (.iload_n 1, 1) := by decide +kernel
theorem dX12_packedFirst_8 : decode cX12_packedFirst 8 = .ok (.imul, 1) := by decide +kernel
theorem dX12_packedFirst_9 : decode cX12_packedFirst 9 = .ok (.iadd, 1) := by decide +kernel
theorem dX12_packedFirst_10 : decode cX12_packedFirst 10 = .ok (.iconst 2, 1) := by decide +kernel
theorem dX12_packedFirst_11 : decode cX12_packedFirst 11 = .ok (.iadd, 1) := by decide +kernel
theorem dX12_packedFirst_12 : decode cX12_packedFirst 12 = .ok (.iaload, 1) := by decide +kernel
theorem dX12_packedFirst_13 : decode cX12_packedFirst 13 = .ok (.ireturn, 1) := by decide +kernel
theorem dX12_packedStripes_0 : decode cX12_packedStripes 0 = .ok (.aload_n 0, 1) := by decide +kernel
theorem dX12_packedStripes_1 : decode cX12_packedStripes 1 = .ok (.getfield 7, 3) := by decide +kernel
theorem dX12_packedStripes_4 : decode cX12_packedStripes 4 = .ok (.bipush 96, 2) := by decide +kernel
theorem dX12_packedStripes_6 : decode cX12_packedStripes 6 = .ok (.iconst 3, 1) := by decide +kernel
theorem dX12_packedStripes_7 : decode cX12_packedStripes 7 = .ok (.iload_n 1, 1) := by decide +kernel
theorem dX12_packedStripes_8 : decode cX12_packedStripes 8 = .ok (.imul, 1) := by decide +kernel
theorem dX12_packedStripes_9 : decode cX12_packedStripes 9 = .ok (.iadd, 1) := by decide +kernel
theorem dX12_packedStripes_10 : decode cX12_packedStripes 10 = .ok (.iaload, 1) := by decide +kernel
theorem dX12_packedStripes_11 : decode cX12_packedStripes 11 = .ok (.aload_n 0, 1) := by decide +kernel
theorem dX12_packedStripes_12 : decode cX12_packedStripes 12 = .ok (.iload_n 1, 1) := by decide +kernel
theorem dX12_packedStripes_13 : decode cX12_packedStripes 13 = .ok (.invokevirtual 151, 3) := by decide +kernel
theorem dX12_packedStripes_16 : decode cX12_packedStripes 16 = .ok (.invokestatic 39, 3) := by decide +kernel
theorem dX12_packedStripes_19 : decode cX12_packedStripes 19 = .ok (.ireturn, 1) := by decide +kernel
theorem dX12_holders_0 : decode cX12_holders 0 = .ok (.iconst 0, 1) := by decide +kernel
theorem dX12_holders_1 : decode cX12_holders 1 = .ok (.istore_n 2, 1) := by decide +kernel
theorem dX12_holders_2 : decode cX12_holders 2 = .ok (.iconst 0, 1) := by decide +kernel
theorem dX12_holders_3 : decode cX12_holders 3 = .ok (.istore_n 3, 1) := by decide +kernel
theorem dX12_holders_4 : decode cX12_holders 4 = .ok (.iload_n 3, 1) := by decide +kernel
theorem dX12_holders_5 : decode cX12_holders 5 = .ok (.aload_n 0, 1) := by decide +kernel
theorem dX12_holders_6 : decode cX12_holders 6 = .ok (.getfield 7, 3) := by decide +kernel
theorem dX12_holders_9 : decode cX12_holders 9 = .ok (.bipush 94, 2) := by decide +kernel
theorem dX12_holders_11 : decode cX12_holders 11 = .ok (.iaload, 1) := by decide +kernel
theorem dX12_holders_12 : decode cX12_holders 12 = .ok (.if_icmp .ge 28, 3) := by decide +kernel
theorem dX12_holders_15 : decode cX12_holders 15 = .ok (.iload_n 2, 1) := by decide +kernel
theorem dX12_holders_16 : decode cX12_holders 16 = .ok (.aload_n 0, 1) := by decide +kernel
theorem dX12_holders_17 : decode cX12_holders 17 = .ok (.iload_n 3, 1) := by decide +kernel
theorem dX12_holders_18 : decode cX12_holders 18 = .ok (.iload_n 1, 1) := by decide +kernel
theorem dX12_holders_19 : decode cX12_holders 19 = .ok (.invokevirtual 145, 3) := by decide +kernel
theorem dX12_holders_22 : decode cX12_holders 22 = .ok (.ifCond .eq 9, 3) := by decide +kernel
theorem dX12_holders_25 : decode cX12_holders 25 = .ok (.iconst 1, 1) := by decide +kernel
theorem dX12_holders_26 : decode cX12_holders 26 = .ok (.iload_n 3, 1) := by decide +kernel
theorem dX12_holders_27 : decode cX12_holders 27 = .ok (.ishl, 1) := by decide +kernel
theorem dX12_holders_28 : decode cX12_holders 28 = .ok (.goto 4, 3) := by decide +kernel
theorem dX12_holders_31 : decode cX12_holders 31 = .ok (.iconst 0, 1) := by decide +kernel
theorem dX12_holders_32 : decode cX12_holders 32 = .ok (.ior, 1) := by decide +kernel
theorem dX12_holders_33 : decode cX12_holders 33 = .ok (.istore_n 2, 1) := by decide +kernel
theorem dX12_holders_34 : decode cX12_holders 34 = .ok (.iinc 3 1, 3) := by decide +kernel
theorem dX12_holders_37 : decode cX12_holders 37 = .ok (.goto (-33), 3) := by decide +kernel
theorem dX12_holders_40 : decode cX12_holders 40 = .ok (.iload_n 2, 1) := by decide +kernel
theorem dX12_holders_41 : decode cX12_holders 41 = .ok (.ireturn, 1) := by decide +kernel
theorem dX12_ones_0 : decode cX12_ones 0 = .ok (.iconst 0, 1) := by decide +kernel
theorem dX12_ones_1 : decode cX12_ones 1 = .ok (.istore_n 1, 1) := by decide +kernel
theorem dX12_ones_2 : decode cX12_ones 2 = .ok (.iconst 0, 1) := by decide +kernel
theorem dX12_ones_3 : decode cX12_ones 3 = .ok (.istore_n 2, 1) := by decide +kernel
theorem dX12_ones_4 : decode cX12_ones 4 = .ok (.iload_n 2, 1) := by decide +kernel
theorem dX12_ones_5 : decode cX12_ones 5 = .ok (.bipush 8, 2) := by decide +kernel
theorem dX12_ones_7 : decode cX12_ones 7 = .ok (.if_icmp .ge 17, 3) := by decide +kernel
theorem dX12_ones_10 : decode cX12_ones 10 = .ok (.iload_n 1, 1) := by decide +kernel
theorem dX12_ones_11 : decode cX12_ones 11 = .ok (.iload_n 0, 1) := by decide +kernel
theorem dX12_ones_12 : decode cX12_ones 12 = .ok (.iload_n 2, 1) := by decide +kernel
theorem dX12_ones_13 : decode cX12_ones 13 = .ok (.ishr, 1) := by decide +kernel
theorem dX12_ones_14 : decode cX12_ones 14 = .ok (.iconst 1, 1) := by decide +kernel
theorem dX12_ones_15 : decode cX12_ones 15 = .ok (.iand, 1) := by decide +kernel
theorem dX12_ones_16 : decode cX12_ones 16 = .ok (.iadd, 1) := by decide +kernel
theorem dX12_ones_17 : decode cX12_ones 17 = .ok (.istore_n 1, 1) := by decide +kernel
theorem dX12_ones_18 : decode cX12_ones 18 = .ok (.iinc 2 1, 3) := by decide +kernel
theorem dX12_ones_21 : decode cX12_ones 21 = .ok (.goto (-17), 3) := by decide +kernel
theorem dX12_ones_24 : decode cX12_ones 24 = .ok (.iload_n 1, 1) := by decide +kernel
theorem dX12_ones_25 : decode cX12_ones 25 = .ok (.ireturn, 1) := by decide +kernel
theorem dX12_over_0 : decode cX12_over 0 = .ok (.iconst 1, 1) := by decide +kernel
theorem dX12_over_1 : decode cX12_over 1 = .ok (.istore_n 1, 1) := by decide +kernel
theorem dX12_over_2 : decode cX12_over 2 = .ok (.iload_n 0, 1) := by decide +kernel
theorem dX12_over_3 : decode cX12_over 3 = .ok (.iload_n 1, 1) := by decide +kernel
theorem dX12_over_4 : decode cX12_over 4 = .ok (.imul, 1) := by decide +kernel
theorem dX12_over_5 : decode cX12_over 5 = .ok (.bipush 29, 2) := by decide +kernel
theorem dX12_over_7 : decode cX12_over 7 = .ok (.irem, 1) := by decide +kernel
theorem dX12_over_8 : decode cX12_over 8 = .ok (.iconst 1, 1) := by decide +kernel
theorem dX12_over_9 : decode cX12_over 9 = .ok (.if_icmp .eq 9, 3) := by decide +kernel
theorem dX12_over_12 : decode cX12_over 12 = .ok (.iinc 1 1, 3) := by decide +kernel
theorem dX12_over_15 : decode cX12_over 15 = .ok (.goto (-13), 3) := by decide +kernel
theorem dX12_over_18 : decode cX12_over 18 = .ok (.iload_n 1, 1) := by decide +kernel
theorem dX12_over_19 : decode cX12_over 19 = .ok (.ireturn, 1) := by decide +kernel
theorem dX12_firsts_0 : decode cX12_firsts 0 = .ok (.iconst 0, 1) := by decide +kernel
theorem dX12_firsts_1 : decode cX12_firsts 1 = .ok (.istore_n 2, 1) := by decide +kernel
theorem dX12_firsts_2 : decode cX12_firsts 2 = .ok (.iload_n 0, 1) := by decide +kernel
theorem dX12_firsts_3 : decode cX12_firsts 3 = .ok (.istore_n 3, 1) := by decide +kernel
theorem dX12_firsts_4 : decode cX12_firsts 4 = .ok (.iconst 0, 1) := by decide +kernel
theorem dX12_firsts_5 : decode cX12_firsts 5 = .ok (.istore 4, 2) := by decide +kernel
theorem dX12_firsts_7 : decode cX12_firsts 7 = .ok (.iload 4, 2) := by decide +kernel
theorem dX12_firsts_9 : decode cX12_firsts 9 = .ok (.iload_n 1, 1) := by decide +kernel
theorem dX12_firsts_10 : decode cX12_firsts 10 = .ok (.if_icmp .ge 22, 3) := by decide +kernel
theorem dX12_firsts_13 : decode cX12_firsts 13 = .ok (.iload_n 2, 1) := by decide +kernel
theorem dX12_firsts_14 : decode cX12_firsts 14 = .ok (.iload_n 3, 1) := by decide +kernel
theorem dX12_firsts_15 : decode cX12_firsts 15 = .ok (.iload_n 3, 1) := by decide +kernel
theorem dX12_firsts_16 : decode cX12_firsts 16 = .ok (.ineg, 1) := by decide +kernel
theorem dX12_firsts_17 : decode cX12_firsts 17 = .ok (.iand, 1) := by decide +kernel
theorem dX12_firsts_18 : decode cX12_firsts 18 = .ok (.ior, 1) := by decide +kernel
theorem dX12_firsts_19 : decode cX12_firsts 19 = .ok (.istore_n 2, 1) := by decide +kernel
theorem dX12_firsts_20 : decode cX12_firsts 20 = .ok (.iload_n 3, 1) := by decide +kernel
theorem dX12_firsts_21 : decode cX12_firsts 21 = .ok (.iload_n 3, 1) := by decide +kernel
theorem dX12_firsts_22 : decode cX12_firsts 22 = .ok (.iconst 1, 1) := by decide +kernel
theorem dX12_firsts_23 : decode cX12_firsts 23 = .ok (.isub, 1) := by decide +kernel
theorem dX12_firsts_24 : decode cX12_firsts 24 = .ok (.iand, 1) := by decide +kernel
theorem dX12_firsts_25 : decode cX12_firsts 25 = .ok (.istore_n 3, 1) := by decide +kernel
theorem dX12_firsts_26 : decode cX12_firsts 26 = .ok (.iinc 4 1, 3) := by decide +kernel
theorem dX12_firsts_29 : decode cX12_firsts 29 = .ok (.goto (-22), 3) := by decide +kernel
theorem dX12_firsts_32 : decode cX12_firsts 32 = .ok (.iload_n 2, 1) := by decide +kernel
theorem dX12_firsts_33 : decode cX12_firsts 33 = .ok (.ireturn, 1) := by decide +kernel
theorem dX12_at__0 : decode cX12_at_ 0 = .ok (.iconst 0, 1) := by decide +kernel
theorem dX12_at__1 : decode cX12_at_ 1 = .ok (.istore 4, 2) := by decide +kernel
theorem dX12_at__3 : decode cX12_at_ 3 = .ok (.iload_n 2, 1) := by decide +kernel
theorem dX12_at__4 : decode cX12_at_ 4 = .ok (.iconst 1, 1) := by decide +kernel
theorem dX12_at__5 : decode cX12_at_ 5 = .ok (.isub, 1) := by decide +kernel
theorem dX12_at__6 : decode cX12_at_ 6 = .ok (.istore 5, 2) := by decide +kernel
theorem dX12_at__8 : decode cX12_at_ 8 = .ok (.iload 5, 2) := by decide +kernel
