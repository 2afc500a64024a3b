theorem dX7_takeFirst_7 : decode cX7_takeFirst 7 = .ok (.aload_n 0, 1) := by decide +kernel
theorem dX7_takeFirst_8 : decode cX7_takeFirst 8 = .ok (.getfield 86, 3) := by decide +kernel
theorem dX7_takeFirst_11 : decode cX7_takeFirst 11 = .ok (.putfield 89, 3) := by decide +kernel
theorem dX7_takeFirst_14 : decode cX7_takeFirst 14 = .ok (.iload_n 3, 1) := by decide +kernel
theorem dX7_takeFirst_15 : decode cX7_takeFirst 15 = .ok (.ireturn, 1) := by decide +kernel
theorem dX7_takeSecond_0 : decode cX7_takeSecond 0 = .ok (.aload_n 0, 1) := by decide +kernel
theorem dX7_takeSecond_1 : decode cX7_takeSecond 1 = .ok (.iload_n 2, 1) := by decide +kernel
theorem dX7_takeSecond_2 : decode cX7_takeSecond 2 = .ok (.invokevirtual 82, 3) := by decide +kernel
theorem dX7_takeSecond_5 : decode cX7_takeSecond 5 = .ok (.istore_n 3, 1) := by decide +kernel
theorem dX7_takeSecond_6 : decode cX7_takeSecond 6 = .ok (.aload_n 1, 1) := by decide +kernel
theorem dX7_takeSecond_7 : decode cX7_takeSecond 7 = .ok (.aload_n 0, 1) := by decide +kernel
theorem dX7_takeSecond_8 : decode cX7_takeSecond 8 = .ok (.getfield 86, 3) := by decide +kernel
theorem dX7_takeSecond_11 : decode cX7_takeSecond 11 = .ok (.putfield 92, 3) := by decide +kernel
theorem dX7_takeSecond_14 : decode cX7_takeSecond 14 = .ok (.iload_n 3, 1) := by decide +kernel
theorem dX7_takeSecond_15 : decode cX7_takeSecond 15 = .ok (.ireturn, 1) := by decide +kernel
theorem dX7_takeNumber_0 : decode cX7_takeNumber 0 = .ok (.aload_n 0, 1) := by decide +kernel
theorem dX7_takeNumber_1 : decode cX7_takeNumber 1 = .ok (.invokevirtual 39, 3) := by decide +kernel
theorem dX7_takeNumber_4 : decode cX7_takeNumber 4 = .ok (.aload_n 0, 1) := by decide +kernel
theorem dX7_takeNumber_5 : decode cX7_takeNumber 5 = .ok (.iconst 0, 1) := by decide +kernel
theorem dX7_takeNumber_6 : decode cX7_takeNumber 6 = .ok (.putfield 86, 3) := by decide +kernel
theorem dX7_takeNumber_9 : decode cX7_takeNumber 9 = .ok (.aload_n 0, 1) := by decide +kernel
theorem dX7_takeNumber_10 : decode cX7_takeNumber 10 = .ok (.getfield 42, 3) := by decide +kernel
theorem dX7_takeNumber_13 : decode cX7_takeNumber 13 = .ok (.iconst 2, 1) := by decide +kernel
theorem dX7_takeNumber_14 : decode cX7_takeNumber 14 = .ok (.if_icmp .ne 16, 3) := by decide +kernel
theorem dX7_takeNumber_17 : decode cX7_takeNumber 17 = .ok (.aload_n 0, 1) := by decide +kernel
theorem dX7_takeNumber_18 : decode cX7_takeNumber 18 = .ok (.getfield 22, 3) := by decide +kernel
theorem dX7_takeNumber_21 : decode cX7_takeNumber 21 = .ok (.aload_n 0, 1) := by decide +kernel
theorem dX7_takeNumber_22 : decode cX7_takeNumber 22 = .ok (.getfield 36, 3) := by decide +kernel
theorem dX7_takeNumber_25 : decode cX7_takeNumber 25 = .ok (.isub, 1) := by decide +kernel
theorem dX7_takeNumber_26 : decode cX7_takeNumber 26 = .ok (.iconst 2, 1) := by decide +kernel
theorem dX7_takeNumber_27 : decode cX7_takeNumber 27 = .ok (.if_icmp .le 5, 3) := by decide +kernel
theorem dX7_takeNumber_30 : decode cX7_takeNumber 30 = .ok (.iconst 0, 1) := by decide +kernel
theorem dX7_takeNumber_31 : decode cX7_takeNumber 31 = .ok (.ireturn, 1) := by decide +kernel
theorem dX7_takeNumber_32 : decode cX7_takeNumber 32 = .ok (.aload_n 0, 1) := by decide +kernel
theorem dX7_takeNumber_33 : decode cX7_takeNumber 33 = .ok (.getfield 36, 3) := by decide +kernel
theorem dX7_takeNumber_36 : decode cX7_takeNumber 36 = .ok (.istore_n 2, 1) := by decide +kernel
theorem dX7_takeNumber_37 : decode cX7_takeNumber 37 = .ok (.iload_n 2, 1) := by decide +kernel
theorem dX7_takeNumber_38 : decode cX7_takeNumber 38 = .ok (.aload_n 0, 1) := by decide +kernel
theorem dX7_takeNumber_39 : decode cX7_takeNumber 39 = .ok (.getfield 22, 3) := by decide +kernel
theorem dX7_takeNumber_42 : decode cX7_takeNumber 42 = .ok (.if_icmp .ge 48, 3) := by decide +kernel
theorem dX7_takeNumber_45 : decode cX7_takeNumber 45 = .ok (.aload_n 0, 1) := by decide +kernel
theorem dX7_takeNumber_46 : decode cX7_takeNumber 46 = .ok (.aload_n 0, 1) := by decide +kernel
theorem dX7_takeNumber_47 : decode cX7_takeNumber 47 = .ok (.getfield 86, 3) := by decide +kernel
theorem dX7_takeNumber_50 : decode cX7_takeNumber 50 = .ok (.bipush 10, 2) := by decide +kernel
theorem dX7_takeNumber_52 : decode cX7_takeNumber 52 = .ok (.imul, 1) := by decide +kernel
theorem dX7_takeNumber_53 : decode cX7_takeNumber 53 = .ok (.aload_n 0, 1) := by decide +kernel
theorem dX7_takeNumber_54 : decode cX7_takeNumber 54 = .ok (.getfield 9, 3) := by decide +kernel
theorem dX7_takeNumber_57 : decode cX7_takeNumber 57 = .ok (.iload_n 2, 1) := by decide +kernel
theorem dX7_takeNumber_58 : decode cX7_takeNumber 58 = .ok (.invokevirtual 95, 3) := by decide +kernel
theorem dX7_takeNumber_61 : decode cX7_takeNumber 61 = .ok (.ifCond .eq 18, 3) := by decide +kernel
theorem dX7_takeNumber_64 : decode cX7_takeNumber 64 = .ok (.aload_n 0, 1) := by decide +kernel
theorem dX7_takeNumber_65 : decode cX7_takeNumber 65 = .ok (.getfield 9, 3) := by decide +kernel
theorem dX7_takeNumber_68 : decode cX7_takeNumber 68 = .ok (.getfield 98, 3) := by decide +kernel
theorem dX7_takeNumber_71 : decode cX7_takeNumber 71 = .ok (.iload_n 2, 1) := by decide +kernel
theorem dX7_takeNumber_72 : decode cX7_takeNumber 72 = .ok (.iaload, 1) := by decide +kernel
theorem dX7_takeNumber_73 : decode cX7_takeNumber 73 = .ok (.bipush 48, 2) := by decide +kernel
theorem dX7_takeNumber_75 : decode cX7_takeNumber 75 = .ok (.isub, 1) := by decide +kernel
theorem dX7_takeNumber_76 : decode cX7_takeNumber 76 = .ok (.goto 4, 3) := by decide +kernel
theorem dX7_takeNumber_79 : decode cX7_takeNumber 79 = .ok (.iconst 0, 1) := by decide +kernel
theorem dX7_takeNumber_80 : decode cX7_takeNumber 80 = .ok (.iadd, 1) := by decide +kernel
theorem dX7_takeNumber_81 : decode cX7_takeNumber 81 = .ok (.putfield 86, 3) := by decide +kernel
theorem dX7_takeNumber_84 : decode cX7_takeNumber 84 = .ok (.iinc 2 1, 3) := by decide +kernel
theorem dX7_takeNumber_87 : decode cX7_takeNumber 87 = .ok (.goto (-50), 3) := by decide +kernel
theorem dX7_takeNumber_90 : decode cX7_takeNumber 90 = .ok (.aload_n 0, 1) := by decide +kernel
theorem dX7_takeNumber_91 : decode cX7_takeNumber 91 = .ok (.getfield 86, 3) := by decide +kernel
theorem dX7_takeNumber_94 : decode cX7_takeNumber 94 = .ok (.iconst 1, 1) := by decide +kernel
theorem dX7_takeNumber_95 : decode cX7_takeNumber 95 = .ok (.iload_n 1, 1) := by decide +kernel
theorem dX7_takeNumber_96 : decode cX7_takeNumber 96 = .ok (.invokestatic 102, 3) := by decide +kernel
theorem dX7_takeNumber_99 : decode cX7_takeNumber 99 = .ok (.ireturn, 1) := by decide +kernel
theorem dX7_takeToken_0 : decode cX7_takeToken 0 = .ok (.aload_n 0, 1) := by decide +kernel
theorem dX7_takeToken_1 : decode cX7_takeToken 1 = .ok (.aload_n 0, 1) := by decide +kernel
theorem dX7_takeToken_2 : decode cX7_takeToken 2 = .ok (.getfield 22, 3) := by decide +kernel
theorem dX7_takeToken_5 : decode cX7_takeToken 5 = .ok (.putfield 36, 3) := by decide +kernel
theorem dX7_takeToken_8 : decode cX7_takeToken 8 = .ok (.aload_n 0, 1) := by decide +kernel
theorem dX7_takeToken_9 : decode cX7_takeToken 9 = .ok (.getfield 36, 3) := by decide +kernel
theorem dX7_takeToken_12 : decode cX7_takeToken 12 = .ok (.aload_n 0, 1) := by decide +kernel
theorem dX7_takeToken_13 : decode cX7_takeToken 13 = .ok (.getfield 9, 3) := by decide +kernel
theorem dX7_takeToken_16 : decode cX7_takeToken 16 = .ok (.getfield 106, 3) := by decide +kernel
theorem dX7_takeToken_19 : decode cX7_takeToken 19 = .ok (.if_icmp .ge 32, 3) := by decide +kernel
theorem dX7_takeToken_22 : decode cX7_takeToken 22 = .ok (.aload_n 0, 1) := by decide +kernel
theorem dX7_takeToken_23 : decode cX7_takeToken 23 = .ok (.getfield 9, 3) := by decide +kernel
theorem dX7_takeToken_26 : decode cX7_takeToken 26 = .ok (.aload_n 0, 1) := by decide +kernel
theorem dX7_takeToken_27 : decode cX7_takeToken 27 = .ok (.getfield 36, 3) := by decide +kernel
theorem dX7_takeToken_30 : decode cX7_takeToken 30 = .ok (.bipush 32, 2) := by decide +kernel
theorem dX7_takeToken_32 : decode cX7_takeToken 32 = .ok (.invokevirtual 45, 3) := by decide +kernel
theorem dX7_takeToken_35 : decode cX7_takeToken 35 = .ok (.ifCond .eq 16, 3) := by decide +kernel
theorem dX7_takeToken_38 : decode cX7_takeToken 38 = .ok (.aload_n 0, 1) := by decide +kernel
theorem dX7_takeToken_39 : decode cX7_takeToken 39 = .ok (.dup, 1) := by decide +kernel
theorem dX7_takeToken_40 : decode cX7_takeToken 40 = .ok (.getfield 36, 3) := by decide +kernel
theorem dX7_takeToken_43 : decode cX7_takeToken 43 = .ok (.iconst 1, 1) := by decide +kernel
theorem dX7_takeToken_44 : decode cX7_takeToken 44 = .ok (.iadd, 1) := by decide +kernel
theorem dX7_takeToken_45 : decode cX7_takeToken 45 = .ok (.putfield 36, 3) := by decide +kernel
theorem dX7_takeToken_48 : decode cX7_takeToken 48 = .ok (.goto (-40), 3) := by decide +kernel
theorem dX7_takeToken_51 : decode cX7_takeToken 51 = .ok (.aload_n 0, 1) := by decide +kernel
theorem dX7_takeToken_52 : decode cX7_takeToken 52 = .ok (.aload_n 0, 1) := by decide +kernel
theorem dX7_takeToken_53 : decode cX7_takeToken 53 = .ok (.getfield 36, 3) := by decide +kernel
theorem dX7_takeToken_56 : decode cX7_takeToken 56 = .ok (.putfield 22, 3) := by decide +kernel
theorem dX7_takeToken_59 : decode cX7_takeToken 59 = .ok (.aload_n 0, 1) := by decide +kernel
theorem dX7_takeToken_60 : decode cX7_takeToken 60 = .ok (.getfield 36, 3) := by decide +kernel
theorem dX7_takeToken_63 : decode cX7_takeToken 63 = .ok (.aload_n 0, 1) := by decide +kernel
theorem dX7_takeToken_64 : decode cX7_takeToken 64 = .ok (.getfield 9, 3) := by decide +kernel
theorem dX7_takeToken_67 : decode cX7_takeToken 67 = .ok (.getfield 106, 3) := by decide +kernel
theorem dX7_takeToken_70 : decode cX7_takeToken 70 = .ok (.if_icmp .lt 11, 3) := by decide +kernel
theorem dX7_takeToken_73 : decode cX7_takeToken 73 = .ok (.aload_n 0, 1) := by decide +kernel
theorem dX7_takeToken_74 : decode cX7_takeToken 74 = .ok (.iconst 0, 1) := by decide +kernel
theorem dX7_takeToken_75 : decode cX7_takeToken 75 = .ok (.putfield 42, 3) := by decide +kernel
theorem dX7_takeToken_78 : decode cX7_takeToken 78 = .ok (.goto 138, 3) := by decide +kernel
theorem dX7_takeToken_81 : decode cX7_takeToken 81 = .ok (.aload_n 0, 1) := by decide +kernel
theorem dX7_takeToken_82 : decode cX7_takeToken 82 = .ok (.getfield 9, 3) := by decide +kernel
theorem dX7_takeToken_85 : decode cX7_takeToken 85 = .ok (.aload_n 0, 1) := by decide +kernel
theorem dX7_takeToken_86 : decode cX7_takeToken 86 = .ok (.getfield 36, 3) := by decide +kernel
theorem dX7_takeToken_89 : decode cX7_takeToken 89 = .ok (.invokevirtual 109, 3) := by decide +kernel
theorem dX7_takeToken_92 : decode cX7_takeToken 92 = .ok (.ifCond .eq 49, 3) := by decide +kernel
theorem dX7_takeToken_95 : decode cX7_takeToken 95 = .ok (.aload_n 0, 1) := by decide +kernel
theorem dX7_takeToken_96 : decode cX7_takeToken 96 = .ok (.iconst 1, 1) := by decide +kernel
theorem dX7_takeToken_97 : decode cX7_takeToken 97 = .ok (.putfield 42, 3) := by decide +kernel
theorem dX7_takeToken_100 : decode cX7_takeToken 100 = .ok (.aload_n 0, 1) := by decide +kernel
theorem dX7_takeToken_101 : decode cX7_takeToken 101 = .ok (.getfield 22, 3) := by decide +kernel
theorem dX7_takeToken_104 : decode cX7_takeToken 104 = .ok (.aload_n 0, 1) := by decide +kernel
theorem dX7_takeToken_105 : decode cX7_takeToken 105 = .ok (.getfield 9, 3) := by decide +kernel
theorem dX7_takeToken_108 : decode cX7_takeToken 108 = .ok (.getfield 106, 3) := by decide +kernel
theorem dX7_takeToken_111 : decode cX7_takeToken 111 = .ok (.if_icmp .ge 105, 3) := by decide +kernel
theorem dX7_takeToken_114 : decode cX7_takeToken 114 = .ok (.aload_n 0, 1) := by decide +kernel
theorem dX7_takeToken_115 : decode cX7_takeToken 115 = .ok (.getfield 9, 3) := by decide +kernel
theorem dX7_takeToken_118 : decode cX7_takeToken 118 = .ok (.aload_n 0, 1) := by decide +kernel
theorem dX7_takeToken_119 : decode cX7_takeToken 119 = .ok (.getfield 22, 3) := by decide +kernel
theorem dX7_takeToken_122 : decode cX7_takeToken 122 = .ok (.invokevirtual 109, 3) := by decide +kernel
theorem dX7_takeToken_125 : decode cX7_takeToken 125 = .ok (.ifCond .eq 91, 3) := by decide +kernel
theorem dX7_takeToken_128 : decode cX7_takeToken 128 = .ok (.aload_n 0, 1) := by decide +kernel
theorem dX7_takeToken_129 : decode cX7_takeToken 129 = .ok (.dup, 1) := by decide +kernel
theorem dX7_takeToken_130 : decode cX7_takeToken 130 = .ok (.getfield 22, 3) := by decide +kernel
theorem dX7_takeToken_133 : decode cX7_takeToken 133 = .ok (.iconst 1, 1) := by decide +kernel
theorem dX7_takeToken_134 : decode cX7_takeToken 134 = .ok (.iadd, 1) := by decide +kernel
theorem dX7_takeToken_135 : decode cX7_takeToken 135 = .ok (.putfield 22, 3) := by decide +kernel
theorem dX7_takeToken_138 : decode cX7_takeToken 138 = .ok (.goto (-38), 3) := by decide +kernel
theorem dX7_takeToken_141 : decode cX7_takeToken 141 = .ok (.aload_n 0, 1) := by decide +kernel
theorem dX7_takeToken_142 : decode cX7_takeToken 142 = .ok (.getfield 9, 3) := by decide +kernel
theorem dX7_takeToken_145 : decode cX7_takeToken 145 = .ok (.aload_n 0, 1) := by decide +kernel
theorem dX7_takeToken_146 : decode cX7_takeToken 146 = .ok (.getfield 36, 3) := by decide +kernel
theorem dX7_takeToken_149 : decode cX7_takeToken 149 = .ok (.invokevirtual 95, 3) := by decide +kernel
theorem dX7_takeToken_152 : decode cX7_takeToken 152 = .ok (.ifCond .eq 49, 3) := by decide +kernel
theorem dX7_takeToken_155 : decode cX7_takeToken 155 = .ok (.aload_n 0, 1) := by decide +kernel
theorem dX7_takeToken_156 : decode cX7_takeToken 156 = .ok (.iconst 2, 1) := by decide +kernel
theorem dX7_takeToken_157 : decode cX7_takeToken 157 = .ok (.putfield 42, 3) := by decide +kernel
theorem dX7_takeToken_160 : decode cX7_takeToken 160 = .ok (.aload_n 0, 1) := by decide +kernel
theorem dX7_takeToken_161 : decode cX7_takeToken 161 = .ok (.getfield 22, 3) := by decide +kernel
theorem dX7_takeToken_164 : decode cX7_takeToken 164 = .ok (.aload_n 0, 1) := by decide +kernel
theorem dX7_takeToken_165 : decode cX7_takeToken 165 = .ok (.getfield 9, 3) := by decide +kernel
theorem dX7_takeToken_168 : decode cX7_takeToken 168 = .ok (.getfield 106, 3) := by decide +kernel
theorem dX7_takeToken_171 : decode cX7_takeToken 171 = .ok (.if_icmp .ge 45, 3) := by decide +kernel
theorem dX7_takeToken_174 : decode cX7_takeToken 174 = .ok (.aload_n 0, 1) := by decide +kernel
theorem dX7_takeToken_175 : decode cX7_takeToken 175 = .ok (.getfield 9, 3) := by decide +kernel
theorem dX7_takeToken_178 : decode cX7_takeToken 178 = .ok (.aload_n 0, 1) := by decide +kernel
theorem dX7_takeToken_179 : decode cX7_takeToken 179 = .ok (.getfield 22, 3) := by decide +kernel
theorem dX7_takeToken_182 : decode cX7_takeToken 182 = .ok (.invokevirtual 95, 3) := by decide +kernel
theorem dX7_takeToken_185 : decode cX7_takeToken 185 = .ok (.ifCond .eq 31, 3) := by decide +kernel
theorem dX7_takeToken_188 : decode cX7_takeToken 188 = .ok (.aload_n 0, 1) := by decide +kernel
theorem dX7_takeToken_189 : decode cX7_takeToken 189 = .ok (.dup, 1) := by decide +kernel
theorem dX7_takeToken_190 : decode cX7_takeToken 190 = .ok (.getfield 22, 3) := by decide +kernel
theorem dX7_takeToken_193 : decode cX7_takeToken 193 = .ok (.iconst 1, 1) := by decide +kernel
theorem dX7_takeToken_194 : decode cX7_takeToken 194 = .ok (.iadd, 1) := by decide +kernel
theorem dX7_takeToken_195 : decode cX7_takeToken 195 = .ok (.putfield 22, 3) := by decide +kernel
theorem dX7_takeToken_198 : decode cX7_takeToken 198 = .ok (.goto (-38), 3) := by decide +kernel
theorem dX7_takeToken_201 : decode cX7_takeToken 201 = .ok (.aload_n 0, 1) := by decide +kernel
theorem dX7_takeToken_202 : decode cX7_takeToken 202 = .ok (.iconst 3, 1) := by decide +kernel
theorem dX7_takeToken_203 : decode cX7_takeToken 203 = .ok (.putfield 42, 3) := by decide +kernel
theorem dX7_takeToken_206 : decode cX7_takeToken 206 = .ok (.aload_n 0, 1) := by decide +kernel
theorem dX7_takeToken_207 : decode cX7_takeToken 207 = .ok (.dup, 1) := by decide +kernel
theorem dX7_takeToken_208 : decode cX7_takeToken 208 = .ok (.getfield 22, 3) := by decide +kernel
theorem dX7_takeToken_211 : decode cX7_takeToken 211 = .ok (.iconst 1, 1) := by decide +kernel
theorem dX7_takeToken_212 : decode cX7_takeToken 212 = .ok (.iadd, 1) := by decide +kernel
theorem dX7_takeToken_213 : decode cX7_takeToken 213 = .ok (.putfield 22, 3) := by decide +kernel
theorem dX7_takeToken_216 : decode cX7_takeToken 216 = .ok (.return_, 1) := by decide +kernel
theorem dX8_init_0 : decode cX8_init 0 = .ok (.aload_n 0, 1) := by decide +kernel
theorem dX8_init_1 : decode cX8_init 1 = .ok (.invokespecial 3, 3) := by decide +kernel
theorem dX8_init_4 : decode cX8_init 4 = .ok (.aload_n 0, 1) := by decide +kernel
theorem dX8_init_5 : decode cX8_init 5 = .ok (.new 9, 3) := by decide +kernel
theorem dX8_init_8 : decode cX8_init 8 = .ok (.dup, 1) := by decide +kernel
theorem dX8_init_9 : decode cX8_init 9 = .ok (.invokespecial 11, 3) := by decide +kernel
theorem dX8_init_12 : decode cX8_init 12 = .ok (.putfield 12, 3) := by decide +kernel
theorem dX8_init_15 : decode cX8_init 15 = .ok (.aload_n 0, 1) := by decide +kernel
theorem dX8_init_16 : decode cX8_init 16 = .ok (.aload_n 1, 1) := by decide +kernel
theorem dX8_init_17 : decode cX8_init 17 = .ok (.putfield 18, 3) := by decide +kernel
theorem dX8_init_20 : decode cX8_init 20 = .ok (.aload_n 0, 1) := by decide +kernel
theorem dX8_init_21 : decode cX8_init 21 = .ok (.bipush 40, 2) := by decide +kernel
theorem dX8_init_23 : decode cX8_init 23 = .ok (.newarray .int, 2) := by decide +kernel
theorem dX8_init_25 : decode cX8_init 25 = .ok (.putfield 22, 3) := by decide +kernel
theorem dX8_init_28 : decode cX8_init 28 = .ok (.return_, 1) := by decide +kernel
theorem dX8_remember_0 : decode cX8_remember 0 = .ok (.aload_n 0, 1) := by decide +kernel
theorem dX8_remember_1 : decode cX8_remember 1 = .ok (.getfield 12, 3) := by decide +kernel
theorem dX8_remember_4 : decode cX8_remember 4 = .ok (.aload_n 1, 1) := by decide +kernel
theorem dX8_remember_5 : decode cX8_remember 5 = .ok (.invokevirtual 26, 3) := by decide +kernel
theorem dX8_remember_8 : decode cX8_remember 8 = .ok (.aload_n 0, 1) := by decide +kernel
theorem dX8_remember_9 : decode cX8_remember 9 = .ok (.aload_n 2, 1) := by decide +kernel
theorem dX8_remember_10 : decode cX8_remember 10 = .ok (.putfield 18, 3) := by decide +kernel
theorem dX8_remember_13 : decode cX8_remember 13 = .ok (.aload_n 0, 1) := by decide +kernel
theorem dX8_remember_14 : decode cX8_remember 14 = .ok (.aload_n 3, 1) := by decide +kernel
theorem dX8_remember_15 : decode cX8_remember 15 = .ok (.putfield 30, 3) := by decide +kernel
theorem dX8_remember_18 : decode cX8_remember 18 = .ok (.aload_n 3, 1) := by decide +kernel
theorem dX8_remember_19 : decode cX8_remember 19 = .ok (.ifnull 34, 3) := by decide +kernel
theorem dX8_remember_22 : decode cX8_remember 22 = .ok (.aload_n 3, 1) := by decide +kernel
theorem dX8_remember_23 : decode cX8_remember 23 = .ok (.getfield 34, 3) := by decide +kernel
theorem dX8_remember_26 : decode cX8_remember 26 = .ok (.iconst 0, 1) := by decide +kernel
theorem dX8_remember_27 : decode cX8_remember 27 = .ok (.aload_n 0, 1) := by decide +kernel
theorem dX8_remember_28 : decode cX8_remember 28 = .ok (.getfield 22, 3) := by decide +kernel
theorem dX8_remember_31 : decode cX8_remember 31 = .ok (.iconst 0, 1) := by decide +kernel
theorem dX8_remember_32 : decode cX8_remember 32 = .ok (.bipush 40, 2) := by decide +kernel
theorem dX8_remember_34 : decode cX8_remember 34 = .ok (.invokestatic 39, 3) := by decide +kernel
theorem dX8_remember_37 : decode cX8_remember 37 = .ok (.aload_n 0, 1) := by decide +kernel
theorem dX8_remember_38 : decode cX8_remember 38 = .ok (.aload_n 3, 1) := by decide +kernel
theorem dX8_remember_39 : decode cX8_remember 39 = .ok (.getfield 45, 3) := by decide +kernel
theorem dX8_remember_42 : decode cX8_remember 42 = .ok (.putfield 49, 3) := by decide +kernel
theorem dX8_remember_45 : decode cX8_remember 45 = .ok (.aload_n 0, 1) := by decide +kernel
theorem dX8_remember_46 : decode cX8_remember 46 = .ok (.aload_n 3, 1) := by decide +kernel
theorem dX8_remember_47 : decode cX8_remember 47 = .ok (.getfield 50, 3) := by decide +kernel
theorem dX8_remember_50 : decode cX8_remember 50 = .ok (.putfield 54, 3) := by decide +kernel
theorem dX8_remember_53 : decode cX8_remember 53 = .ok (.return_, 1) := by decide +kernel
theorem dX8_giveBack_0 : decode cX8_giveBack 0 = .ok (.aload_n 1, 1) := by decide +kernel
theorem dX8_giveBack_1 : decode cX8_giveBack 1 = .ok (.aload_n 0, 1) := by decide +kernel
theorem dX8_giveBack_2 : decode cX8_giveBack 2 = .ok (.getfield 12, 3) := by decide +kernel
theorem dX8_giveBack_5 : decode cX8_giveBack 5 = .ok (.invokevirtual 26, 3) := by decide +kernel
theorem dX8_giveBack_8 : decode cX8_giveBack 8 = .ok (.aload_n 0, 1) := by decide +kernel
theorem dX8_giveBack_9 : decode cX8_giveBack 9 = .ok (.getfield 30, 3) := by decide +kernel
theorem dX8_giveBack_12 : decode cX8_giveBack 12 = .ok (.ifnull 43, 3) := by decide +kernel
theorem dX8_giveBack_15 : decode cX8_giveBack 15 = .ok (.aload_n 0, 1) := by decide +kernel
theorem dX8_giveBack_16 : decode cX8_giveBack 16 = .ok (.getfield 22, 3) := by decide +kernel
theorem dX8_giveBack_19 : decode cX8_giveBack 19 = .ok (.iconst 0, 1) := by decide +kernel
theorem dX8_giveBack_20 : decode cX8_giveBack 20 = .ok (.aload_n 0, 1) := by decide +kernel
theorem dX8_giveBack_21 : decode cX8_giveBack 21 = .ok (.getfield 30, 3) := by decide +kernel
theorem dX8_giveBack_24 : decode cX8_giveBack 24 = .ok (.getfield 34, 3) := by decide +kernel
theorem dX8_giveBack_27 : decode cX8_giveBack 27 = .ok (.iconst 0, 1) := by decide +kernel
theorem dX8_giveBack_28 : decode cX8_giveBack 28 = .ok (.bipush 40, 2) := by decide +kernel
theorem dX8_giveBack_30 : decode cX8_giveBack 30 = .ok (.invokestatic 39, 3) := by decide +kernel
theorem dX8_giveBack_33 : decode cX8_giveBack 33 = .ok (.aload_n 0, 1) := by decide +kernel
theorem dX8_giveBack_34 : decode cX8_giveBack 34 = .ok (.getfield 30, 3) := by decide +kernel
theorem dX8_giveBack_37 : decode cX8_giveBack 37 = .ok (.aload_n 0, 1) := by decide +kernel
theorem dX8_giveBack_38 : decode cX8_giveBack 38 = .ok (.getfield 49, 3) := by decide +kernel
theorem dX8_giveBack_41 : decode cX8_giveBack 41 = .ok (.putfield 45, 3) := by decide +kernel
theorem dX8_giveBack_44 : decode cX8_giveBack 44 = .ok (.aload_n 0, 1) := by decide +kernel
theorem dX8_giveBack_45 : decode cX8_giveBack 45 = .ok (.getfield 30, 3) := by decide +kernel
theorem dX8_giveBack_48 : decode cX8_giveBack 48 = .ok (.aload_n 0, 1) := by decide +kernel
theorem dX8_giveBack_49 : decode cX8_giveBack 49 = .ok (.getfield 54, 3) := by decide +kernel
theorem dX8_giveBack_52 : decode cX8_giveBack 52 = .ok (.putfield 50, 3) := by decide +kernel
theorem dX8_giveBack_55 : decode cX8_giveBack 55 = .ok (.return_, 1) := by decide +kernel
theorem dX9_init_0 : decode cX9_init 0 = .ok (.aload_n 0, 1) := by decide +kernel
theorem dX9_init_1 : decode cX9_init 1 = .ok (.invokespecial 3, 3) := by decide +kernel
theorem dX9_init_4 : decode cX9_init 4 = .ok (.aload_n 0, 1) := by decide +kernel
theorem dX9_init_5 : decode cX9_init 5 = .ok (.bipush 8, 2) := by decide +kernel
theorem dX9_init_7 : decode cX9_init 7 = .ok (.anewarray 9, 3) := by decide +kernel
theorem dX9_init_10 : decode cX9_init 10 = .ok (.putfield 11, 3) := by decide +kernel
theorem dX9_init_13 : decode cX9_init 13 = .ok (.iconst 0, 1) := by decide +kernel
theorem dX9_init_14 : decode cX9_init 14 = .ok (.istore_n 2, 1) := by decide +kernel
theorem dX9_init_15 : decode cX9_init 15 = .ok (.iload_n 2, 1) := by decide +kernel
theorem dX9_init_16 : decode cX9_init 16 = .ok (.bipush 8, 2) := by decide +kernel
theorem dX9_init_18 : decode cX9_init 18 = .ok (.if_icmp .ge 23, 3) := by decide +kernel
theorem dX9_init_21 : decode cX9_init 21 = .ok (.aload_n 0, 1) := by decide +kernel
theorem dX9_init_22 : decode cX9_init 22 = .ok (.getfield 11, 3) := by decide +kernel
theorem dX9_init_25 : decode cX9_init 25 = .ok (.iload_n 2, 1) := by decide +kernel
theorem dX9_init_26 : decode cX9_init 26 = .ok (.new 9, 3) := by decide +kernel
theorem dX9_init_29 : decode cX9_init 29 = .ok (.dup, 1) := by decide +kernel
theorem dX9_init_30 : decode cX9_init 30 = .ok (.aload_n 1, 1) := by decide +kernel
theorem dX9_init_31 : decode cX9_init 31 = .ok (.invokespecial 17, 3) := by decide +kernel
theorem dX9_init_34 : decode cX9_init 34 = .ok (.aastore, 1) := by decide +kernel
theorem dX9_init_35 : decode cX9_init 35 = .ok (.iinc 2 1, 3) := by decide +kernel
theorem dX9_init_38 : decode cX9_init 38 = .ok (.goto (-23), 3) := by decide +kernel
theorem dX9_init_41 : decode cX9_init 41 = .ok (.return_, 1) := by decide +kernel
theorem dX9_keep_0 : decode cX9_keep 0 = .ok (.aload_n 0, 1) := by decide +kernel
theorem dX9_keep_1 : decode cX9_keep 1 = .ok (.getfield 11, 3) := by decide +kernel
theorem dX9_keep_4 : decode cX9_keep 4 = .ok (.aload_n 0, 1) := by decide +kernel
theorem dX9_keep_5 : decode cX9_keep 5 = .ok (.getfield 20, 3) := by decide +kernel
theorem dX9_keep_8 : decode cX9_keep 8 = .ok (.aaload, 1) := by decide +kernel
theorem dX9_keep_9 : decode cX9_keep 9 = .ok (.aload_n 1, 1) := by decide +kernel
theorem dX9_keep_10 : decode cX9_keep 10 = .ok (.aload_n 2, 1) := by decide +kernel
theorem dX9_keep_11 : decode cX9_keep 11 = .ok (.aload_n 3, 1) := by decide +kernel
theorem dX9_keep_12 : decode cX9_keep 12 = .ok (.invokevirtual 24, 3) := by decide +kernel
theorem dX9_keep_15 : decode cX9_keep 15 = .ok (.aload_n 0, 1) := by decide +kernel
theorem dX9_keep_16 : decode cX9_keep 16 = .ok (.aload_n 0, 1) := by decide +kernel
theorem dX9_keep_17 : decode cX9_keep 17 = .ok (.getfield 20, 3) := by decide +kernel
theorem dX9_keep_20 : decode cX9_keep 20 = .ok (.iconst 1, 1) := by decide +kernel
theorem dX9_keep_21 : decode cX9_keep 21 = .ok (.iadd, 1) := by decide +kernel
theorem dX9_keep_22 : decode cX9_keep 22 = .ok (.bipush 8, 2) := by decide +kernel
theorem dX9_keep_24 : decode cX9_keep 24 = .ok (.irem, 1) := by decide +kernel
theorem dX9_keep_25 : decode cX9_keep 25 = .ok (.putfield 20, 3) := by decide +kernel
theorem dX9_keep_28 : decode cX9_keep 28 = .ok (.aload_n 0, 1) := by decide +kernel
theorem dX9_keep_29 : decode cX9_keep 29 = .ok (.aload_n 0, 1) := by decide +kernel
theorem dX9_keep_30 : decode cX9_keep 30 = .ok (.getfield 28, 3) := by decide +kernel
theorem dX9_keep_33 : decode cX9_keep 33 = .ok (.iconst 1, 1) := by decide +kernel
theorem dX9_keep_34 : decode cX9_keep 34 = .ok (.iadd, 1) := by decide +kernel
theorem dX9_keep_35 : decode cX9_keep 35 = .ok (.bipush 8, 2) := by decide +kernel
theorem dX9_keep_37 : decode cX9_keep 37 = .ok (.invokestatic 31, 3) := by decide +kernel
theorem dX9_keep_40 : decode cX9_keep 40 = .ok (.putfield 28, 3) := by decide +kernel
theorem dX9_keep_43 : decode cX9_keep 43 = .ok (.return_, 1) := by decide +kernel
theorem dX9_takeBack_0 : decode cX9_takeBack 0 = .ok (.aload_n 0, 1) := by decide +kernel
theorem dX9_takeBack_1 : decode cX9_takeBack 1 = .ok (.aload_n 0, 1) := by decide +kernel
theorem dX9_takeBack_2 : decode cX9_takeBack 2 = .ok (.getfield 20, 3) := by decide +kernel
theorem dX9_takeBack_5 : decode cX9_takeBack 5 = .ok (.bipush 8, 2) := by decide +kernel
theorem dX9_takeBack_7 : decode cX9_takeBack 7 = .ok (.iadd, 1) := by decide +kernel
theorem dX9_takeBack_8 : decode cX9_takeBack 8 = .ok (.iconst 1, 1) := by decide +kernel
theorem dX9_takeBack_9 : decode cX9_takeBack 9 = .ok (.isub, 1) := by decide +kernel
theorem dX9_takeBack_10 : decode cX9_takeBack 10 = .ok (.bipush 8, 2) := by decide +kernel
theorem dX9_takeBack_12 : decode cX9_takeBack 12 = .ok (.irem, 1) := by decide +kernel
theorem dX9_takeBack_13 : decode cX9_takeBack 13 = .ok (.putfield 20, 3) := by decide +kernel
theorem dX9_takeBack_16 : decode cX9_takeBack 16 = .ok (.aload_n 0, 1) := by decide +kernel
theorem dX9_takeBack_17 : decode cX9_takeBack 17 = .ok (.iconst 0, 1) := by decide +kernel
theorem dX9_takeBack_18 : decode cX9_takeBack 18 = .ok (.aload_n 0, 1) := by decide +kernel
theorem dX9_takeBack_19 : decode cX9_takeBack 19 = .ok (.getfield 28, 3) := by decide +kernel
theorem dX9_takeBack_22 : decode cX9_takeBack 22 = .ok (.iconst 1, 1) := by decide +kernel
theorem dX9_takeBack_23 : decode cX9_takeBack 23 = .ok (.isub, 1) := by decide +kernel
theorem dX9_takeBack_24 : decode cX9_takeBack 24 = .ok (.invokestatic 37, 3) := by decide +kernel
theorem dX9_takeBack_27 : decode cX9_takeBack 27 = .ok (.putfield 28, 3) := by decide +kernel
theorem dX9_takeBack_30 : decode cX9_takeBack 30 = .ok (.aload_n 0, 1) := by decide +kernel
theorem dX9_takeBack_31 : decode cX9_takeBack 31 = .ok (.getfield 11, 3) := by decide +kernel
theorem dX9_takeBack_34 : decode cX9_takeBack 34 = .ok (.aload_n 0, 1) := by decide +kernel
theorem dX9_takeBack_35 : decode cX9_takeBack 35 = .ok (.getfield 20, 3) := by decide +kernel
theorem dX9_takeBack_38 : decode cX9_takeBack 38 = .ok (.aaload, 1) := by decide +kernel
theorem dX9_takeBack_39 : decode cX9_takeBack 39 = .ok (.areturn, 1) := by decide +kernel
theorem dX9_forget_0 : decode cX9_forget 0 = .ok (.aload_n 0, 1) := by decide +kernel
theorem dX9_forget_1 : decode cX9_forget 1 = .ok (.iconst 0, 1) := by decide +kernel
theorem dX9_forget_2 : decode cX9_forget 2 = .ok (.putfield 28, 3) := by decide +kernel
theorem dX9_forget_5 : decode cX9_forget 5 = .ok (.return_, 1) := by decide +kernel
theorem dX10_init_0 : decode cX10_init 0 = .ok (.aload_n 0, 1) := by decide +kernel
theorem dX10_init_1 : decode cX10_init 1 = .ok (.invokespecial 3, 3) := by decide +kernel
theorem dX10_init_4 : decode cX10_init 4 = .ok (.aload_n 0, 1) := by decide +kernel
theorem dX10_init_5 : decode cX10_init 5 = .ok (.sipush 200, 3) := by decide +kernel
theorem dX10_init_8 : decode cX10_init 8 = .ok (.newarray .int, 2) := by decide +kernel
theorem dX10_init_10 : decode cX10_init 10 = .ok (.putfield 9, 3) := by decide +kernel
theorem dX10_init_13 : decode cX10_init 13 = .ok (.aload_n 0, 1) := by decide +kernel
theorem dX10_init_14 : decode cX10_init 14 = .ok (.iconst 0, 1) := by decide +kernel
theorem dX10_init_15 : decode cX10_init 15 = .ok (.putfield 15, 3) := by decide +kernel
theorem dX10_init_18 : decode cX10_init 18 = .ok (.return_, 1) := by decide +kernel
theorem dX10_add_0 : decode cX10_add 0 = .ok (.aload_n 0, 1) := by decide +kernel
theorem dX10_add_1 : decode cX10_add 1 = .ok (.getfield 15, 3) := by decide +kernel
theorem dX10_add_4 : decode cX10_add 4 = .ok (.sipush 200, 3) := by decide +kernel
theorem dX10_add_7 : decode cX10_add 7 = .ok (.if_icmp .lt 5, 3) := by decide +kernel
theorem dX10_add_10 : decode cX10_add 10 = .ok (.iconst 0, 1) := by decide +kernel
theorem dX10_add_11 : decode cX10_add 11 = .ok (.ireturn, 1) := by decide +kernel
theorem dX10_add_12 : decode cX10_add 12 = .ok (.aload_n 0, 1) := by decide +kernel
theorem dX10_add_13 : decode cX10_add 13 = .ok (.getfield 9, 3) := by decide +kernel
theorem dX10_add_16 : decode cX10_add 16 = .ok (.aload_n 0, 1) := by decide +kernel
theorem dX10_add_17 : decode cX10_add 17 = .ok (.getfield 15, 3) := by decide +kernel
theorem dX10_add_20 : decode cX10_add 20 = .ok (.iload_n 1, 1) := by decide +kernel
theorem dX10_add_21 : decode cX10_add 21 = .ok (.iastore, 1) := by decide +kernel
theorem dX10_add_22 : decode cX10_add 22 = .ok (.aload_n 0, 1) := by decide +kernel
theorem dX10_add_23 : decode cX10_add 23 = .ok (.dup, 1) := by decide +kernel
theorem dX10_add_24 : decode cX10_add 24 = .ok (.getfield 15, 3) := by decide +kernel
theorem dX10_add_27 : decode cX10_add 27 = .ok (.iconst 1, 1) := by decide +kernel
theorem dX10_add_28 : decode cX10_add 28 = .ok (.iadd, 1) := by decide +kernel
theorem dX10_add_29 : decode cX10_add 29 = .ok (.putfield 15, 3) := by decide +kernel
theorem dX10_add_32 : decode cX10_add 32 = .ok (.iconst 1, 1) := by decide +kernel
theorem dX10_add_33 : decode cX10_add 33 = .ok (.ireturn, 1) := by decide +kernel
theorem dX10_isSmallLetter_0 : decode cX10_isSmallLetter 0 = .ok (.iload_n 1, 1) := by decide +kernel
theorem dX10_isSmallLetter_1 : decode cX10_isSmallLetter 1 = .ok (.ifCond .lt 37, 3) := by decide +kernel
theorem dX10_isSmallLetter_4 : decode cX10_isSmallLetter 4 = .ok (.iload_n 1, 1) := by decide +kernel
theorem dX10_isSmallLetter_5 : decode cX10_isSmallLetter 5 = .ok (.aload_n 0, 1) := by decide +kernel
theorem dX10_isSmallLetter_6 : decode cX10_isSmallLetter 6 = .ok (.getfield 15, 3) := by decide +kernel
theorem dX10_isSmallLetter_9 : decode cX10_isSmallLetter 9 = .ok (.if_icmp .ge 29, 3) := by decide +kernel
theorem dX10_isSmallLetter_12 : decode cX10_isSmallLetter 12 = .ok (.aload_n 0, 1) := by decide +kernel
theorem dX10_isSmallLetter_13 : decode cX10_isSmallLetter 13 = .ok (.getfield 9, 3) := by decide +kernel
theorem dX10_isSmallLetter_16 : decode cX10_isSmallLetter 16 = .ok (.iload_n 1, 1) := by decide +kernel
theorem dX10_isSmallLetter_17 : decode cX10_isSmallLetter 17 = .ok (.iaload, 1) := by decide +kernel
theorem dX10_isSmallLetter_18 : decode cX10_isSmallLetter 18 = .ok (.bipush 97, 2) := by decide +kernel
theorem dX10_isSmallLetter_20 : decode cX10_isSmallLetter 20 = .ok (.if_icmp .lt 18, 3) := by decide +kernel
theorem dX10_isSmallLetter_23 : decode cX10_isSmallLetter 23 = .ok (.aload_n 0, 1) := by decide +kernel
theorem dX10_isSmallLetter_24 : decode cX10_isSmallLetter 24 = .ok (.getfield 9, 3) := by decide +kernel
theorem dX10_isSmallLetter_27 : decode cX10_isSmallLetter 27 = .ok (.iload_n 1, 1) := by decide +kernel
theorem dX10_isSmallLetter_28 : decode cX10_isSmallLetter 28 = .ok (.iaload, 1) := by decide +kernel
theorem dX10_isSmallLetter_29 : decode cX10_isSmallLetter 29 = .ok (.bipush 122, 2) := by decide +kernel
theorem dX10_isSmallLetter_31 : decode cX10_isSmallLetter 31 = .ok (.if_icmp .gt 7, 3) := by decide +kernel
theorem dX10_isSmallLetter_34 : decode cX10_isSmallLetter 34 = .ok (.iconst 1, 1) := by decide +kernel
theorem dX10_isSmallLetter_35 : decode cX10_isSmallLetter 35 = .ok (.goto 4, 3) := by decide +kernel
theorem dX10_isSmallLetter_38 : decode cX10_isSmallLetter 38 = .ok (.iconst 0, 1) := by decide +kernel
theorem dX10_isSmallLetter_39 : decode cX10_isSmallLetter 39 = .ok (.ireturn, 1) := by decide +kernel
theorem dX10_isDigit_0 : decode cX10_isDigit 0 = .ok (.iload_n 1, 1) := by decide +kernel
theorem dX10_isDigit_1 : decode cX10_isDigit 1 = .ok (.ifCond .lt 37, 3) := by decide +kernel
theorem dX10_isDigit_4 : decode cX10_isDigit 4 = .ok (.iload_n 1, 1) := by decide +kernel
theorem dX10_isDigit_5 : decode cX10_isDigit 5 = .ok (.aload_n 0, 1) := by decide +kernel
theorem dX10_isDigit_6 : decode cX10_isDigit 6 = .ok (.getfield 15, 3) := by decide +kernel
theorem dX10_isDigit_9 : decode cX10_isDigit 9 = .ok (.if_icmp .ge 29, 3) := by decide +kernel
theorem dX10_isDigit_12 : decode cX10_isDigit 12 = .ok (.aload_n 0, 1) := by decide +kernel
theorem dX10_isDigit_13 : decode cX10_isDigit 13 = .ok (.getfield 9, 3) := by decide +kernel
theorem dX10_isDigit_16 : decode cX10_isDigit 16 = .ok (.iload_n 1, 1) := by decide +kernel
theorem dX10_isDigit_17 : decode cX10_isDigit 17 = .ok (.iaload, 1) := by decide +kernel
theorem dX10_isDigit_18 : decode cX10_isDigit 18 = .ok (.bipush 48, 2) := by decide +kernel
theorem dX10_isDigit_20 : decode cX10_isDigit 20 = .ok (.if_icmp .lt 18, 3) := by decide +kernel
theorem dX10_isDigit_23 : decode cX10_isDigit 23 = .ok (.aload_n 0, 1) := by decide +kernel
theorem dX10_isDigit_24 : decode cX10_isDigit 24 = .ok (.getfield 9, 3) := by decide +kernel
theorem dX10_isDigit_27 : decode cX10_isDigit 27 = .ok (.iload_n 1, 1) := by decide +kernel
theorem dX10_isDigit_28 : decode cX10_isDigit 28 = .ok (.iaload, 1) := by decide +kernel
theorem dX10_isDigit_29 : decode cX10_isDigit 29 = .ok (.bipush 57, 2) := by decide +kernel
theorem dX10_isDigit_31 : decode cX10_isDigit 31 = .ok (.if_icmp .gt 7, 3) := by decide +kernel
theorem dX10_isDigit_34 : decode cX10_isDigit 34 = .ok (.iconst 1, 1) := by decide +kernel
theorem dX10_isDigit_35 : decode cX10_isDigit 35 = .ok (.goto 4, 3) := by decide +kernel
theorem dX10_isDigit_38 : decode cX10_isDigit 38 = .ok (.iconst 0, 1) := by decide +kernel
theorem dX10_isDigit_39 : decode cX10_isDigit 39 = .ok (.ireturn, 1) := by decide +kernel
theorem dX10_isSign_0 : decode cX10_isSign 0 = .ok (.iload_n 1, 1) := by decide +kernel
theorem dX10_isSign_1 : decode cX10_isSign 1 = .ok (.ifCond .lt 25, 3) := by decide +kernel
theorem dX10_isSign_4 : decode cX10_isSign 4 = .ok (.iload_n 1, 1) := by decide +kernel
theorem dX10_isSign_5 : decode cX10_isSign 5 = .ok (.aload_n 0, 1) := by decide +kernel
theorem dX10_isSign_6 : decode cX10_isSign 6 = .ok (.getfield 15, 3) := by decide +kernel
theorem dX10_isSign_9 : decode cX10_isSign 9 = .ok (.if_icmp .ge 17, 3) := by decide +kernel
theorem dX10_isSign_12 : decode cX10_isSign 12 = .ok (.aload_n 0, 1) := by decide +kernel
theorem dX10_isSign_13 : decode cX10_isSign 13 = .ok (.getfield 9, 3) := by decide +kernel
theorem dX10_isSign_16 : decode cX10_isSign 16 = .ok (.iload_n 1, 1) := by decide +kernel
theorem dX10_isSign_17 : decode cX10_isSign 17 = .ok (.iaload, 1) := by decide +kernel
theorem dX10_isSign_18 : decode cX10_isSign 18 = .ok (.iload_n 2, 1) := by decide +kernel
theorem dX10_isSign_19 : decode cX10_isSign 19 = .ok (.if_icmp .ne 7, 3) := by decide +kernel
theorem dX10_isSign_22 : decode cX10_isSign 22 = .ok (.iconst 1, 1) := by decide +kernel
theorem dX10_isSign_23 : decode cX10_isSign 23 = .ok (.goto 4, 3) := by decide +kernel
theorem dX10_isSign_26 : decode cX10_isSign 26 = .ok (.iconst 0, 1) := by decide +kernel
theorem dX10_isSign_27 : decode cX10_isSign 27 = .ok (.ireturn, 1) := by decide +kernel
theorem dX10_says_0 : decode cX10_says 0 = .ok (.iload_n 2, 1) := by decide +kernel
theorem dX10_says_1 : decode cX10_says 1 = .ok (.iload_n 1, 1) := by decide +kernel
theorem dX10_says_2 : decode cX10_says 2 = .ok (.isub, 1) := by decide +kernel
theorem dX10_says_3 : decode cX10_says 3 = .ok (.aload_n 3, 1) := by decide +kernel
theorem dX10_says_4 : decode cX10_says 4 = .ok (.invokevirtual 19, 3) := by decide +kernel
theorem dX10_says_7 : decode cX10_says 7 = .ok (.if_icmp .eq 5, 3) := by decide +kernel
theorem dX10_says_10 : decode cX10_says 10 = .ok (.iconst 0, 1) := by decide +kernel
theorem dX10_says_11 : decode cX10_says 11 = .ok (.ireturn, 1) := by decide +kernel
theorem dX10_says_12 : decode cX10_says 12 = .ok (.iconst 0, 1) := by decide +kernel
theorem dX10_says_13 : decode cX10_says 13 = .ok (.istore 4, 2) := by decide +kernel
theorem dX10_says_15 : decode cX10_says 15 = .ok (.iload 4, 2) := by decide +kernel
theorem dX10_says_17 : decode cX10_says 17 = .ok (.aload_n 3, 1) := by decide +kernel
theorem dX10_says_18 : decode cX10_says 18 = .ok (.invokevirtual 19, 3) := by decide +kernel
theorem dX10_says_21 : decode cX10_says 21 = .ok (.if_icmp .ge 28, 3) := by decide +kernel
theorem dX10_says_24 : decode cX10_says 24 = .ok (.aload_n 0, 1) := by decide +kernel
theorem dX10_says_25 : decode cX10_says 25 = .ok (.iload_n 1, 1) := by decide +kernel
theorem dX10_says_26 : decode cX10_says 26 = .ok (.iload 4, 2) := by decide +kernel
theorem dX10_says_28 : decode cX10_says 28 = .ok (.iadd, 1) := by decide +kernel
theorem dX10_says_29 : decode cX10_says 29 = .ok (.aload_n 3, 1) := by decide +kernel
theorem dX10_says_30 : decode cX10_says 30 = .ok (.iload 4, 2) := by decide +kernel
theorem dX10_says_32 : decode cX10_says 32 = .ok (.invokevirtual 24, 3) := by decide +kernel
theorem dX10_says_35 : decode cX10_says 35 = .ok (.invokevirtual 28, 3) := by decide +kernel
theorem dX10_says_38 : decode cX10_says 38 = .ok (.ifCond .ne 5, 3) := by decide +kernel
theorem dX10_says_41 : decode cX10_says 41 = .ok (.iconst 0, 1) := by decide +kernel
theorem dX10_says_42 : decode cX10_says 42 = .ok (.ireturn, 1) := by decide +kernel
theorem dX10_says_43 : decode cX10_says 43 = .ok (.iinc 4 1, 3) := by decide +kernel
theorem dX10_says_46 : decode cX10_says 46 = .ok (.goto (-31), 3) := by decide +kernel
theorem dX10_says_49 : decode cX10_says 49 = .ok (.iconst 1, 1) := by decide +kernel
theorem dX10_says_50 : decode cX10_says 50 = .ok (.ireturn, 1) := by decide +kernel
theorem dX10_wordAt_0 : decode cX10_wordAt 0 = .ok (.iload_n 2, 1) := by decide +kernel
theorem dX10_wordAt_1 : decode cX10_wordAt 1 = .ok (.iconst 0, 1) := by decide +kernel
theorem dX10_wordAt_2 : decode cX10_wordAt 2 = .ok (.bipush 12, 2) := by decide +kernel
theorem dX10_wordAt_4 : decode cX10_wordAt 4 = .ok (.invokestatic 32, 3) := by decide +kernel
theorem dX10_wordAt_7 : decode cX10_wordAt 7 = .ok (.ifCond .eq 7, 3) := by decide +kernel
theorem dX10_wordAt_10 : decode cX10_wordAt 10 = .ok (.iload_n 2, 1) := by decide +kernel
theorem dX10_wordAt_11 : decode cX10_wordAt 11 = .ok (.goto 4, 3) := by decide +kernel
theorem dX10_wordAt_14 : decode cX10_wordAt 14 = .ok (.iconst 0, 1) := by decide +kernel
theorem dX10_wordAt_15 : decode cX10_wordAt 15 = .ok (.newarray .int, 2) := by decide +kernel
theorem dX10_wordAt_17 : decode cX10_wordAt 17 = .ok (.astore_n 3, 1) := by decide +kernel
theorem dX10_wordAt_18 : decode cX10_wordAt 18 = .ok (.iconst 0, 1) := by decide +kernel
theorem dX10_wordAt_19 : decode cX10_wordAt 19 = .ok (.istore 4, 2) := by decide +kernel
theorem dX10_wordAt_21 : decode cX10_wordAt 21 = .ok (.iload 4, 2) := by decide +kernel
theorem dX10_wordAt_23 : decode cX10_wordAt 23 = .ok (.aload_n 3, 1) := by decide +kernel
theorem dX10_wordAt_24 : decode cX10_wordAt 24 = .ok (.arraylength, 1) := by decide +kernel
theorem dX10_wordAt_25 : decode cX10_wordAt 25 = .ok (.if_icmp .ge 40, 3) := by decide +kernel
theorem dX10_wordAt_28 : decode cX10_wordAt 28 = .ok (.aload_n 3, 1) := by decide +kernel
theorem dX10_wordAt_29 : decode cX10_wordAt 29 = .ok (.iload 4, 2) := by decide +kernel
theorem dX10_wordAt_31 : decode cX10_wordAt 31 = .ok (.aload_n 0, 1) := by decide +kernel
theorem dX10_wordAt_32 : decode cX10_wordAt 32 = .ok (.iload_n 1, 1) := by decide +kernel
theorem dX10_wordAt_33 : decode cX10_wordAt 33 = .ok (.iload 4, 2) := by decide +kernel
theorem dX10_wordAt_35 : decode cX10_wordAt 35 = .ok (.iadd, 1) := by decide +kernel
theorem dX10_wordAt_36 : decode cX10_wordAt 36 = .ok (.invokevirtual 36, 3) := by decide +kernel
theorem dX10_wordAt_39 : decode cX10_wordAt 39 = .ok (.ifCond .eq 18, 3) := by decide +kernel
theorem dX10_wordAt_42 : decode cX10_wordAt 42 = .ok (.aload_n 0, 1) := by decide +kernel
theorem dX10_wordAt_43 : decode cX10_wordAt 43 = .ok (.getfield 9, 3) := by decide +kernel
theorem dX10_wordAt_46 : decode cX10_wordAt 46 = .ok (.iload_n 1, 1) := by decide +kernel
theorem dX10_wordAt_47 : decode cX10_wordAt 47 = .ok (.iload 4, 2) := by decide +kernel
theorem dX10_wordAt_49 : decode cX10_wordAt 49 = .ok (.iadd, 1) := by decide +kernel
theorem dX10_wordAt_50 : decode cX10_wordAt 50 = .ok (.iaload, 1) := by decide +kernel
theorem dX10_wordAt_51 : decode cX10_wordAt 51 = .ok (.bipush 97, 2) := by decide +kernel
theorem dX10_wordAt_53 : decode cX10_wordAt 53 = .ok (.isub, 1) := by decide +kernel
theorem dX10_wordAt_54 : decode cX10_wordAt 54 = .ok (.goto 4, 3) := by decide +kernel
theorem dX10_wordAt_57 : decode cX10_wordAt 57 = .ok (.iconst 0, 1) := by decide +kernel
theorem dX10_wordAt_58 : decode cX10_wordAt 58 = .ok (.iastore, 1) := by decide +kernel
theorem dX10_wordAt_59 : decode cX10_wordAt 59 = .ok (.iinc 4 1, 3) := by decide +kernel
theorem dX10_wordAt_62 : decode cX10_wordAt 62 = .ok (.goto (-41), 3) := by decide +kernel
theorem dX10_wordAt_65 : decode cX10_wordAt 65 = .ok (.aload_n 3, 1) := by decide +kernel
theorem dX10_wordAt_66 : decode cX10_wordAt 66 = .ok (.areturn, 1) := by decide +kernel
theorem dX11_init_0 : decode cX11_init 0 = .ok (.aload_n 0, 1) := by decide +kernel
theorem dX11_init_1 : decode cX11_init 1 = .ok (.invokespecial 1, 3) := by decide +kernel
theorem dX11_init_4 : decode cX11_init 4 = .ok (.aload_n 0, 1) := by decide +kernel
theorem dX11_init_5 : decode cX11_init 5 = .ok (.new 7, 3) := by decide +kernel
theorem dX11_init_8 : decode cX11_init 8 = .ok (.dup, 1) := by decide +kernel
theorem dX11_init_9 : decode cX11_init 9 = .ok (.invokespecial 9, 3) := by decide +kernel
theorem dX11_init_12 : decode cX11_init 12 = .ok (.putfield 10, 3) := by decide +kernel
theorem dX11_init_15 : decode cX11_init 15 = .ok (.aload_n 0, 1) := by decide +kernel
theorem dX11_init_16 : decode cX11_init 16 = .ok (.new 16, 3) := by decide +kernel
theorem dX11_init_19 : decode cX11_init 19 = .ok (.dup, 1) := by decide +kernel
theorem dX11_init_20 : decode cX11_init 20 = .ok (.aload_n 0, 1) := by decide +kernel
theorem dX11_init_21 : decode cX11_init 21 = .ok (.getfield 10, 3) := by decide +kernel
theorem dX11_init_24 : decode cX11_init 24 = .ok (.invokespecial 18, 3) := by decide +kernel
theorem dX11_init_27 : decode cX11_init 27 = .ok (.putfield 21, 3) := by decide +kernel
theorem dX11_init_30 : decode cX11_init 30 = .ok (.aload_n 0, 1) := by decide +kernel
theorem dX11_init_31 : decode cX11_init 31 = .ok (.new 25, 3) := by decide +kernel
theorem dX11_init_34 : decode cX11_init 34 = .ok (.dup, 1) := by decide +kernel
theorem dX11_init_35 : decode cX11_init 35 = .ok (.invokespecial 27, 3) := by decide +kernel
theorem dX11_init_38 : decode cX11_init 38 = .ok (.putfield 28, 3) := by decide +kernel
theorem dX11_init_41 : decode cX11_init 41 = .ok (.aload_n 0, 1) := by decide +kernel
theorem dX11_init_42 : decode cX11_init 42 = .ok (.new 32, 3) := by decide +kernel
theorem dX11_init_45 : decode cX11_init 45 = .ok (.dup, 1) := by decide +kernel
theorem dX11_init_46 : decode cX11_init 46 = .ok (.invokespecial 34, 3) := by decide +kernel
theorem dX11_init_49 : decode cX11_init 49 = .ok (.putfield 35, 3) := by decide +kernel
theorem dX11_init_52 : decode cX11_init 52 = .ok (.aload_n 0, 1) := by decide +kernel
theorem dX11_init_53 : decode cX11_init 53 = .ok (.new 39, 3) := by decide +kernel
theorem dX11_init_56 : decode cX11_init 56 = .ok (.dup, 1) := by decide +kernel
theorem dX11_init_57 : decode cX11_init 57 = .ok (.invokespecial 41, 3) := by decide +kernel
theorem dX11_init_60 : decode cX11_init 60 = .ok (.putfield 42, 3) := by decide +kernel
theorem dX11_init_63 : decode cX11_init 63 = .ok (.aload_n 0, 1) := by decide +kernel
theorem dX11_init_64 : decode cX11_init 64 = .ok (.new 46, 3) := by decide +kernel
theorem dX11_init_67 : decode cX11_init 67 = .ok (.dup, 1) := by decide +kernel
theorem dX11_init_68 : decode cX11_init 68 = .ok (.aload_n 0, 1) := by decide +kernel
theorem dX11_init_69 : decode cX11_init 69 = .ok (.getfield 28, 3) := by decide +kernel
theorem dX11_init_72 : decode cX11_init 72 = .ok (.iconst 0, 1) := by decide +kernel
theorem dX11_init_73 : decode cX11_init 73 = .ok (.iconst 0, 1) := by decide +kernel
theorem dX11_init_74 : decode cX11_init 74 = .ok (.invokespecial 48, 3) := by decide +kernel
theorem dX11_init_77 : decode cX11_init 77 = .ok (.putfield 51, 3) := by decide +kernel
theorem dX11_init_80 : decode cX11_init 80 = .ok (.aload_n 0, 1) := by decide +kernel
theorem dX11_init_81 : decode cX11_init 81 = .ok (.new 55, 3) := by decide +kernel
theorem dX11_init_84 : decode cX11_init 84 = .ok (.dup, 1) := by decide +kernel
theorem dX11_init_85 : decode cX11_init 85 = .ok (.aload_n 0, 1) := by decide +kernel
theorem dX11_init_86 : decode cX11_init 86 = .ok (.getfield 51, 3) := by decide +kernel
theorem dX11_init_89 : decode cX11_init 89 = .ok (.invokespecial 57, 3) := by decide +kernel
theorem dX11_init_92 : decode cX11_init 92 = .ok (.putfield 60, 3) := by decide +kernel
theorem dX11_init_95 : decode cX11_init 95 = .ok (.return_, 1) := by decide +kernel
theorem dX11_write_0 : decode cX11_write 0 = .ok (.iload_n 1, 1) := by decide +kernel
theorem dX11_write_1 : decode cX11_write 1 = .ok (.iconst 0, 1) := by decide +kernel
theorem dX11_write_2 : decode cX11_write 2 = .ok (.sipush 255, 3) := by decide +kernel
theorem dX11_write_5 : decode cX11_write 5 = .ok (.invokestatic 64, 3) := by decide +kernel
theorem dX11_write_8 : decode cX11_write 8 = .ok (.ifCond .ne 6, 3) := by decide +kernel
theorem dX11_write_11 : decode cX11_write 11 = .ok (.bipush (-3), 2) := by decide +kernel
theorem dX11_write_13 : decode cX11_write 13 = .ok (.ireturn, 1) := by decide +kernel
theorem dX11_write_14 : decode cX11_write 14 = .ok (.aload_n 0, 1) := by decide +kernel
theorem dX11_write_15 : decode cX11_write 15 = .ok (.getfield 10, 3) := by decide +kernel
theorem dX11_write_18 : decode cX11_write 18 = .ok (.iload_n 1, 1) := by decide +kernel
theorem dX11_write_19 : decode cX11_write 19 = .ok (.invokevirtual 68, 3) := by decide +kernel
theorem dX11_write_22 : decode cX11_write 22 = .ok (.ifCond .eq 13, 3) := by decide +kernel
theorem dX11_write_25 : decode cX11_write 25 = .ok (.aload_n 0, 1) := by decide +kernel
theorem dX11_write_26 : decode cX11_write 26 = .ok (.getfield 10, 3) := by decide +kernel
theorem dX11_write_29 : decode cX11_write 29 = .ok (.getfield 72, 3) := by decide +kernel
theorem dX11_write_32 : decode cX11_write 32 = .ok (.goto 5, 3) := by decide +kernel
theorem dX11_write_35 : decode cX11_write 35 = .ok (.bipush (-5), 2) := by decide +kernel
theorem dX11_write_37 : decode cX11_write 37 = .ok (.ireturn, 1) := by decide +kernel
theorem dX11_erase_0 : decode cX11_erase 0 = .ok (.aload_n 0, 1) := by decide +kernel
theorem dX11_erase_1 : decode cX11_erase 1 = .ok (.getfield 10, 3) := by decide +kernel
theorem dX11_erase_4 : decode cX11_erase 4 = .ok (.getfield 72, 3) := by decide +kernel
theorem dX11_erase_7 : decode cX11_erase 7 = .ok (.istore_n 1, 1) := by decide +kernel
theorem dX11_erase_8 : decode cX11_erase 8 = .ok (.aload_n 0, 1) := by decide +kernel
theorem dX11_erase_9 : decode cX11_erase 9 = .ok (.getfield 10, 3) := by decide +kernel
theorem dX11_erase_12 : decode cX11_erase 12 = .ok (.iconst 0, 1) := by decide +kernel
theorem dX11_erase_13 : decode cX11_erase 13 = .ok (.putfield 72, 3) := by decide +kernel
theorem dX11_erase_16 : decode cX11_erase 16 = .ok (.iload_n 1, 1) := by decide +kernel
theorem dX11_erase_17 : decode cX11_erase 17 = .ok (.ireturn, 1) := by decide +kernel
theorem dX11_fault_0 : decode cX11_fault 0 = .ok (.aload_n 0, 1) := by decide +kernel
theorem dX11_fault_1 : decode cX11_fault 1 = .ok (.getfield 21, 3) := by decide +kernel
theorem dX11_fault_4 : decode cX11_fault 4 = .ok (.aload_n 0, 1) := by decide +kernel
theorem dX11_fault_5 : decode cX11_fault 5 = .ok (.getfield 28, 3) := by decide +kernel
theorem dX11_fault_8 : decode cX11_fault 8 = .ok (.getfield 76, 3) := by decide +kernel
theorem dX11_fault_11 : decode cX11_fault 11 = .ok (.invokevirtual 79, 3) := by decide +kernel
theorem dX11_fault_14 : decode cX11_fault 14 = .ok (.ireturn, 1) := by decide +kernel
theorem dX11_tell_0 : decode cX11_tell 0 = .ok (.aload_n 0, 1) := by decide +kernel
theorem dX11_tell_1 : decode cX11_tell 1 = .ok (.getfield 21, 3) := by decide +kernel
theorem dX11_tell_4 : decode cX11_tell 4 = .ok (.aload_n 0, 1) := by decide +kernel
theorem dX11_tell_5 : decode cX11_tell 5 = .ok (.getfield 28, 3) := by decide +kernel
theorem dX11_tell_8 : decode cX11_tell 8 = .ok (.getfield 76, 3) := by decide +kernel
theorem dX11_tell_11 : decode cX11_tell 11 = .ok (.invokevirtual 79, 3) := by decide +kernel
theorem dX11_tell_14 : decode cX11_tell 14 = .ok (.iconst (-1), 1) := by decide +kernel
theorem dX11_tell_15 : decode cX11_tell 15 = .ok (.if_icmp .eq 6, 3) := by decide +kernel
theorem dX11_tell_18 : decode cX11_tell 18 = .ok (.bipush (-4), 2) := by decide +kernel
theorem dX11_tell_20 : decode cX11_tell 20 = .ok (.ireturn, 1) := by decide +kernel
theorem dX11_tell_21 : decode cX11_tell 21 = .ok (.iconst 0, 1) := by decide +kernel
theorem dX11_tell_22 : decode cX11_tell 22 = .ok (.istore_n 1, 1) := by decide +kernel
theorem dX11_tell_23 : decode cX11_tell 23 = .ok (.iload_n 1, 1) := by decide +kernel
theorem dX11_tell_24 : decode cX11_tell 24 = .ok (.aload_n 0, 1) := by decide +kernel
theorem dX11_tell_25 : decode cX11_tell 25 = .ok (.getfield 21, 3) := by decide +kernel
theorem dX11_tell_28 : decode cX11_tell 28 = .ok (.getfield 83, 3) := by decide +kernel
theorem dX11_tell_31 : decode cX11_tell 31 = .ok (.if_icmp .ge 28, 3) := by decide +kernel
theorem dX11_tell_34 : decode cX11_tell 34 = .ok (.iload_n 1, 1) := by decide +kernel
theorem dX11_tell_35 : decode cX11_tell 35 = .ok (.bipush 24, 2) := by decide +kernel
theorem dX11_tell_37 : decode cX11_tell 37 = .ok (.if_icmp .ge 22, 3) := by decide +kernel
theorem dX11_tell_40 : decode cX11_tell 40 = .ok (.aload_n 0, 1) := by decide +kernel
theorem dX11_tell_41 : decode cX11_tell 41 = .ok (.aload_n 0, 1) := by decide +kernel
theorem dX11_tell_42 : decode cX11_tell 42 = .ok (.getfield 21, 3) := by decide +kernel
theorem dX11_tell_45 : decode cX11_tell 45 = .ok (.getfield 86, 3) := by decide +kernel
theorem dX11_tell_48 : decode cX11_tell 48 = .ok (.iload_n 1, 1) := by decide +kernel
theorem dX11_tell_49 : decode cX11_tell 49 = .ok (.aaload, 1) := by decide +kernel
theorem dX11_tell_50 : decode cX11_tell 50 = .ok (.invokevirtual 90, 3) := by decide +kernel
theorem dX11_tell_53 : decode cX11_tell 53 = .ok (.iinc 1 1, 3) := by decide +kernel
theorem dX11_tell_56 : decode cX11_tell 56 = .ok (.goto (-33), 3) := by decide +kernel
theorem dX11_tell_59 : decode cX11_tell 59 = .ok (.aload_n 0, 1) := by decide +kernel
theorem dX11_tell_60 : decode cX11_tell 60 = .ok (.getfield 60, 3) := by decide +kernel
theorem dX11_tell_63 : decode cX11_tell 63 = .ok (.invokevirtual 94, 3) := by decide +kernel
theorem dX11_tell_66 : decode cX11_tell 66 = .ok (.aload_n 0, 1) := by decide +kernel
theorem dX11_tell_67 : decode cX11_tell 67 = .ok (.getfield 10, 3) := by decide +kernel
theorem dX11_tell_70 : decode cX11_tell 70 = .ok (.iconst 0, 1) := by decide +kernel
theorem dX11_tell_71 : decode cX11_tell 71 = .ok (.putfield 72, 3) := by decide +kernel
theorem dX11_tell_74 : decode cX11_tell 74 = .ok (.aload_n 0, 1) := by decide +kernel
theorem dX11_tell_75 : decode cX11_tell 75 = .ok (.getfield 21, 3) := by decide +kernel
theorem dX11_tell_78 : decode cX11_tell 78 = .ok (.getfield 83, 3) := by decide +kernel
theorem dX11_tell_81 : decode cX11_tell 81 = .ok (.ireturn, 1) := by decide +kernel
theorem dX11_part_0 : decode cX11_part 0 = .ok (.aload_n 0, 1) := by decide +kernel
theorem dX11_part_1 : decode cX11_part 1 = .ok (.getfield 28, 3) := by decide +kernel
theorem dX11_part_4 : decode cX11_part 4 = .ok (.iload_n 1, 1) := by decide +kernel
theorem dX11_part_5 : decode cX11_part 5 = .ok (.invokevirtual 97, 3) := by decide +kernel
theorem dX11_part_8 : decode cX11_part 8 = .ok (.ifCond .ne 6, 3) := by decide +kernel
theorem dX11_part_11 : decode cX11_part 11 = .ok (.bipush (-2), 2) := by decide +kernel
theorem dX11_part_13 : decode cX11_part 13 = .ok (.ireturn, 1) := by decide +kernel
theorem dX11_part_14 : decode cX11_part 14 = .ok (.aload_n 0, 1) := by decide +kernel
theorem dX11_part_15 : decode cX11_part 15 = .ok (.getfield 28, 3) := by decide +kernel
theorem dX11_part_18 : decode cX11_part 18 = .ok (.getfield 100, 3) := by decide +kernel
theorem dX11_part_21 : decode cX11_part 21 = .ok (.iload_n 1, 1) := by decide +kernel
theorem dX11_part_22 : decode cX11_part 22 = .ok (.aaload, 1) := by decide +kernel
theorem dX11_part_23 : decode cX11_part 23 = .ok (.astore_n 3, 1) := by decide +kernel
theorem dX11_part_24 : decode cX11_part 24 = .ok (.iload_n 2, 1) := by decide +kernel
theorem dX11_part_25 : decode cX11_part 25 = .ok (.tableswitch 52 0 3 #[31, 37, 42, 47], 31) := by decide +kernel
theorem dX11_part_56 : decode cX11_part 56 = .ok (.aload_n 3, 1) := by decide +kernel
theorem dX11_part_57 : decode cX11_part 57 = .ok (.getfield 104, 3) := by decide +kernel
theorem dX11_part_60 : decode cX11_part 60 = .ok (.arraylength, 1) := by decide +kernel
theorem dX11_part_61 : decode cX11_part 61 = .ok (.ireturn, 1) := by decide +kernel
theorem dX11_part_62 : decode cX11_part 62 = .ok (.aload_n 3, 1) := by decide +kernel
theorem dX11_part_63 : decode cX11_part 63 = .ok (.getfield 110, 3) := by decide +kernel
theorem dX11_part_66 : decode cX11_part 66 = .ok (.ireturn, 1) := by decide +kernel
theorem dX11_part_67 : decode cX11_part 67 = .ok (.aload_n 3, 1) := by decide +kernel
theorem dX11_part_68 : decode cX11_part 68 = .ok (.getfield 113, 3) := by decide +kernel
theorem dX11_part_71 : decode cX11_part 71 = .ok (.ireturn, 1) := by decide +kernel
theorem dX11_part_72 : decode cX11_part 72 = .ok (.aload_n 3, 1) := by decide +kernel
theorem dX11_part_73 : decode cX11_part 73 = .ok (.invokevirtual 116, 3) := by decide +kernel
theorem dX11_part_76 : decode cX11_part 76 = .ok (.ireturn, 1) := by decide +kernel
theorem dX11_part_77 : decode cX11_part 77 = .ok (.bipush (-3), 2) := by decide +kernel
theorem dX11_part_79 : decode cX11_part 79 = .ok (.ireturn, 1) := by decide +kernel
theorem dX11_letter_0 : decode cX11_letter 0 = .ok (.aload_n 0, 1) := by decide +kernel
theorem dX11_letter_1 : decode cX11_letter 1 = .ok (.getfield 28, 3) := by decide +kernel
theorem dX11_letter_4 : decode cX11_letter 4 = .ok (.iload_n 1, 1) := by decide +kernel
theorem dX11_letter_5 : decode cX11_letter 5 = .ok (.invokevirtual 97, 3) := by decide +kernel
theorem dX11_letter_8 : decode cX11_letter 8 = .ok (.ifCond .eq 19, 3) := by decide +kernel
theorem dX11_letter_11 : decode cX11_letter 11 = .ok (.aload_n 0, 1) := by decide +kernel
theorem dX11_letter_12 : decode cX11_letter 12 = .ok (.getfield 28, 3) := by decide +kernel
theorem dX11_letter_15 : decode cX11_letter 15 = .ok (.getfield 100, 3) := by decide +kernel
theorem dX11_letter_18 : decode cX11_letter 18 = .ok (.iload_n 1, 1) := by decide +kernel
theorem dX11_letter_19 : decode cX11_letter 19 = .ok (.aaload, 1) := by decide +kernel
theorem dX11_letter_20 : decode cX11_letter 20 = .ok (.iload_n 2, 1) := by decide +kernel
theorem dX11_letter_21 : decode cX11_letter 21 = .ok (.invokevirtual 120, 3) := by decide +kernel
theorem dX11_letter_24 : decode cX11_letter 24 = .ok (.ifCond .ne 6, 3) := by decide +kernel
theorem dX11_letter_27 : decode cX11_letter 27 = .ok (.bipush (-2), 2) := by decide +kernel
theorem dX11_letter_29 : decode cX11_letter 29 = .ok (.ireturn, 1) := by decide +kernel
theorem dX11_letter_30 : decode cX11_letter 30 = .ok (.aload_n 0, 1) := by decide +kernel
theorem dX11_letter_31 : decode cX11_letter 31 = .ok (.getfield 28, 3) := by decide +kernel
theorem dX11_letter_34 : decode cX11_letter 34 = .ok (.getfield 100, 3) := by decide +kernel
theorem dX11_letter_37 : decode cX11_letter 37 = .ok (.iload_n 1, 1) := by decide +kernel
theorem dX11_letter_38 : decode cX11_letter 38 = .ok (.aaload, 1) := by decide +kernel
theorem dX11_letter_39 : decode cX11_letter 39 = .ok (.getfield 104, 3) := by decide +kernel
theorem dX11_letter_42 : decode cX11_letter 42 = .ok (.iload_n 2, 1) := by decide +kernel
theorem dX11_letter_43 : decode cX11_letter 43 = .ok (.iaload, 1) := by decide +kernel
theorem dX11_letter_44 : decode cX11_letter 44 = .ok (.ireturn, 1) := by decide +kernel
theorem dX11_packets_0 : decode cX11_packets 0 = .ok (.iload_n 1, 1) := by decide +kernel
theorem dX11_packets_1 : decode cX11_packets 1 = .ok (.iconst 1, 1) := by decide +kernel
theorem dX11_packets_2 : decode cX11_packets 2 = .ok (.bipush 8, 2) := by decide +kernel
theorem dX11_packets_4 : decode cX11_packets 4 = .ok (.invokestatic 64, 3) := by decide +kernel
theorem dX11_packets_7 : decode cX11_packets 7 = .ok (.ifCond .ne 6, 3) := by decide +kernel
theorem dX11_packets_10 : decode cX11_packets 10 = .ok (.bipush (-3), 2) := by decide +kernel
theorem dX11_packets_12 : decode cX11_packets 12 = .ok (.ireturn, 1) := by decide +kernel
theorem dX11_packets_13 : decode cX11_packets 13 = .ok (.aload_n 0, 1) := by decide +kernel
theorem dX11_packets_14 : decode cX11_packets 14 = .ok (.getfield 60, 3) := by decide +kernel
theorem dX11_packets_17 : decode cX11_packets 17 = .ok (.aload_n 0, 1) := by decide +kernel
theorem dX11_packets_18 : decode cX11_packets 18 = .ok (.getfield 28, 3) := by decide +kernel
theorem dX11_packets_21 : decode cX11_packets 21 = .ok (.aload_n 0, 1) := by decide +kernel
theorem dX11_packets_22 : decode cX11_packets 22 = .ok (.getfield 51, 3) := by decide +kernel
theorem dX11_packets_25 : decode cX11_packets 25 = .ok (.aconst_null, 1) := by decide +kernel
theorem dX11_packets_26 : decode cX11_packets 26 = .ok (.invokevirtual 123, 3) := by decide +kernel
theorem dX11_packets_29 : decode cX11_packets 29 = .ok (.aload_n 0, 1) := by decide +kernel
theorem dX11_packets_30 : decode cX11_packets 30 = .ok (.getfield 28, 3) := by decide +kernel
theorem dX11_packets_33 : decode cX11_packets 33 = .ok (.getfield 127, 3) := by decide +kernel
theorem dX11_packets_36 : decode cX11_packets 36 = .ok (.istore_n 2, 1) := by decide +kernel
theorem dX11_packets_37 : decode cX11_packets 37 = .ok (.aload_n 0, 1) := by decide +kernel
theorem dX11_packets_38 : decode cX11_packets 38 = .ok (.getfield 28, 3) := by decide +kernel
theorem dX11_packets_41 : decode cX11_packets 41 = .ok (.iload_n 1, 1) := by decide +kernel
theorem dX11_packets_42 : decode cX11_packets 42 = .ok (.putfield 127, 3) := by decide +kernel
theorem dX11_packets_45 : decode cX11_packets 45 = .ok (.iload_n 2, 1) := by decide +kernel
theorem dX11_packets_46 : decode cX11_packets 46 = .ok (.ireturn, 1) := by decide +kernel
theorem dX11_room_0 : decode cX11_room 0 = .ok (.iload_n 1, 1) := by decide +kernel
theorem dX11_room_1 : decode cX11_room 1 = .ok (.iconst 1, 1) := by decide +kernel
theorem dX11_room_2 : decode cX11_room 2 = .ok (.bipush 40, 2) := by decide +kernel
theorem dX11_room_4 : decode cX11_room 4 = .ok (.invokestatic 64, 3) := by decide +kernel
theorem dX11_room_7 : decode cX11_room 7 = .ok (.ifCond .ne 6, 3) := by decide +kernel
theorem dX11_room_10 : decode cX11_room 10 = .ok (.bipush (-3), 2) := by decide +kernel
theorem dX11_room_12 : decode cX11_room 12 = .ok (.ireturn, 1) := by decide +kernel
theorem dX11_room_13 : decode cX11_room 13 = .ok (.aload_n 0, 1) := by decide +kernel
theorem dX11_room_14 : decode cX11_room 14 = .ok (.getfield 60, 3) := by decide +kernel
theorem dX11_room_17 : decode cX11_room 17 = .ok (.aload_n 0, 1) := by decide +kernel
theorem dX11_room_18 : decode cX11_room 18 = .ok (.getfield 28, 3) := by decide +kernel
theorem dX11_room_21 : decode cX11_room 21 = .ok (.aload_n 0, 1) := by decide +kernel
theorem dX11_room_22 : decode cX11_room 22 = .ok (.getfield 51, 3) := by decide +kernel
theorem dX11_room_25 : decode cX11_room 25 = .ok (.aconst_null, 1) := by decide +kernel
theorem dX11_room_26 : decode cX11_room 26 = .ok (.invokevirtual 123, 3) := by decide +kernel
theorem dX11_room_29 : decode cX11_room 29 = .ok (.aload_n 0, 1) := by decide +kernel
theorem dX11_room_30 : decode cX11_room 30 = .ok (.getfield 28, 3) := by decide +kernel
theorem dX11_room_33 : decode cX11_room 33 = .ok (.getfield 130, 3) := by decide +kernel
theorem dX11_room_36 : decode cX11_room 36 = .ok (.istore_n 2, 1) := by decide +kernel
theorem dX11_room_37 : decode cX11_room 37 = .ok (.aload_n 0, 1) := by decide +kernel
theorem dX11_room_38 : decode cX11_room 38 = .ok (.getfield 28, 3) := by decide +kernel
theorem dX11_room_41 : decode cX11_room 41 = .ok (.iload_n 1, 1) := by decide +kernel
theorem dX11_room_42 : decode cX11_room 42 = .ok (.putfield 130, 3) := by decide +kernel
theorem dX11_room_45 : decode cX11_room 45 = .ok (.iload_n 2, 1) := by decide +kernel
theorem dX11_room_46 : decode cX11_room 46 = .ok (.ireturn, 1) := by decide +kernel
theorem dX11_need_0 : decode cX11_need 0 = .ok (.aload_n 0, 1) := by decide +kernel
theorem dX11_need_1 : decode cX11_need 1 = .ok (.getfield 28, 3) := by decide +kernel
theorem dX11_need_4 : decode cX11_need 4 = .ok (.iload_n 1, 1) := by decide +kernel
theorem dX11_need_5 : decode cX11_need 5 = .ok (.invokevirtual 97, 3) := by decide +kernel
theorem dX11_need_8 : decode cX11_need 8 = .ok (.ifCond .ne 6, 3) := by decide +kernel
theorem dX11_need_11 : decode cX11_need 11 = .ok (.bipush (-2), 2) := by decide +kernel
theorem dX11_need_13 : decode cX11_need 13 = .ok (.ireturn, 1) := by decide +kernel
theorem dX11_need_14 : decode cX11_need 14 = .ok (.iload_n 2, 1) := by decide +kernel
theorem dX11_need_15 : decode cX11_need 15 = .ok (.iconst 1, 1) := by decide +kernel
theorem dX11_need_16 : decode cX11_need 16 = .ok (.bipush 8, 2) := by decide +kernel
theorem dX11_need_18 : decode cX11_need 18 = .ok (.invokestatic 64, 3) := by decide +kernel
theorem dX11_need_21 : decode cX11_need 21 = .ok (.ifCond .ne 6, 3) := by decide +kernel
theorem dX11_need_24 : decode cX11_need 24 = .ok (.bipush (-3), 2) := by decide +kernel
theorem dX11_need_26 : decode cX11_need 26 = .ok (.ireturn, 1) := by decide +kernel
theorem dX11_need_27 : decode cX11_need 27 = .ok (.aload_n 0, 1) := by decide +kernel
theorem dX11_need_28 : decode cX11_need 28 = .ok (.getfield 60, 3) := by decide +kernel
theorem dX11_need_31 : decode cX11_need 31 = .ok (.aload_n 0, 1) := by decide +kernel
theorem dX11_need_32 : decode cX11_need 32 = .ok (.getfield 28, 3) := by decide +kernel
theorem dX11_need_35 : decode cX11_need 35 = .ok (.aload_n 0, 1) := by decide +kernel
theorem dX11_need_36 : decode cX11_need 36 = .ok (.getfield 51, 3) := by decide +kernel
theorem dX11_need_39 : decode cX11_need 39 = .ok (.aconst_null, 1) := by decide +kernel
theorem dX11_need_40 : decode cX11_need 40 = .ok (.invokevirtual 123, 3) := by decide +kernel
theorem dX11_need_43 : decode cX11_need 43 = .ok (.aload_n 0, 1) := by decide +kernel
theorem dX11_need_44 : decode cX11_need 44 = .ok (.getfield 28, 3) := by decide +kernel
theorem dX11_need_47 : decode cX11_need 47 = .ok (.getfield 100, 3) := by decide +kernel
theorem dX11_need_50 : decode cX11_need 50 = .ok (.iload_n 1, 1) := by decide +kernel
theorem dX11_need_51 : decode cX11_need 51 = .ok (.aaload, 1) := by decide +kernel
theorem dX11_need_52 : decode cX11_need 52 = .ok (.astore_n 3, 1) := by decide +kernel
theorem dX11_need_53 : decode cX11_need 53 = .ok (.aload_n 0, 1) := by decide +kernel
theorem dX11_need_54 : decode cX11_need 54 = .ok (.getfield 28, 3) := by decide +kernel
theorem dX11_need_57 : decode cX11_need 57 = .ok (.getfield 100, 3) := by decide +kernel
theorem dX11_need_60 : decode cX11_need 60 = .ok (.iload_n 1, 1) := by decide +kernel
theorem dX11_need_61 : decode cX11_need 61 = .ok (.new 105, 3) := by decide +kernel
theorem dX11_need_64 : decode cX11_need 64 = .ok (.dup, 1) := by decide +kernel
theorem dX11_need_65 : decode cX11_need 65 = .ok (.aload_n 3, 1) := by decide +kernel
theorem dX11_need_66 : decode cX11_need 66 = .ok (.getfield 104, 3) := by decide +kernel
theorem dX11_need_69 : decode cX11_need 69 = .ok (.iload_n 2, 1) := by decide +kernel
theorem dX11_need_70 : decode cX11_need 70 = .ok (.aload_n 3, 1) := by decide +kernel
theorem dX11_need_71 : decode cX11_need 71 = .ok (.getfield 113, 3) := by decide +kernel
theorem dX11_need_74 : decode cX11_need 74 = .ok (.invokespecial 133, 3) := by decide +kernel
theorem dX11_need_77 : decode cX11_need 77 = .ok (.aastore, 1) := by decide +kernel
theorem dX11_need_78 : decode cX11_need 78 = .ok (.aload_n 3, 1) := by decide +kernel
theorem dX11_need_79 : decode cX11_need 79 = .ok (.getfield 110, 3) := by decide +kernel
theorem dX11_need_82 : decode cX11_need 82 = .ok (.ireturn, 1) := by decide +kernel
theorem dX11_weigh_0 : decode cX11_weigh 0 = .ok (.aload_n 0, 1) := by decide +kernel
theorem dX11_weigh_1 : decode cX11_weigh 1 = .ok (.getfield 28, 3) := by decide +kernel
theorem dX11_weigh_4 : decode cX11_weigh 4 = .ok (.iload_n 1, 1) := by decide +kernel
theorem dX11_weigh_5 : decode cX11_weigh 5 = .ok (.invokevirtual 97, 3) := by decide +kernel
theorem dX11_weigh_8 : decode cX11_weigh 8 = .ok (.ifCond .ne 6, 3) := by decide +kernel
theorem dX11_weigh_11 : decode cX11_weigh 11 = .ok (.bipush (-2), 2) := by decide +kernel
theorem dX11_weigh_13 : decode cX11_weigh 13 = .ok (.ireturn, 1) := by decide +kernel
theorem dX11_weigh_14 : decode cX11_weigh 14 = .ok (.iload_n 2, 1) := by decide +kernel
theorem dX11_weigh_15 : decode cX11_weigh 15 = .ok (.iconst 1, 1) := by decide +kernel
theorem dX11_weigh_16 : decode cX11_weigh 16 = .ok (.bipush 9, 2) := by decide +kernel
theorem dX11_weigh_18 : decode cX11_weigh 18 = .ok (.invokestatic 64, 3) := by decide +kernel
theorem dX11_weigh_21 : decode cX11_weigh 21 = .ok (.ifCond .ne 6, 3) := by decide +kernel
theorem dX11_weigh_24 : decode cX11_weigh 24 = .ok (.bipush (-3), 2) := by decide +kernel
theorem dX11_weigh_26 : decode cX11_weigh 26 = .ok (.ireturn, 1) := by decide +kernel
theorem dX11_weigh_27 : decode cX11_weigh 27 = .ok (.aload_n 0, 1) := by decide +kernel
theorem dX11_weigh_28 : decode cX11_weigh 28 = .ok (.getfield 60, 3) := by decide +kernel
theorem dX11_weigh_31 : decode cX11_weigh 31 = .ok (.aload_n 0, 1) := by decide +kernel
theorem dX11_weigh_32 : decode cX11_weigh 32 = .ok (.getfield 28, 3) := by decide +kernel
theorem dX11_weigh_35 : decode cX11_weigh 35 = .ok (.aload_n 0, 1) := by decide +kernel
theorem dX11_weigh_36 : decode cX11_weigh 36 = .ok (.getfield 51, 3) := by decide +kernel
theorem dX11_weigh_39 : decode cX11_weigh 39 = .ok (.aconst_null, 1) := by decide +kernel
theorem dX11_weigh_40 : decode cX11_weigh 40 = .ok (.invokevirtual 123, 3) := by decide +kernel
theorem dX11_weigh_43 : decode cX11_weigh 43 = .ok (.aload_n 0, 1) := by decide +kernel
theorem dX11_weigh_44 : decode cX11_weigh 44 = .ok (.getfield 28, 3) := by decide +kernel
theorem dX11_weigh_47 : decode cX11_weigh 47 = .ok (.getfield 100, 3) := by decide +kernel
theorem dX11_weigh_50 : decode cX11_weigh 50 = .ok (.iload_n 1, 1) := by decide +kernel
theorem dX11_weigh_51 : decode cX11_weigh 51 = .ok (.aaload, 1) := by decide +kernel
theorem dX11_weigh_52 : decode cX11_weigh 52 = .ok (.astore_n 3, 1) := by decide +kernel
theorem dX11_weigh_53 : decode cX11_weigh 53 = .ok (.aload_n 0, 1) := by decide +kernel
theorem dX11_weigh_54 : decode cX11_weigh 54 = .ok (.getfield 28, 3) := by decide +kernel
theorem dX11_weigh_57 : decode cX11_weigh 57 = .ok (.getfield 100, 3) := by decide +kernel
theorem dX11_weigh_60 : decode cX11_weigh 60 = .ok (.iload_n 1, 1) := by decide +kernel
theorem dX11_weigh_61 : decode cX11_weigh 61 = .ok (.new 105, 3) := by decide +kernel
theorem dX11_weigh_64 : decode cX11_weigh 64 = .ok (.dup, 1) := by decide +kernel
theorem dX11_weigh_65 : decode cX11_weigh 65 = .ok (.aload_n 3, 1) := by decide +kernel
theorem dX11_weigh_66 : decode cX11_weigh 66 = .ok (.getfield 104, 3) := by decide +kernel
theorem dX11_weigh_69 : decode cX11_weigh 69 = .ok (.aload_n 3, 1) := by decide +kernel
theorem dX11_weigh_70 : decode cX11_weigh 70 = .ok (.getfield 110, 3) := by decide +kernel
theorem dX11_weigh_73 : decode cX11_weigh 73 = .ok (.iload_n 2, 1) := by decide +kernel
theorem dX11_weigh_74 : decode cX11_weigh 74 = .ok (.invokespecial 133, 3) := by decide +kernel
theorem dX11_weigh_77 : decode cX11_weigh 77 = .ok (.aastore, 1) := by decide +kernel
theorem dX11_weigh_78 : decode cX11_weigh 78 = .ok (.aload_n 3, 1) := by decide +kernel
theorem dX11_weigh_79 : decode cX11_weigh 79 = .ok (.getfield 113, 3) := by decide +kernel
theorem dX11_weigh_82 : decode cX11_weigh 82 = .ok (.ireturn, 1) := by decide +kernel
theorem dX11_drop_0 : decode cX11_drop 0 = .ok (.aload_n 0, 1) := by decide +kernel
theorem dX11_drop_1 : decode cX11_drop 1 = .ok (.getfield 28, 3) := by decide +kernel
theorem dX11_drop_4 : decode cX11_drop 4 = .ok (.iload_n 1, 1) := by decide +kernel
theorem dX11_drop_5 : decode cX11_drop 5 = .ok (.invokevirtual 97, 3) := by decide +kernel
theorem dX11_drop_8 : decode cX11_drop 8 = .ok (.ifCond .ne 6, 3) := by decide +kernel
theorem dX11_drop_11 : decode cX11_drop 11 = .ok (.bipush (-2), 2) := by decide +kernel
theorem dX11_drop_13 : decode cX11_drop 13 = .ok (.ireturn, 1) := by decide +kernel
theorem dX11_drop_14 : decode cX11_drop 14 = .ok (.aload_n 0, 1) := by decide +kernel
theorem dX11_drop_15 : decode cX11_drop 15 = .ok (.getfield 60, 3) := by decide +kernel
theorem dX11_drop_18 : decode cX11_drop 18 = .ok (.aload_n 0, 1) := by decide +kernel
theorem dX11_drop_19 : decode cX11_drop 19 = .ok (.getfield 28, 3) := by decide +kernel
theorem dX11_drop_22 : decode cX11_drop 22 = .ok (.aload_n 0, 1) := by decide +kernel
theorem dX11_drop_23 : decode cX11_drop 23 = .ok (.getfield 51, 3) := by decide +kernel
theorem dX11_drop_26 : decode cX11_drop 26 = .ok (.aconst_null, 1) := by decide +kernel
theorem dX11_drop_27 : decode cX11_drop 27 = .ok (.invokevirtual 123, 3) := by decide +kernel
theorem dX11_drop_30 : decode cX11_drop 30 = .ok (.aload_n 0, 1) := by decide +kernel
theorem dX11_drop_31 : decode cX11_drop 31 = .ok (.getfield 28, 3) := by decide +kernel
theorem dX11_drop_34 : decode cX11_drop 34 = .ok (.iload_n 1, 1) := by decide +kernel
theorem dX11_drop_35 : decode cX11_drop 35 = .ok (.invokevirtual 136, 3) := by decide +kernel
theorem dX11_drop_38 : decode cX11_drop 38 = .ok (.aload_n 0, 1) := by decide +kernel
theorem dX11_drop_39 : decode cX11_drop 39 = .ok (.getfield 28, 3) := by decide +kernel
theorem dX11_drop_42 : decode cX11_drop 42 = .ok (.getfield 76, 3) := by decide +kernel
theorem dX11_drop_45 : decode cX11_drop 45 = .ok (.ireturn, 1) := by decide +kernel
theorem dX11_pack_0 : decode cX11_pack 0 = .ok (.aload_n 0, 1) := by decide +kernel
theorem dX11_pack_1 : decode cX11_pack 1 = .ok (.getfield 28, 3) := by decide +kernel
theorem dX11_pack_4 : decode cX11_pack 4 = .ok (.getfield 76, 3) := by decide +kernel
theorem dX11_pack_7 : decode cX11_pack 7 = .ok (.ifCond .eq 13, 3) := by decide +kernel
theorem dX11_pack_10 : decode cX11_pack 10 = .ok (.aload_n 0, 1) := by decide +kernel
theorem dX11_pack_11 : decode cX11_pack 11 = .ok (.getfield 28, 3) := by decide +kernel
theorem dX11_pack_14 : decode cX11_pack 14 = .ok (.invokevirtual 140, 3) := by decide +kernel
theorem dX11_pack_17 : decode cX11_pack 17 = .ok (.ifCond .ne 6, 3) := by decide +kernel
theorem dX11_pack_20 : decode cX11_pack 20 = .ok (.bipush (-4), 2) := by decide +kernel
theorem dX11_pack_22 : decode cX11_pack 22 = .ok (.ireturn, 1) := by decide +kernel
theorem dX11_pack_23 : decode cX11_pack 23 = .ok (.aload_n 0, 1) := by decide +kernel
theorem dX11_pack_24 : decode cX11_pack 24 = .ok (.getfield 60, 3) := by decide +kernel
theorem dX11_pack_27 : decode cX11_pack 27 = .ok (.aload_n 0, 1) := by decide +kernel
theorem dX11_pack_28 : decode cX11_pack 28 = .ok (.getfield 28, 3) := by decide +kernel
theorem dX11_pack_31 : decode cX11_pack 31 = .ok (.aload_n 0, 1) := by decide +kernel
theorem dX11_pack_32 : decode cX11_pack 32 = .ok (.getfield 51, 3) := by decide +kernel
theorem dX11_pack_35 : decode cX11_pack 35 = .ok (.aconst_null, 1) := by decide +kernel
theorem dX11_pack_36 : decode cX11_pack 36 = .ok (.invokevirtual 123, 3) := by decide +kernel
theorem dX11_pack_39 : decode cX11_pack 39 = .ok (.aload_n 0, 1) := by decide +kernel
theorem dX11_pack_40 : decode cX11_pack 40 = .ok (.new 46, 3) := by decide +kernel
theorem dX11_pack_43 : decode cX11_pack 43 = .ok (.dup, 1) := by decide +kernel
theorem dX11_pack_44 : decode cX11_pack 44 = .ok (.aload_n 0, 1) := by decide +kernel
theorem dX11_pack_45 : decode cX11_pack 45 = .ok (.getfield 28, 3) := by decide +kernel
theorem dX11_pack_48 : decode cX11_pack 48 = .ok (.aload_n 0, 1) := by decide +kernel
theorem dX11_pack_49 : decode cX11_pack 49 = .ok (.getfield 28, 3) := by decide +kernel
theorem dX11_pack_52 : decode cX11_pack 52 = .ok (.getfield 76, 3) := by decide +kernel
theorem dX11_pack_55 : decode cX11_pack 55 = .ok (.aload_n 0, 1) := by decide +kernel
theorem dX11_pack_56 : decode cX11_pack 56 = .ok (.getfield 28, 3) := by decide +kernel
theorem dX11_pack_59 : decode cX11_pack 59 = .ok (.getfield 127, 3) := by decide +kernel
theorem dX11_pack_62 : decode cX11_pack 62 = .ok (.invokespecial 48, 3) := by decide +kernel
theorem dX11_pack_65 : decode cX11_pack 65 = .ok (.putfield 51, 3) := by decide +kernel
theorem dX11_pack_68 : decode cX11_pack 68 = .ok (.aload_n 0, 1) := by decide +kernel
theorem dX11_pack_69 : decode cX11_pack 69 = .ok (.getfield 51, 3) := by decide +kernel
theorem dX11_pack_72 : decode cX11_pack 72 = .ok (.getfield 144, 3) := by decide +kernel
theorem dX11_pack_75 : decode cX11_pack 75 = .ok (.ireturn, 1) := by decide +kernel
theorem dX11_lose_0 : decode cX11_lose 0 = .ok (.aload_n 0, 1) := by decide +kernel
theorem dX11_lose_1 : decode cX11_lose 1 = .ok (.getfield 51, 3) := by decide +kernel
theorem dX11_lose_4 : decode cX11_lose 4 = .ok (.iload_n 1, 1) := by decide +kernel
theorem dX11_lose_5 : decode cX11_lose 5 = .ok (.invokevirtual 145, 3) := by decide +kernel
theorem dX11_lose_8 : decode cX11_lose 8 = .ok (.ifCond .ne 6, 3) := by decide +kernel
theorem dX11_lose_11 : decode cX11_lose 11 = .ok (.bipush (-2), 2) := by decide +kernel
theorem dX11_lose_13 : decode cX11_lose 13 = .ok (.ireturn, 1) := by decide +kernel
theorem dX11_lose_14 : decode cX11_lose 14 = .ok (.aload_n 0, 1) := by decide +kernel
theorem dX11_lose_15 : decode cX11_lose 15 = .ok (.getfield 51, 3) := by decide +kernel
theorem dX11_lose_18 : decode cX11_lose 18 = .ok (.getfield 148, 3) := by decide +kernel
theorem dX11_lose_21 : decode cX11_lose 21 = .ok (.iload_n 1, 1) := by decide +kernel
theorem dX11_lose_22 : decode cX11_lose 22 = .ok (.aaload, 1) := by decide +kernel
theorem dX11_lose_23 : decode cX11_lose 23 = .ok (.astore_n 2, 1) := by decide +kernel
theorem dX11_lose_24 : decode cX11_lose 24 = .ok (.aload_n 2, 1) := by decide +kernel
theorem dX11_lose_25 : decode cX11_lose 25 = .ok (.getfield 151, 3) := by decide +kernel
theorem dX11_lose_28 : decode cX11_lose 28 = .ok (.ifCond .eq 6, 3) := by decide +kernel
theorem dX11_lose_31 : decode cX11_lose 31 = .ok (.bipush (-4), 2) := by decide +kernel
theorem dX11_lose_33 : decode cX11_lose 33 = .ok (.ireturn, 1) := by decide +kernel
theorem dX11_lose_34 : decode cX11_lose 34 = .ok (.aload_n 0, 1) := by decide +kernel
theorem dX11_lose_35 : decode cX11_lose 35 = .ok (.getfield 60, 3) := by decide +kernel
theorem dX11_lose_38 : decode cX11_lose 38 = .ok (.aload_n 0, 1) := by decide +kernel
theorem dX11_lose_39 : decode cX11_lose 39 = .ok (.getfield 28, 3) := by decide +kernel
theorem dX11_lose_42 : decode cX11_lose 42 = .ok (.aload_n 0, 1) := by decide +kernel
theorem dX11_lose_43 : decode cX11_lose 43 = .ok (.getfield 51, 3) := by decide +kernel
theorem dX11_lose_46 : decode cX11_lose 46 = .ok (.aload_n 2, 1) := by decide +kernel
theorem dX11_lose_47 : decode cX11_lose 47 = .ok (.invokevirtual 123, 3) := by decide +kernel
theorem dX11_lose_50 : decode cX11_lose 50 = .ok (.aload_n 2, 1) := by decide +kernel
theorem dX11_lose_51 : decode cX11_lose 51 = .ok (.iconst 1, 1) := by decide +kernel
theorem dX11_lose_52 : decode cX11_lose 52 = .ok (.putfield 151, 3) := by decide +kernel
theorem dX11_lose_55 : decode cX11_lose 55 = .ok (.aload_n 2, 1) := by decide +kernel
theorem dX11_lose_56 : decode cX11_lose 56 = .ok (.getfield 157, 3) := by decide +kernel
theorem dX11_lose_59 : decode cX11_lose 59 = .ok (.ireturn, 1) := by decide +kernel
theorem dX11_cut_0 : decode cX11_cut 0 = .ok (.aload_n 0, 1) := by decide +kernel
theorem dX11_cut_1 : decode cX11_cut 1 = .ok (.getfield 51, 3) := by decide +kernel
theorem dX11_cut_4 : decode cX11_cut 4 = .ok (.iload_n 1, 1) := by decide +kernel
theorem dX11_cut_5 : decode cX11_cut 5 = .ok (.invokevirtual 145, 3) := by decide +kernel
theorem dX11_cut_8 : decode cX11_cut 8 = .ok (.ifCond .ne 6, 3) := by decide +kernel
theorem dX11_cut_11 : decode cX11_cut 11 = .ok (.bipush (-2), 2) := by decide +kernel
theorem dX11_cut_13 : decode cX11_cut 13 = .ok (.ireturn, 1) := by decide +kernel
theorem dX11_cut_14 : decode cX11_cut 14 = .ok (.aload_n 0, 1) := by decide +kernel
theorem dX11_cut_15 : decode cX11_cut 15 = .ok (.getfield 51, 3) := by decide +kernel
theorem dX11_cut_18 : decode cX11_cut 18 = .ok (.getfield 148, 3) := by decide +kernel
theorem dX11_cut_21 : decode cX11_cut 21 = .ok (.iload_n 1, 1) := by decide +kernel
theorem dX11_cut_22 : decode cX11_cut 22 = .ok (.aaload, 1) := by decide +kernel
theorem dX11_cut_23 : decode cX11_cut 23 = .ok (.astore_n 3, 1) := by decide +kernel
theorem dX11_cut_24 : decode cX11_cut 24 = .ok (.iload_n 2, 1) := by decide +kernel
theorem dX11_cut_25 : decode cX11_cut 25 = .ok (.iconst 0, 1) := by decide +kernel
theorem dX11_cut_26 : decode cX11_cut 26 = .ok (.aload_n 3, 1) := by decide +kernel
theorem dX11_cut_27 : decode cX11_cut 27 = .ok (.getfield 157, 3) := by decide +kernel
theorem dX11_cut_30 : decode cX11_cut 30 = .ok (.invokestatic 64, 3) := by decide +kernel
theorem dX11_cut_33 : decode cX11_cut 33 = .ok (.ifCond .ne 6, 3) := by decide +kernel
theorem dX11_cut_36 : decode cX11_cut 36 = .ok (.bipush (-3), 2) := by decide +kernel
theorem dX11_cut_38 : decode cX11_cut 38 = .ok (.ireturn, 1) := by decide +kernel
theorem dX11_cut_39 : decode cX11_cut 39 = .ok (.aload_n 3, 1) := by decide +kernel
theorem dX11_cut_40 : decode cX11_cut 40 = .ok (.getfield 151, 3) := by decide +kernel
theorem dX11_cut_43 : decode cX11_cut 43 = .ok (.ifCond .eq 6, 3) := by decide +kernel
theorem dX11_cut_46 : decode cX11_cut 46 = .ok (.bipush (-4), 2) := by decide +kernel
theorem dX11_cut_48 : decode cX11_cut 48 = .ok (.ireturn, 1) := by decide +kernel
theorem dX11_cut_49 : decode cX11_cut 49 = .ok (.aload_n 0, 1) := by decide +kernel
theorem dX11_cut_50 : decode cX11_cut 50 = .ok (.getfield 60, 3) := by decide +kernel
theorem dX11_cut_53 : decode cX11_cut 53 = .ok (.aload_n 0, 1) := by decide +kernel
theorem dX11_cut_54 : decode cX11_cut 54 = .ok (.getfield 28, 3) := by decide +kernel
theorem dX11_cut_57 : decode cX11_cut 57 = .ok (.aload_n 0, 1) := by decide +kernel
theorem dX11_cut_58 : decode cX11_cut 58 = .ok (.getfield 51, 3) := by decide +kernel
theorem dX11_cut_61 : decode cX11_cut 61 = .ok (.aload_n 3, 1) := by decide +kernel
theorem dX11_cut_62 : decode cX11_cut 62 = .ok (.invokevirtual 123, 3) := by decide +kernel
theorem dX11_cut_65 : decode cX11_cut 65 = .ok (.aload_n 3, 1) := by decide +kernel
theorem dX11_cut_66 : decode cX11_cut 66 = .ok (.getfield 157, 3) := by decide +kernel
theorem dX11_cut_69 : decode cX11_cut 69 = .ok (.iload_n 2, 1) := by decide +kernel
theorem dX11_cut_70 : decode cX11_cut 70 = .ok (.isub, 1) := by decide +kernel
theorem dX11_cut_71 : decode cX11_cut 71 = .ok (.istore 4, 2) := by decide +kernel
theorem dX11_cut_73 : decode cX11_cut 73 = .ok (.aload_n 3, 1) := by decide +kernel
theorem dX11_cut_74 : decode cX11_cut 74 = .ok (.iload_n 2, 1) := by decide +kernel
theorem dX11_cut_75 : decode cX11_cut 75 = .ok (.putfield 157, 3) := by decide +kernel
theorem dX11_cut_78 : decode cX11_cut 78 = .ok (.iload 4, 2) := by decide +kernel
theorem dX11_cut_80 : decode cX11_cut 80 = .ok (.ireturn, 1) := by decide +kernel
theorem dX11_spoil_0 : decode cX11_spoil 0 = .ok (.aload_n 0, 1) := by decide +kernel
theorem dX11_spoil_1 : decode cX11_spoil 1 = .ok (.getfield 51, 3) := by decide +kernel
theorem dX11_spoil_4 : decode cX11_spoil 4 = .ok (.iload_n 1, 1) := by decide +kernel
theorem dX11_spoil_5 : decode cX11_spoil 5 = .ok (.invokevirtual 145, 3) := by decide +kernel
theorem dX11_spoil_8 : decode cX11_spoil 8 = .ok (.ifCond .eq 19, 3) := by decide +kernel
theorem dX11_spoil_11 : decode cX11_spoil 11 = .ok (.aload_n 0, 1) := by decide +kernel
theorem dX11_spoil_12 : decode cX11_spoil 12 = .ok (.getfield 51, 3) := by decide +kernel
theorem dX11_spoil_15 : decode cX11_spoil 15 = .ok (.getfield 148, 3) := by decide +kernel
theorem dX11_spoil_18 : decode cX11_spoil 18 = .ok (.iload_n 1, 1) := by decide +kernel
theorem dX11_spoil_19 : decode cX11_spoil 19 = .ok (.aaload, 1) := by decide +kernel
theorem dX11_spoil_20 : decode cX11_spoil 20 = .ok (.iload_n 2, 1) := by decide +kernel
theorem dX11_spoil_21 : decode cX11_spoil 21 = .ok (.invokevirtual 160, 3) := by decide +kernel
theorem dX11_spoil_24 : decode cX11_spoil 24 = .ok (.ifCond .ne 6, 3) := by decide +kernel
theorem dX11_spoil_27 : decode cX11_spoil 27 = .ok (.bipush (-2), 2) := by decide +kernel
theorem dX11_spoil_29 : decode cX11_spoil 29 = .ok (.ireturn, 1) := by decide +kernel
theorem dX11_spoil_30 : decode cX11_spoil 30 = .ok (.iload_n 3, 1) := by decide +kernel
theorem dX11_spoil_31 : decode cX11_spoil 31 = .ok (.iconst 0, 1) := by decide +kernel
theorem dX11_spoil_32 : decode cX11_spoil 32 = .ok (.bipush 28, 2) := by decide +kernel
theorem dX11_spoil_34 : decode cX11_spoil 34 = .ok (.invokestatic 64, 3) := by decide +kernel
theorem dX11_spoil_37 : decode cX11_spoil 37 = .ok (.ifCond .ne 6, 3) := by decide +kernel
theorem dX11_spoil_40 : decode cX11_spoil 40 = .ok (.bipush (-3), 2) := by decide +kernel
theorem dX11_spoil_42 : decode cX11_spoil 42 = .ok (.ireturn, 1) := by decide +kernel
theorem dX11_spoil_43 : decode cX11_spoil 43 = .ok (.aload_n 0, 1) := by decide +kernel
theorem dX11_spoil_44 : decode cX11_spoil 44 = .ok (.getfield 51, 3) := by decide +kernel
theorem dX11_spoil_47 : decode cX11_spoil 47 = .ok (.getfield 148, 3) := by decide +kernel
theorem dX11_spoil_50 : decode cX11_spoil 50 = .ok (.iload_n 1, 1) := by decide +kernel
theorem dX11_spoil_51 : decode cX11_spoil 51 = .ok (.aaload, 1) := by decide +kernel
theorem dX11_spoil_52 : decode cX11_spoil 52 = .ok (.astore 4, 2) := by decide +kernel
theorem dX11_spoil_54 : decode cX11_spoil 54 = .ok (.aload_n 0, 1) := by decide +kernel
theorem dX11_spoil_55 : decode cX11_spoil 55 = .ok (.getfield 60, 3) := by decide +kernel
theorem dX11_spoil_58 : decode cX11_spoil 58 = .ok (.aload_n 0, 1) := by decide +kernel
theorem dX11_spoil_59 : decode cX11_spoil 59 = .ok (.getfield 28, 3) := by decide +kernel
theorem dX11_spoil_62 : decode cX11_spoil 62 = .ok (.aload_n 0, 1) := by decide +kernel
theorem dX11_spoil_63 : decode cX11_spoil 63 = .ok (.getfield 51, 3) := by decide +kernel
theorem dX11_spoil_66 : decode cX11_spoil 66 = .ok (.aload 4, 2) := by decide +kernel
theorem dX11_spoil_68 : decode cX11_spoil 68 = .ok (.invokevirtual 123, 3) := by decide +kernel
theorem dX11_spoil_71 : decode cX11_spoil 71 = .ok (.aload 4, 2) := by decide +kernel
theorem dX11_spoil_73 : decode cX11_spoil 73 = .ok (.getfield 163, 3) := by decide +kernel
theorem dX11_spoil_76 : decode cX11_spoil 76 = .ok (.iload_n 2, 1) := by decide +kernel
theorem dX11_spoil_77 : decode cX11_spoil 77 = .ok (.iaload, 1) := by decide +kernel
theorem dX11_spoil_78 : decode cX11_spoil 78 = .ok (.istore 5, 2) := by decide +kernel
theorem dX11_spoil_80 : decode cX11_spoil 80 = .ok (.aload 4, 2) := by decide +kernel
theorem dX11_spoil_82 : decode cX11_spoil 82 = .ok (.getfield 163, 3) := by decide +kernel
theorem dX11_spoil_85 : decode cX11_spoil 85 = .ok (.iload_n 2, 1) := by decide +kernel
theorem dX11_spoil_86 : decode cX11_spoil 86 = .ok (.iload_n 3, 1) := by decide +kernel
theorem dX11_spoil_87 : decode cX11_spoil 87 = .ok (.iastore, 1) := by decide +kernel
theorem dX11_spoil_88 : decode cX11_spoil 88 = .ok (.iload 5, 2) := by decide +kernel
theorem dX11_spoil_90 : decode cX11_spoil 90 = .ok (.ireturn, 1) := by decide +kernel
theorem dX11_again_0 : decode cX11_again 0 = .ok (.aload_n 0, 1) := by decide +kernel
theorem dX11_again_1 : decode cX11_again 1 = .ok (.getfield 51, 3) := by decide +kernel
theorem dX11_again_4 : decode cX11_again 4 = .ok (.iload_n 1, 1) := by decide +kernel
theorem dX11_again_5 : decode cX11_again 5 = .ok (.invokevirtual 145, 3) := by decide +kernel
theorem dX11_again_8 : decode cX11_again 8 = .ok (.ifCond .ne 6, 3) := by decide +kernel
theorem dX11_again_11 : decode cX11_again 11 = .ok (.bipush (-2), 2) := by decide +kernel
theorem dX11_again_13 : decode cX11_again 13 = .ok (.ireturn, 1) := by decide +kernel
theorem dX11_again_14 : decode cX11_again 14 = .ok (.aload_n 0, 1) := by decide +kernel
theorem dX11_again_15 : decode cX11_again 15 = .ok (.getfield 60, 3) := by decide +kernel
theorem dX11_again_18 : decode cX11_again 18 = .ok (.aload_n 0, 1) := by decide +kernel
theorem dX11_again_19 : decode cX11_again 19 = .ok (.getfield 28, 3) := by decide +kernel
theorem dX11_again_22 : decode cX11_again 22 = .ok (.aload_n 0, 1) := by decide +kernel
theorem dX11_again_23 : decode cX11_again 23 = .ok (.getfield 51, 3) := by decide +kernel
theorem dX11_again_26 : decode cX11_again 26 = .ok (.aload_n 0, 1) := by decide +kernel
theorem dX11_again_27 : decode cX11_again 27 = .ok (.getfield 51, 3) := by decide +kernel
theorem dX11_again_30 : decode cX11_again 30 = .ok (.getfield 148, 3) := by decide +kernel
theorem dX11_again_33 : decode cX11_again 33 = .ok (.iload_n 1, 1) := by decide +kernel
theorem dX11_again_34 : decode cX11_again 34 = .ok (.aaload, 1) := by decide +kernel
theorem dX11_again_35 : decode cX11_again 35 = .ok (.invokevirtual 123, 3) := by decide +kernel
theorem dX11_again_38 : decode cX11_again 38 = .ok (.aload_n 0, 1) := by decide +kernel
theorem dX11_again_39 : decode cX11_again 39 = .ok (.getfield 51, 3) := by decide +kernel
theorem dX11_again_42 : decode cX11_again 42 = .ok (.getfield 148, 3) := by decide +kernel
theorem dX11_again_45 : decode cX11_again 45 = .ok (.iload_n 1, 1) := by decide +kernel
theorem dX11_again_46 : decode cX11_again 46 = .ok (.aaload, 1) := by decide +kernel
theorem dX11_again_47 : decode cX11_again 47 = .ok (.aload_n 0, 1) := by decide +kernel
theorem dX11_again_48 : decode cX11_again 48 = .ok (.getfield 51, 3) := by decide +kernel
theorem dX11_again_51 : decode cX11_again 51 = .ok (.getfield 144, 3) := by decide +kernel
theorem dX11_again_54 : decode cX11_again 54 = .ok (.invokevirtual 166, 3) := by decide +kernel
theorem dX11_again_57 : decode cX11_again 57 = .ok (.ireturn, 1) := by decide +kernel
theorem dX11_undo_0 : decode cX11_undo 0 = .ok (.aload_n 0, 1) := by decide +kernel
theorem dX11_undo_1 : decode cX11_undo 1 = .ok (.getfield 60, 3) := by decide +kernel
theorem dX11_undo_4 : decode cX11_undo 4 = .ok (.getfield 169, 3) := by decide +kernel
theorem dX11_undo_7 : decode cX11_undo 7 = .ok (.ifCond .ne 6, 3) := by decide +kernel
theorem dX11_undo_10 : decode cX11_undo 10 = .ok (.bipush (-4), 2) := by decide +kernel
theorem dX11_undo_12 : decode cX11_undo 12 = .ok (.ireturn, 1) := by decide +kernel
theorem dX11_undo_13 : decode cX11_undo 13 = .ok (.aload_n 0, 1) := by decide +kernel
theorem dX11_undo_14 : decode cX11_undo 14 = .ok (.getfield 60, 3) := by decide +kernel
theorem dX11_undo_17 : decode cX11_undo 17 = .ok (.invokevirtual 172, 3) := by decide +kernel
theorem dX11_undo_20 : decode cX11_undo 20 = .ok (.astore_n 1, 1) := by decide +kernel
theorem dX11_undo_21 : decode cX11_undo 21 = .ok (.aload_n 1, 1) := by decide +kernel
theorem dX11_undo_22 : decode cX11_undo 22 = .ok (.aload_n 0, 1) := by decide +kernel
theorem dX11_undo_23 : decode cX11_undo 23 = .ok (.getfield 28, 3) := by decide +kernel
theorem dX11_undo_26 : decode cX11_undo 26 = .ok (.invokevirtual 176, 3) := by decide +kernel
theorem dX11_undo_29 : decode cX11_undo 29 = .ok (.aload_n 0, 1) := by decide +kernel
theorem dX11_undo_30 : decode cX11_undo 30 = .ok (.aload_n 1, 1) := by decide +kernel
theorem dX11_undo_31 : decode cX11_undo 31 = .ok (.getfield 182, 3) := by decide +kernel
theorem dX11_undo_34 : decode cX11_undo 34 = .ok (.putfield 51, 3) := by decide +kernel
theorem dX11_undo_37 : decode cX11_undo 37 = .ok (.aload_n 0, 1) := by decide +kernel
theorem dX11_undo_38 : decode cX11_undo 38 = .ok (.getfield 60, 3) := by decide +kernel
theorem dX11_undo_41 : decode cX11_undo 41 = .ok (.getfield 169, 3) := by decide +kernel
theorem dX11_undo_44 : decode cX11_undo 44 = .ok (.ireturn, 1) := by decide +kernel
theorem dX11_number_0 : decode cX11_number 0 = .ok (.aload_n 0, 1) := by decide +kernel
theorem dX11_number_1 : decode cX11_number 1 = .ok (.getfield 51, 3) := by decide +kernel
theorem dX11_number_4 : decode cX11_number 4 = .ok (.iload_n 1, 1) := by decide +kernel
theorem dX11_number_5 : decode cX11_number 5 = .ok (.invokevirtual 145, 3) := by decide +kernel
theorem dX11_number_8 : decode cX11_number 8 = .ok (.ifCond .eq 20, 3) := by decide +kernel
theorem dX11_number_11 : decode cX11_number 11 = .ok (.iload_n 2, 1) := by decide +kernel
theorem dX11_number_12 : decode cX11_number 12 = .ok (.iconst 0, 1) := by decide +kernel
theorem dX11_number_13 : decode cX11_number 13 = .ok (.aload_n 0, 1) := by decide +kernel
theorem dX11_number_14 : decode cX11_number 14 = .ok (.getfield 51, 3) := by decide +kernel
theorem dX11_number_17 : decode cX11_number 17 = .ok (.getfield 144, 3) := by decide +kernel
theorem dX11_number_20 : decode cX11_number 20 = .ok (.iconst 1, 1) := by decide +kernel
theorem dX11_number_21 : decode cX11_number 21 = .ok (.isub, 1) := by decide +kernel
theorem dX11_number_22 : decode cX11_number 22 = .ok (.invokestatic 64, 3) := by decide +kernel
theorem dX11_number_25 : decode cX11_number 25 = .ok (.ifCond .ne 6, 3) := by decide +kernel
theorem dX11_number_28 : decode cX11_number 28 = .ok (.bipush (-2), 2) := by decide +kernel
theorem dX11_number_30 : decode cX11_number 30 = .ok (.ireturn, 1) := by decide +kernel
theorem dX11_number_31 : decode cX11_number 31 = .ok (.aload_n 0, 1) := by decide +kernel
theorem dX11_number_32 : decode cX11_number 32 = .ok (.getfield 51, 3) := by decide +kernel
theorem dX11_number_35 : decode cX11_number 35 = .ok (.getfield 148, 3) := by decide +kernel
theorem dX11_number_38 : decode cX11_number 38 = .ok (.iload_n 1, 1) := by decide +kernel
theorem dX11_number_39 : decode cX11_number 39 = .ok (.aaload, 1) := by decide +kernel
theorem dX11_number_40 : decode cX11_number 40 = .ok (.astore_n 3, 1) := by decide +kernel
theorem dX11_number_41 : decode cX11_number 41 = .ok (.aload_n 3, 1) := by decide +kernel
theorem dX11_number_42 : decode cX11_number 42 = .ok (.iload_n 2, 1) := by decide +kernel
theorem dX11_number_43 : decode cX11_number 43 = .ok (.invokevirtual 160, 3) := by decide +kernel
theorem dX11_number_46 : decode cX11_number 46 = .ok (.ifCond .eq 12, 3) := by decide +kernel
theorem dX11_number_49 : decode cX11_number 49 = .ok (.aload_n 3, 1) := by decide +kernel
theorem dX11_number_50 : decode cX11_number 50 = .ok (.getfield 163, 3) := by decide +kernel
theorem dX11_number_53 : decode cX11_number 53 = .ok (.iload_n 2, 1) := by decide +kernel
theorem dX11_number_54 : decode cX11_number 54 = .ok (.iaload, 1) := by decide +kernel
theorem dX11_number_55 : decode cX11_number 55 = .ok (.goto 4, 3) := by decide +kernel
theorem dX11_number_58 : decode cX11_number 58 = .ok (.iconst (-1), 1) := by decide +kernel
theorem dX11_number_59 : decode cX11_number 59 = .ok (.ireturn, 1) := by decide +kernel
theorem dX11_packed_0 : decode cX11_packed 0 = .ok (.aload_n 0, 1) := by decide +kernel
theorem dX11_packed_1 : decode cX11_packed 1 = .ok (.getfield 51, 3) := by decide +kernel
theorem dX11_packed_4 : decode cX11_packed 4 = .ok (.iload_n 1, 1) := by decide +kernel
theorem dX11_packed_5 : decode cX11_packed 5 = .ok (.invokevirtual 183, 3) := by decide +kernel
theorem dX11_packed_8 : decode cX11_packed 8 = .ok (.ifCond .ne 6, 3) := by decide +kernel
theorem dX11_packed_11 : decode cX11_packed 11 = .ok (.bipush (-2), 2) := by decide +kernel
theorem dX11_packed_13 : decode cX11_packed 13 = .ok (.ireturn, 1) := by decide +kernel
theorem dX11_packed_14 : decode cX11_packed 14 = .ok (.iload_n 2, 1) := by decide +kernel
theorem dX11_packed_15 : decode cX11_packed 15 = .ok (.tableswitch 105 0 5 #[37, 50, 63, 77, 87, 96], 37) := by decide +kernel
theorem dX11_packed_52 : decode cX11_packed 52 = .ok (.aload_n 0, 1) := by decide +kernel
theorem dX11_packed_53 : decode cX11_packed 53 = .ok (.getfield 51, 3) := by decide +kernel
theorem dX11_packed_56 : decode cX11_packed 56 = .ok (.iload_n 1, 1) := by decide +kernel
theorem dX11_packed_57 : decode cX11_packed 57 = .ok (.aload_n 0, 1) := by decide +kernel
theorem dX11_packed_58 : decode cX11_packed 58 = .ok (.getfield 42, 3) := by decide +kernel
theorem dX11_packed_61 : decode cX11_packed 61 = .ok (.invokevirtual 186, 3) := by decide +kernel
theorem dX11_packed_64 : decode cX11_packed 64 = .ok (.ireturn, 1) := by decide +kernel
theorem dX11_packed_65 : decode cX11_packed 65 = .ok (.aload_n 0, 1) := by decide +kernel
theorem dX11_packed_66 : decode cX11_packed 66 = .ok (.getfield 51, 3) := by decide +kernel
theorem dX11_packed_69 : decode cX11_packed 69 = .ok (.getfield 190, 3) := by decide +kernel
theorem dX11_packed_72 : decode cX11_packed 72 = .ok (.iload_n 1, 1) := by decide +kernel
theorem dX11_packed_73 : decode cX11_packed 73 = .ok (.aaload, 1) := by decide +kernel
theorem dX11_packed_74 : decode cX11_packed 74 = .ok (.getfield 110, 3) := by decide +kernel
theorem dX11_packed_77 : decode cX11_packed 77 = .ok (.ireturn, 1) := by decide +kernel
theorem dX11_packed_78 : decode cX11_packed 78 = .ok (.aload_n 0, 1) := by decide +kernel
theorem dX11_packed_79 : decode cX11_packed 79 = .ok (.getfield 51, 3) := by decide +kernel
theorem dX11_packed_82 : decode cX11_packed 82 = .ok (.getfield 190, 3) := by decide +kernel
theorem dX11_packed_85 : decode cX11_packed 85 = .ok (.iload_n 1, 1) := by decide +kernel
theorem dX11_packed_86 : decode cX11_packed 86 = .ok (.aaload, 1) := by decide +kernel
theorem dX11_packed_87 : decode cX11_packed 87 = .ok (.getfield 104, 3) := by decide +kernel
theorem dX11_packed_90 : decode cX11_packed 90 = .ok (.arraylength, 1) := by decide +kernel
theorem dX11_packed_91 : decode cX11_packed 91 = .ok (.ireturn, 1) := by decide +kernel
theorem dX11_packed_92 : decode cX11_packed 92 = .ok (.aload_n 0, 1) := by decide +kernel
theorem dX11_packed_93 : decode cX11_packed 93 = .ok (.getfield 51, 3) := by decide +kernel
theorem dX11_packed_96 : decode cX11_packed 96 = .ok (.getfield 191, 3) := by decide +kernel
theorem dX11_packed_99 : decode cX11_packed 99 = .ok (.iload_n 1, 1) := by decide +kernel
theorem dX11_packed_100 : decode cX11_packed 100 = .ok (.iaload, 1) := by decide +kernel
theorem dX11_packed_101 : decode cX11_packed 101 = .ok (.ireturn, 1) := by decide +kernel
theorem dX11_packed_102 : decode cX11_packed 102 = .ok (.aload_n 0, 1) := by decide +kernel
theorem dX11_packed_103 : decode cX11_packed 103 = .ok (.getfield 51, 3) := by decide +kernel
theorem dX11_packed_106 : decode cX11_packed 106 = .ok (.iload_n 1, 1) := by decide +kernel
theorem dX11_packed_107 : decode cX11_packed 107 = .ok (.invokevirtual 194, 3) := by decide +kernel
theorem dX11_packed_110 : decode cX11_packed 110 = .ok (.ireturn, 1) := by decide +kernel
theorem dX11_packed_111 : decode cX11_packed 111 = .ok (.aload_n 0, 1) := by decide +kernel
theorem dX11_packed_112 : decode cX11_packed 112 = .ok (.getfield 51, 3) := by decide +kernel
theorem dX11_packed_115 : decode cX11_packed 115 = .ok (.iload_n 1, 1) := by decide +kernel
theorem dX11_packed_116 : decode cX11_packed 116 = .ok (.invokevirtual 197, 3) := by decide +kernel
theorem dX11_packed_119 : decode cX11_packed 119 = .ok (.ireturn, 1) := by decide +kernel
theorem dX11_packed_120 : decode cX11_packed 120 = .ok (.bipush (-3), 2) := by decide +kernel
theorem dX11_packed_122 : decode cX11_packed 122 = .ok (.ireturn, 1) := by decide +kernel
theorem dX11_read_0 : decode cX11_read 0 = .ok (.aload_n 0, 1) := by decide +kernel
theorem dX11_read_1 : decode cX11_read 1 = .ok (.getfield 51, 3) := by decide +kernel
theorem dX11_read_4 : decode cX11_read 4 = .ok (.iload_n 1, 1) := by decide +kernel
theorem dX11_read_5 : decode cX11_read 5 = .ok (.invokevirtual 183, 3) := by decide +kernel
theorem dX11_read_8 : decode cX11_read 8 = .ok (.ifCond .eq 19, 3) := by decide +kernel
theorem dX11_read_11 : decode cX11_read 11 = .ok (.aload_n 0, 1) := by decide +kernel
theorem dX11_read_12 : decode cX11_read 12 = .ok (.getfield 51, 3) := by decide +kernel
theorem dX11_read_15 : decode cX11_read 15 = .ok (.getfield 190, 3) := by decide +kernel
theorem dX11_read_18 : decode cX11_read 18 = .ok (.iload_n 1, 1) := by decide +kernel
theorem dX11_read_19 : decode cX11_read 19 = .ok (.aaload, 1) := by decide +kernel
theorem dX11_read_20 : decode cX11_read 20 = .ok (.iload_n 2, 1) := by decide +kernel
theorem dX11_read_21 : decode cX11_read 21 = .ok (.invokevirtual 120, 3) := by decide +kernel
theorem dX11_read_24 : decode cX11_read 24 = .ok (.ifCond .ne 6, 3) := by decide +kernel
theorem dX11_read_27 : decode cX11_read 27 = .ok (.bipush (-2), 2) := by decide +kernel
theorem dX11_read_29 : decode cX11_read 29 = .ok (.ireturn, 1) := by decide +kernel
theorem dX11_read_30 : decode cX11_read 30 = .ok (.aload_n 0, 1) := by decide +kernel
theorem dX11_read_31 : decode cX11_read 31 = .ok (.getfield 51, 3) := by decide +kernel
theorem dX11_read_34 : decode cX11_read 34 = .ok (.iload_n 1, 1) := by decide +kernel
theorem dX11_read_35 : decode cX11_read 35 = .ok (.aload_n 0, 1) := by decide +kernel
theorem dX11_read_36 : decode cX11_read 36 = .ok (.getfield 51, 3) := by decide +kernel
theorem dX11_read_39 : decode cX11_read 39 = .ok (.getfield 190, 3) := by decide +kernel
theorem dX11_read_42 : decode cX11_read 42 = .ok (.iload_n 1, 1) := by decide +kernel
theorem dX11_read_43 : decode cX11_read 43 = .ok (.aaload, 1) := by decide +kernel
theorem dX11_read_44 : decode cX11_read 44 = .ok (.iload_n 2, 1) := by decide +kernel
theorem dX11_read_45 : decode cX11_read 45 = .ok (.invokevirtual 200, 3) := by decide +kernel
theorem dX11_read_48 : decode cX11_read 48 = .ok (.aload_n 0, 1) := by decide +kernel
theorem dX11_read_49 : decode cX11_read 49 = .ok (.getfield 42, 3) := by decide +kernel
theorem dX11_read_52 : decode cX11_read 52 = .ok (.invokevirtual 203, 3) := by decide +kernel
theorem dX11_read_55 : decode cX11_read 55 = .ok (.aload_n 0, 1) := by decide +kernel
theorem dX11_read_56 : decode cX11_read 56 = .ok (.getfield 42, 3) := by decide +kernel
theorem dX11_read_59 : decode cX11_read 59 = .ok (.invokevirtual 207, 3) := by decide +kernel
theorem dX11_read_62 : decode cX11_read 62 = .ok (.ifCond .ne 6, 3) := by decide +kernel
theorem dX11_read_65 : decode cX11_read 65 = .ok (.bipush (-4), 2) := by decide +kernel
theorem dX11_read_67 : decode cX11_read 67 = .ok (.ireturn, 1) := by decide +kernel
theorem dX11_read_68 : decode cX11_read 68 = .ok (.aload_n 0, 1) := by decide +kernel
theorem dX11_read_69 : decode cX11_read 69 = .ok (.getfield 42, 3) := by decide +kernel
theorem dX11_read_72 : decode cX11_read 72 = .ok (.invokevirtual 210, 3) := by decide +kernel
theorem dX11_read_75 : decode cX11_read 75 = .ok (.aload_n 0, 1) := by decide +kernel
theorem dX11_read_76 : decode cX11_read 76 = .ok (.getfield 42, 3) := by decide +kernel
theorem dX11_read_79 : decode cX11_read 79 = .ok (.aload_n 0, 1) := by decide +kernel
theorem dX11_read_80 : decode cX11_read 80 = .ok (.getfield 51, 3) := by decide +kernel
theorem dX11_read_83 : decode cX11_read 83 = .ok (.getfield 190, 3) := by decide +kernel
theorem dX11_read_86 : decode cX11_read 86 = .ok (.iload_n 1, 1) := by decide +kernel
theorem dX11_read_87 : decode cX11_read 87 = .ok (.aaload, 1) := by decide +kernel
theorem dX11_read_88 : decode cX11_read 88 = .ok (.iload_n 2, 1) := by decide +kernel
theorem dX11_read_89 : decode cX11_read 89 = .ok (.invokevirtual 213, 3) := by decide +kernel
theorem dX11_read_92 : decode cX11_read 92 = .ok (.invokevirtual 216, 3) := by decide +kernel
theorem dX11_read_95 : decode cX11_read 95 = .ok (.ireturn, 1) := by decide +kernel
theorem dX11_mended_0 : decode cX11_mended 0 = .ok (.aload_n 0, 1) := by decide +kernel
theorem dX11_mended_1 : decode cX11_mended 1 = .ok (.getfield 51, 3) := by decide +kernel
theorem dX11_mended_4 : decode cX11_mended 4 = .ok (.iload_n 1, 1) := by decide +kernel
theorem dX11_mended_5 : decode cX11_mended 5 = .ok (.invokevirtual 183, 3) := by decide +kernel
theorem dX11_mended_8 : decode cX11_mended 8 = .ok (.ifCond .eq 19, 3) := by decide +kernel
theorem dX11_mended_11 : decode cX11_mended 11 = .ok (.aload_n 0, 1) := by decide +kernel
theorem dX11_mended_12 : decode cX11_mended 12 = .ok (.getfield 51, 3) := by decide +kernel
theorem dX11_mended_15 : decode cX11_mended 15 = .ok (.getfield 190, 3) := by decide +kernel
theorem dX11_mended_18 : decode cX11_mended 18 = .ok (.iload_n 1, 1) := by decide +kernel
theorem dX11_mended_19 : decode cX11_mended 19 = .ok (.aaload, 1) := by decide +kernel
theorem dX11_mended_20 : decode cX11_mended 20 = .ok (.iload_n 2, 1) := by decide +kernel
theorem dX11_mended_21 : decode cX11_mended 21 = .ok (.invokevirtual 120, 3) := by decide +kernel
theorem dX11_mended_24 : decode cX11_mended 24 = .ok (.ifCond .ne 6, 3) := by decide +kernel
theorem dX11_mended_27 : decode cX11_mended 27 = .ok (.bipush (-2), 2) := by decide +kernel
theorem dX11_mended_29 : decode cX11_mended 29 = .ok (.ireturn, 1) := by decide +kernel
theorem dX11_mended_30 : decode cX11_mended 30 = .ok (.aload_n 0, 1) := by decide +kernel
theorem dX11_mended_31 : decode cX11_mended 31 = .ok (.getfield 51, 3) := by decide +kernel
theorem dX11_mended_34 : decode cX11_mended 34 = .ok (.iload_n 1, 1) := by decide +kernel
theorem dX11_mended_35 : decode cX11_mended 35 = .ok (.aload_n 0, 1) := by decide +kernel
theorem dX11_mended_36 : decode cX11_mended 36 = .ok (.getfield 51, 3) := by decide +kernel
theorem dX11_mended_39 : decode cX11_mended 39 = .ok (.getfield 190, 3) := by decide +kernel
theorem dX11_mended_42 : decode cX11_mended 42 = .ok (.iload_n 1, 1) := by decide +kernel
theorem dX11_mended_43 : decode cX11_mended 43 = .ok (.aaload, 1) := by decide +kernel
theorem dX11_mended_44 : decode cX11_mended 44 = .ok (.iload_n 2, 1) := by decide +kernel
theorem dX11_mended_45 : decode cX11_mended 45 = .ok (.invokevirtual 200, 3) := by decide +kernel
theorem dX11_mended_48 : decode cX11_mended 48 = .ok (.aload_n 0, 1) := by decide +kernel
theorem dX11_mended_49 : decode cX11_mended 49 = .ok (.getfield 42, 3) := by decide +kernel
theorem dX11_mended_52 : decode cX11_mended 52 = .ok (.invokevirtual 203, 3) := by decide +kernel
theorem dX11_mended_55 : decode cX11_mended 55 = .ok (.aload_n 0, 1) := by decide +kernel
theorem dX11_mended_56 : decode cX11_mended 56 = .ok (.getfield 42, 3) := by decide +kernel
theorem dX11_mended_59 : decode cX11_mended 59 = .ok (.invokevirtual 207, 3) := by decide +kernel
theorem dX11_mended_62 : decode cX11_mended 62 = .ok (.ifCond .ne 6, 3) := by decide +kernel
theorem dX11_mended_65 : decode cX11_mended 65 = .ok (.bipush (-4), 2) := by decide +kernel
theorem dX11_mended_67 : decode cX11_mended 67 = .ok (.ireturn, 1) := by decide +kernel
theorem dX11_mended_68 : decode cX11_mended 68 = .ok (.aload_n 0, 1) := by decide +kernel
theorem dX11_mended_69 : decode cX11_mended 69 = .ok (.getfield 42, 3) := by decide +kernel
theorem dX11_mended_72 : decode cX11_mended 72 = .ok (.invokevirtual 219, 3) := by decide +kernel
theorem dX11_mended_75 : decode cX11_mended 75 = .ok (.ifCond .eq 26, 3) := by decide +kernel
theorem dX11_mended_78 : decode cX11_mended 78 = .ok (.aload_n 0, 1) := by decide +kernel
theorem dX11_mended_79 : decode cX11_mended 79 = .ok (.getfield 42, 3) := by decide +kernel
theorem dX11_mended_82 : decode cX11_mended 82 = .ok (.aload_n 0, 1) := by decide +kernel
theorem dX11_mended_83 : decode cX11_mended 83 = .ok (.getfield 51, 3) := by decide +kernel
theorem dX11_mended_86 : decode cX11_mended 86 = .ok (.getfield 190, 3) := by decide +kernel
theorem dX11_mended_89 : decode cX11_mended 89 = .ok (.iload_n 1, 1) := by decide +kernel
theorem dX11_mended_90 : decode cX11_mended 90 = .ok (.aaload, 1) := by decide +kernel
theorem dX11_mended_91 : decode cX11_mended 91 = .ok (.iload_n 2, 1) := by decide +kernel
theorem dX11_mended_92 : decode cX11_mended 92 = .ok (.invokevirtual 213, 3) := by decide +kernel
theorem dX11_mended_95 : decode cX11_mended 95 = .ok (.invokevirtual 216, 3) := by decide +kernel
theorem dX11_mended_98 : decode cX11_mended 98 = .ok (.goto 4, 3) := by decide +kernel
theorem dX11_mended_101 : decode cX11_mended 101 = .ok (.iconst (-1), 1) := by decide +kernel
theorem dX11_mended_102 : decode cX11_mended 102 = .ok (.ireturn, 1) := by decide +kernel
theorem dX11_blamed_0 : decode cX11_blamed 0 = .ok (.aload_n 0, 1) := by decide +kernel
theorem dX11_blamed_1 : decode cX11_blamed 1 = .ok (.getfield 51, 3) := by decide +kernel
theorem dX11_blamed_4 : decode cX11_blamed 4 = .ok (.iload_n 1, 1) := by decide +kernel
theorem dX11_blamed_5 : decode cX11_blamed 5 = .ok (.invokevirtual 145, 3) := by decide +kernel
theorem dX11_blamed_8 : decode cX11_blamed 8 = .ok (.ifCond .eq 18, 3) := by decide +kernel
theorem dX11_blamed_11 : decode cX11_blamed 11 = .ok (.aload_n 0, 1) := by decide +kernel
theorem dX11_blamed_12 : decode cX11_blamed 12 = .ok (.getfield 51, 3) := by decide +kernel
theorem dX11_blamed_15 : decode cX11_blamed 15 = .ok (.iload_n 1, 1) := by decide +kernel
theorem dX11_blamed_16 : decode cX11_blamed 16 = .ok (.aload_n 0, 1) := by decide +kernel
theorem dX11_blamed_17 : decode cX11_blamed 17 = .ok (.getfield 42, 3) := by decide +kernel
theorem dX11_blamed_20 : decode cX11_blamed 20 = .ok (.invokevirtual 222, 3) := by decide +kernel
theorem dX11_blamed_23 : decode cX11_blamed 23 = .ok (.goto 5, 3) := by decide +kernel
theorem dX11_blamed_26 : decode cX11_blamed 26 = .ok (.bipush (-2), 2) := by decide +kernel
theorem dX11_blamed_28 : decode cX11_blamed 28 = .ok (.ireturn, 1) := by decide +kernel
theorem dX11_opened_0 : decode cX11_opened 0 = .ok (.iload_n 1, 1) := by decide +kernel
theorem dX11_opened_1 : decode cX11_opened 1 = .ok (.iconst 0, 1) := by decide +kernel
theorem dX11_opened_2 : decode cX11_opened 2 = .ok (.bipush 8, 2) := by decide +kernel
theorem dX11_opened_4 : decode cX11_opened 4 = .ok (.invokestatic 64, 3) := by decide +kernel
theorem dX11_opened_7 : decode cX11_opened 7 = .ok (.ifCond .eq 14, 3) := by decide +kernel
theorem dX11_opened_10 : decode cX11_opened 10 = .ok (.aload_n 0, 1) := by decide +kernel
theorem dX11_opened_11 : decode cX11_opened 11 = .ok (.getfield 51, 3) := by decide +kernel
theorem dX11_opened_14 : decode cX11_opened 14 = .ok (.iload_n 1, 1) := by decide +kernel
theorem dX11_opened_15 : decode cX11_opened 15 = .ok (.invokevirtual 225, 3) := by decide +kernel
theorem dX11_opened_18 : decode cX11_opened 18 = .ok (.goto 5, 3) := by decide +kernel
theorem dX11_opened_21 : decode cX11_opened 21 = .ok (.bipush (-3), 2) := by decide +kernel
theorem dX11_opened_23 : decode cX11_opened 23 = .ok (.ireturn, 1) := by decide +kernel
theorem dX11_plan_0 : decode cX11_plan 0 = .ok (.aload_n 0, 1) := by decide +kernel
theorem dX11_plan_1 : decode cX11_plan 1 = .ok (.getfield 28, 3) := by decide +kernel
theorem dX11_plan_4 : decode cX11_plan 4 = .ok (.iload_n 1, 1) := by decide +kernel
theorem dX11_plan_5 : decode cX11_plan 5 = .ok (.invokevirtual 97, 3) := by decide +kernel
theorem dX11_plan_8 : decode cX11_plan 8 = .ok (.ifCond .ne 6, 3) := by decide +kernel
theorem dX11_plan_11 : decode cX11_plan 11 = .ok (.bipush (-2), 2) := by decide +kernel
theorem dX11_plan_13 : decode cX11_plan 13 = .ok (.ireturn, 1) := by decide +kernel
theorem dX11_plan_14 : decode cX11_plan 14 = .ok (.aload_n 0, 1) := by decide +kernel
theorem dX11_plan_15 : decode cX11_plan 15 = .ok (.getfield 35, 3) := by decide +kernel
theorem dX11_plan_18 : decode cX11_plan 18 = .ok (.aload_n 0, 1) := by decide +kernel
theorem dX11_plan_19 : decode cX11_plan 19 = .ok (.getfield 28, 3) := by decide +kernel
theorem dX11_plan_22 : decode cX11_plan 22 = .ok (.invokevirtual 228, 3) := by decide +kernel
theorem dX11_plan_25 : decode cX11_plan 25 = .ok (.ifCond .eq 15, 3) := by decide +kernel
theorem dX11_plan_28 : decode cX11_plan 28 = .ok (.aload_n 0, 1) := by decide +kernel
theorem dX11_plan_29 : decode cX11_plan 29 = .ok (.getfield 35, 3) := by decide +kernel
theorem dX11_plan_32 : decode cX11_plan 32 = .ok (.getfield 232, 3) := by decide +kernel
theorem dX11_plan_35 : decode cX11_plan 35 = .ok (.iload_n 1, 1) := by decide +kernel
theorem dX11_plan_36 : decode cX11_plan 36 = .ok (.iaload, 1) := by decide +kernel
theorem dX11_plan_37 : decode cX11_plan 37 = .ok (.goto 4, 3) := by decide +kernel
theorem dX11_plan_40 : decode cX11_plan 40 = .ok (.iconst (-1), 1) := by decide +kernel
theorem dX11_plan_41 : decode cX11_plan 41 = .ok (.ireturn, 1) := by decide +kernel
theorem dX11_lesser_0 : decode cX11_lesser 0 = .ok (.iload_n 1, 1) := by decide +kernel
theorem dX11_lesser_1 : decode cX11_lesser 1 = .ok (.iconst 0, 1) := by decide +kernel
theorem dX11_lesser_2 : decode cX11_lesser 2 = .ok (.bipush 40, 2) := by decide +kernel
theorem dX11_lesser_4 : decode cX11_lesser 4 = .ok (.invokestatic 64, 3) := by decide +kernel
theorem dX11_lesser_7 : decode cX11_lesser 7 = .ok (.ifCond .eq 14, 3) := by decide +kernel
theorem dX11_lesser_10 : decode cX11_lesser 10 = .ok (.aload_n 0, 1) := by decide +kernel
theorem dX11_lesser_11 : decode cX11_lesser 11 = .ok (.getfield 28, 3) := by decide +kernel
theorem dX11_lesser_14 : decode cX11_lesser 14 = .ok (.iload_n 1, 1) := by decide +kernel
theorem dX11_lesser_15 : decode cX11_lesser 15 = .ok (.invokevirtual 235, 3) := by decide +kernel
theorem dX11_lesser_18 : decode cX11_lesser 18 = .ok (.goto 5, 3) := by decide +kernel
theorem dX11_lesser_21 : decode cX11_lesser 21 = .ok (.bipush (-3), 2) := by decide +kernel
theorem dX11_lesser_23 : decode cX11_lesser 23 = .ok (.ireturn, 1) := by decide +kernel
theorem dX11_count_0 : decode cX11_count 0 = .ok (.iload_n 1, 1) := by decide +kernel
theorem dX11_count_1 : decode cX11_count 1 = .ok (.tableswitch 231 0 14 #[75, 83, 91, 99, 107, 123, 131, 157, 165, 173, 181, 189, 202, 215, 223], 75) := by decide +kernel
theorem dX11_count_76 : decode cX11_count 76 = .ok (.aload_n 0, 1) := by decide +kernel
theorem dX11_count_77 : decode cX11_count 77 = .ok (.getfield 28, 3) := by decide +kernel
theorem dX11_count_80 : decode cX11_count 80 = .ok (.getfield 76, 3) := by decide +kernel
theorem dX11_count_83 : decode cX11_count 83 = .ok (.ireturn, 1) := by decide +kernel
theorem dX11_count_84 : decode cX11_count 84 = .ok (.aload_n 0, 1) := by decide +kernel
theorem dX11_count_85 : decode cX11_count 85 = .ok (.getfield 28, 3) := by decide +kernel
theorem dX11_count_88 : decode cX11_count 88 = .ok (.getfield 127, 3) := by decide +kernel
theorem dX11_count_91 : decode cX11_count 91 = .ok (.ireturn, 1) := by decide +kernel
theorem dX11_count_92 : decode cX11_count 92 = .ok (.aload_n 0, 1) := by decide +kernel
theorem dX11_count_93 : decode cX11_count 93 = .ok (.getfield 28, 3) := by decide +kernel
theorem dX11_count_96 : decode cX11_count 96 = .ok (.getfield 130, 3) := by decide +kernel
theorem dX11_count_99 : decode cX11_count 99 = .ok (.ireturn, 1) := by decide +kernel
theorem dX11_count_100 : decode cX11_count 100 = .ok (.aload_n 0, 1) := by decide +kernel
theorem dX11_count_101 : decode cX11_count 101 = .ok (.getfield 28, 3) := by decide +kernel
theorem dX11_count_104 : decode cX11_count 104 = .ok (.invokevirtual 238, 3) := by decide +kernel
theorem dX11_count_107 : decode cX11_count 107 = .ok (.ireturn, 1) := by decide +kernel
theorem dX11_count_108 : decode cX11_count 108 = .ok (.aload_n 0, 1) := by decide +kernel
theorem dX11_count_109 : decode cX11_count 109 = .ok (.getfield 28, 3) := by decide +kernel
theorem dX11_count_112 : decode cX11_count 112 = .ok (.invokevirtual 140, 3) := by decide +kernel
theorem dX11_count_115 : decode cX11_count 115 = .ok (.ifCond .eq 7, 3) := by decide +kernel
theorem dX11_count_118 : decode cX11_count 118 = .ok (.iconst 1, 1) := by decide +kernel
theorem dX11_count_119 : decode cX11_count 119 = .ok (.goto 4, 3) := by decide +kernel
theorem dX11_count_122 : decode cX11_count 122 = .ok (.iconst 0, 1) := by decide +kernel
theorem dX11_count_123 : decode cX11_count 123 = .ok (.ireturn, 1) := by decide +kernel
theorem dX11_count_124 : decode cX11_count 124 = .ok (.aload_n 0, 1) := by decide +kernel
theorem dX11_count_125 : decode cX11_count 125 = .ok (.getfield 28, 3) := by decide +kernel
theorem dX11_count_128 : decode cX11_count 128 = .ok (.invokevirtual 240, 3) := by decide +kernel
theorem dX11_count_131 : decode cX11_count 131 = .ok (.ireturn, 1) := by decide +kernel
theorem dX11_count_132 : decode cX11_count 132 = .ok (.aload_n 0, 1) := by decide +kernel
theorem dX11_count_133 : decode cX11_count 133 = .ok (.getfield 35, 3) := by decide +kernel
theorem dX11_count_136 : decode cX11_count 136 = .ok (.aload_n 0, 1) := by decide +kernel
theorem dX11_count_137 : decode cX11_count 137 = .ok (.getfield 28, 3) := by decide +kernel
theorem dX11_count_140 : decode cX11_count 140 = .ok (.invokevirtual 228, 3) := by decide +kernel
theorem dX11_count_143 : decode cX11_count 143 = .ok (.ifCond .eq 13, 3) := by decide +kernel
theorem dX11_count_146 : decode cX11_count 146 = .ok (.aload_n 0, 1) := by decide +kernel
theorem dX11_count_147 : decode cX11_count 147 = .ok (.getfield 35, 3) := by decide +kernel
theorem dX11_count_150 : decode cX11_count 150 = .ok (.getfield 243, 3) := by decide +kernel
theorem dX11_count_153 : decode cX11_count 153 = .ok (.goto 4, 3) := by decide +kernel
theorem dX11_count_156 : decode cX11_count 156 = .ok (.iconst (-1), 1) := by decide +kernel
theorem dX11_count_157 : decode cX11_count 157 = .ok (.ireturn, 1) := by decide +kernel
theorem dX11_count_158 : decode cX11_count 158 = .ok (.aload_n 0, 1) := by decide +kernel
theorem dX11_count_159 : decode cX11_count 159 = .ok (.getfield 51, 3) := by decide +kernel
theorem dX11_count_162 : decode cX11_count 162 = .ok (.getfield 245, 3) := by decide +kernel
theorem dX11_count_165 : decode cX11_count 165 = .ok (.ireturn, 1) := by decide +kernel
theorem dX11_count_166 : decode cX11_count 166 = .ok (.aload_n 0, 1) := by decide +kernel
theorem dX11_count_167 : decode cX11_count 167 = .ok (.getfield 51, 3) := by decide +kernel
theorem dX11_count_170 : decode cX11_count 170 = .ok (.getfield 246, 3) := by decide +kernel
theorem dX11_count_173 : decode cX11_count 173 = .ok (.ireturn, 1) := by decide +kernel
theorem dX11_count_174 : decode cX11_count 174 = .ok (.aload_n 0, 1) := by decide +kernel
theorem dX11_count_175 : decode cX11_count 175 = .ok (.getfield 51, 3) := by decide +kernel
theorem dX11_count_178 : decode cX11_count 178 = .ok (.getfield 144, 3) := by decide +kernel
theorem dX11_count_181 : decode cX11_count 181 = .ok (.ireturn, 1) := by decide +kernel
theorem dX11_count_182 : decode cX11_count 182 = .ok (.aload_n 0, 1) := by decide +kernel
theorem dX11_count_183 : decode cX11_count 183 = .ok (.getfield 51, 3) := by decide +kernel
theorem dX11_count_186 : decode cX11_count 186 = .ok (.invokevirtual 249, 3) := by decide +kernel
theorem dX11_count_189 : decode cX11_count 189 = .ok (.ireturn, 1) := by decide +kernel
theorem dX11_count_190 : decode cX11_count 190 = .ok (.aload_n 0, 1) := by decide +kernel
theorem dX11_count_191 : decode cX11_count 191 = .ok (.getfield 51, 3) := by decide +kernel
theorem dX11_count_194 : decode cX11_count 194 = .ok (.iconst 0, 1) := by decide +kernel
theorem dX11_count_195 : decode cX11_count 195 = .ok (.aload_n 0, 1) := by decide +kernel
theorem dX11_count_196 : decode cX11_count 196 = .ok (.getfield 42, 3) := by decide +kernel
theorem dX11_count_199 : decode cX11_count 199 = .ok (.invokevirtual 252, 3) := by decide +kernel
theorem dX11_count_202 : decode cX11_count 202 = .ok (.ireturn, 1) := by decide +kernel
theorem dX11_count_203 : decode cX11_count 203 = .ok (.aload_n 0, 1) := by decide +kernel
theorem dX11_count_204 : decode cX11_count 204 = .ok (.getfield 51, 3) := by decide +kernel
theorem dX11_count_207 : decode cX11_count 207 = .ok (.iconst 2, 1) := by decide +kernel
theorem dX11_count_208 : decode cX11_count 208 = .ok (.aload_n 0, 1) := by decide +kernel
theorem dX11_count_209 : decode cX11_count 209 = .ok (.getfield 42, 3) := by decide +kernel
theorem dX11_count_212 : decode cX11_count 212 = .ok (.invokevirtual 252, 3) := by decide +kernel
theorem dX11_count_215 : decode cX11_count 215 = .ok (.ireturn, 1) := by decide +kernel
theorem dX11_count_216 : decode cX11_count 216 = .ok (.aload_n 0, 1) := by decide +kernel
theorem dX11_count_217 : decode cX11_count 217 = .ok (.getfield 60, 3) := by decide +kernel
theorem dX11_count_220 : decode cX11_count 220 = .ok (.getfield 169, 3) := by decide +kernel
theorem dX11_count_223 : decode cX11_count 223 = .ok (.ireturn, 1) := by decide +kernel
theorem dX11_count_224 : decode cX11_count 224 = .ok (.aload_n 0, 1) := by decide +kernel
theorem dX11_count_225 : decode cX11_count 225 = .ok (.getfield 10, 3) := by decide +kernel
theorem dX11_count_228 : decode cX11_count 228 = .ok (.getfield 72, 3) := by decide +kernel
theorem dX11_count_231 : decode cX11_count 231 = .ok (.ireturn, 1) := by decide +kernel
theorem dX11_count_232 : decode cX11_count 232 = .ok (.bipush (-3), 2) := by decide +kernel
theorem dX11_count_234 : decode cX11_count 234 = .ok (.ireturn, 1) := by decide +kernel
theorem dX11_carryOut_0 : decode cX11_carryOut 0 = .ok (.aload_n 1, 1) := by decide +kernel
theorem dX11_carryOut_1 : decode cX11_carryOut 1 = .ok (.getfield 255, 3) := by decide +kernel
theorem dX11_carryOut_4 : decode cX11_carryOut 4 = .ok (.tableswitch 66 0 2 #[28, 38, 52], 28) := by decide +kernel
theorem dX11_carryOut_32 : decode cX11_carryOut 32 = .ok (.aload_n 0, 1) := by decide +kernel
theorem dX11_carryOut_33 : decode cX11_carryOut 33 = .ok (.getfield 28, 3) := by decide +kernel
theorem dX11_carryOut_36 : decode cX11_carryOut 36 = .ok (.invokevirtual 260, 3) := by decide +kernel
theorem dX11_carryOut_39 : decode cX11_carryOut 39 = .ok (.goto 43, 3) := by decide +kernel
theorem dX11_carryOut_42 : decode cX11_carryOut 42 = .ok (.aload_n 0, 1) := by decide +kernel
theorem dX11_carryOut_43 : decode cX11_carryOut 43 = .ok (.getfield 28, 3) := by decide +kernel
theorem dX11_carryOut_46 : decode cX11_carryOut 46 = .ok (.aload_n 1, 1) := by decide +kernel
theorem dX11_carryOut_47 : decode cX11_carryOut 47 = .ok (.getfield 263, 3) := by decide +kernel
theorem dX11_carryOut_50 : decode cX11_carryOut 50 = .ok (.putfield 127, 3) := by decide +kernel
theorem dX11_carryOut_53 : decode cX11_carryOut 53 = .ok (.goto 29, 3) := by decide +kernel
theorem dX11_carryOut_56 : decode cX11_carryOut 56 = .ok (.aload_n 0, 1) := by decide +kernel
theorem dX11_carryOut_57 : decode cX11_carryOut 57 = .ok (.getfield 28, 3) := by decide +kernel
theorem dX11_carryOut_60 : decode cX11_carryOut 60 = .ok (.aload_n 1, 1) := by decide +kernel
theorem dX11_carryOut_61 : decode cX11_carryOut 61 = .ok (.getfield 263, 3) := by decide +kernel
theorem dX11_carryOut_64 : decode cX11_carryOut 64 = .ok (.putfield 130, 3) := by decide +kernel
theorem dX11_carryOut_67 : decode cX11_carryOut 67 = .ok (.goto 15, 3) := by decide +kernel
theorem dX11_carryOut_70 : decode cX11_carryOut 70 = .ok (.aload_n 0, 1) := by decide +kernel
theorem dX11_carryOut_71 : decode cX11_carryOut 71 = .ok (.getfield 28, 3) := by decide +kernel
theorem dX11_carryOut_74 : decode cX11_carryOut 74 = .ok (.aload_n 0, 1) := by decide +kernel
theorem dX11_carryOut_75 : decode cX11_carryOut 75 = .ok (.aload_n 1, 1) := by decide +kernel
theorem dX11_carryOut_76 : decode cX11_carryOut 76 = .ok (.invokevirtual 265, 3) := by decide +kernel
theorem dX11_carryOut_79 : decode cX11_carryOut 79 = .ok (.invokevirtual 269, 3) := by decide +kernel
theorem dX11_carryOut_82 : decode cX11_carryOut 82 = .ok (.return_, 1) := by decide +kernel
theorem dX11_partOf_0 : decode cX11_partOf 0 = .ok (.aload_n 0, 1) := by decide +kernel
theorem dX11_partOf_1 : decode cX11_partOf 1 = .ok (.getfield 10, 3) := by decide +kernel
theorem dX11_partOf_4 : decode cX11_partOf 4 = .ok (.aload_n 1, 1) := by decide +kernel
theorem dX11_partOf_5 : decode cX11_partOf 5 = .ok (.getfield 273, 3) := by decide +kernel
theorem dX11_partOf_8 : decode cX11_partOf 8 = .ok (.aload_n 1, 1) := by decide +kernel
theorem dX11_partOf_9 : decode cX11_partOf 9 = .ok (.getfield 276, 3) := by decide +kernel
theorem dX11_partOf_12 : decode cX11_partOf 12 = .ok (.invokevirtual 279, 3) := by decide +kernel
theorem dX11_partOf_15 : decode cX11_partOf 15 = .ok (.astore_n 2, 1) := by decide +kernel
theorem dX11_partOf_16 : decode cX11_partOf 16 = .ok (.new 105, 3) := by decide +kernel
theorem dX11_partOf_19 : decode cX11_partOf 19 = .ok (.dup, 1) := by decide +kernel
theorem dX11_partOf_20 : decode cX11_partOf 20 = .ok (.aload_n 2, 1) := by decide +kernel
theorem dX11_partOf_21 : decode cX11_partOf 21 = .ok (.aload_n 1, 1) := by decide +kernel
theorem dX11_partOf_22 : decode cX11_partOf 22 = .ok (.getfield 263, 3) := by decide +kernel
theorem dX11_partOf_25 : decode cX11_partOf 25 = .ok (.aload_n 1, 1) := by decide +kernel
theorem dX11_partOf_26 : decode cX11_partOf 26 = .ok (.getfield 283, 3) := by decide +kernel
theorem dX11_partOf_29 : decode cX11_partOf 29 = .ok (.invokespecial 133, 3) := by decide +kernel
theorem dX11_partOf_32 : decode cX11_partOf 32 = .ok (.areturn, 1) := by decide +kernel
theorem dX11_within_0 : decode cX11_within 0 = .ok (.iload_n 0, 1) := by decide +kernel
theorem dX11_within_1 : decode cX11_within 1 = .ok (.iload_n 1, 1) := by decide +kernel
theorem dX11_within_2 : decode cX11_within 2 = .ok (.if_icmp .lt 12, 3) := by decide +kernel
theorem dX11_within_5 : decode cX11_within 5 = .ok (.iload_n 0, 1) := by decide +kernel
theorem dX11_within_6 : decode cX11_within 6 = .ok (.iload_n 2, 1) := by decide +kernel
theorem dX11_within_7 : decode cX11_within 7 = .ok (.if_icmp .gt 7, 3) := by decide +kernel
theorem dX11_within_10 : decode cX11_within 10 = .ok (.iconst 1, 1) := by decide +kernel
theorem dX11_within_11 : decode cX11_within 11 = .ok (.goto 4, 3) := by decide +kernel
theorem dX11_within_14 : decode cX11_within 14 = .ok (.iconst 0, 1) := by decide +kernel
theorem dX11_within_15 : decode cX11_within 15 = .ok (.ireturn, 1) := by decide +kernel
theorem dX11_stripesFor_0 : decode cX11_stripesFor 0 = .ok (.iload_n 1, 1) := by decide +kernel
theorem dX11_stripesFor_1 : decode cX11_stripesFor 1 = .ok (.iconst 1, 1) := by decide +kernel
theorem dX11_stripesFor_2 : decode cX11_stripesFor 2 = .ok (.if_icmp .ge 7, 3) := by decide +kernel
theorem dX11_stripesFor_5 : decode cX11_stripesFor 5 = .ok (.iconst 0, 1) := by decide +kernel
theorem dX11_stripesFor_6 : decode cX11_stripesFor 6 = .ok (.goto 10, 3) := by decide +kernel
theorem dX11_stripesFor_9 : decode cX11_stripesFor 9 = .ok (.iload_n 0, 1) := by decide +kernel
theorem dX11_stripesFor_10 : decode cX11_stripesFor 10 = .ok (.iload_n 1, 1) := by decide +kernel
theorem dX11_stripesFor_11 : decode cX11_stripesFor 11 = .ok (.iadd, 1) := by decide +kernel
theorem dX11_stripesFor_12 : decode cX11_stripesFor 12 = .ok (.iconst 1, 1) := by decide +kernel
theorem dX11_stripesFor_13 : decode cX11_stripesFor 13 = .ok (.isub, 1) := by decide +kernel
theorem dX11_stripesFor_14 : decode cX11_stripesFor 14 = .ok (.iload_n 1, 1) := by decide +kernel
theorem dX11_stripesFor_15 : decode cX11_stripesFor 15 = .ok (.idiv, 1) := by decide +kernel
theorem dX11_stripesFor_16 : decode cX11_stripesFor 16 = .ok (.ireturn, 1) := by decide +kernel
theorem dX11_valueAt_0 : decode cX11_valueAt 0 = .ok (.iconst 0, 1) := by decide +kernel
theorem dX11_valueAt_1 : decode cX11_valueAt 1 = .ok (.istore 4, 2) := by decide +kernel
theorem dX11_valueAt_3 : decode cX11_valueAt 3 = .ok (.iload_n 2, 1) := by decide +kernel
theorem dX11_valueAt_4 : decode cX11_valueAt 4 = .ok (.iconst 1, 1) := by decide +kernel
theorem dX11_valueAt_5 : decode cX11_valueAt 5 = .ok (.isub, 1) := by decide +kernel
theorem dX11_valueAt_6 : decode cX11_valueAt 6 = .ok (.istore 5, 2) := by decide +kernel
theorem dX11_valueAt_8 : decode cX11_valueAt 8 = .ok (.iload 5, 2) := by decide +kernel
theorem dX11_valueAt_10 : decode cX11_valueAt 10 = .ok (.ifCond .lt 50, 3) := by decide +kernel
theorem dX11_valueAt_13 : decode cX11_valueAt 13 = .ok (.iload_n 1, 1) := by decide +kernel
theorem dX11_valueAt_14 : decode cX11_valueAt 14 = .ok (.iload 5, 2) := by decide +kernel
theorem dX11_valueAt_16 : decode cX11_valueAt 16 = .ok (.iadd, 1) := by decide +kernel
theorem dX11_valueAt_17 : decode cX11_valueAt 17 = .ok (.iconst 0, 1) := by decide +kernel
theorem dX11_valueAt_18 : decode cX11_valueAt 18 = .ok (.aload_n 0, 1) := by decide +kernel
theorem dX11_valueAt_19 : decode cX11_valueAt 19 = .ok (.arraylength, 1) := by decide +kernel
theorem dX11_valueAt_20 : decode cX11_valueAt 20 = .ok (.iconst 1, 1) := by decide +kernel
theorem dX11_valueAt_21 : decode cX11_valueAt 21 = .ok (.isub, 1) := by decide +kernel
theorem dX11_valueAt_22 : decode cX11_valueAt 22 = .ok (.invokestatic 64, 3) := by decide +kernel
theorem dX11_valueAt_25 : decode cX11_valueAt 25 = .ok (.ifCond .eq 12, 3) := by decide +kernel
theorem dX11_valueAt_28 : decode cX11_valueAt 28 = .ok (.aload_n 0, 1) := by decide +kernel
theorem dX11_valueAt_29 : decode cX11_valueAt 29 = .ok (.iload_n 1, 1) := by decide +kernel
theorem dX11_valueAt_30 : decode cX11_valueAt 30 = .ok (.iload 5, 2) := by decide +kernel
theorem dX11_valueAt_32 : decode cX11_valueAt 32 = .ok (.iadd, 1) := by decide +kernel
theorem dX11_valueAt_33 : decode cX11_valueAt 33 = .ok (.iaload, 1) := by decide +kernel
theorem dX11_valueAt_34 : decode cX11_valueAt 34 = .ok (.goto 4, 3) := by decide +kernel
theorem dX11_valueAt_37 : decode cX11_valueAt 37 = .ok (.iconst 0, 1) := by decide +kernel
theorem dX11_valueAt_38 : decode cX11_valueAt 38 = .ok (.istore 6, 2) := by decide +kernel
theorem dX11_valueAt_40 : decode cX11_valueAt 40 = .ok (.iload 4, 2) := by decide +kernel
theorem dX11_valueAt_42 : decode cX11_valueAt 42 = .ok (.iload_n 3, 1) := by decide +kernel
theorem dX11_valueAt_43 : decode cX11_valueAt 43 = .ok (.imul, 1) := by decide +kernel
theorem dX11_valueAt_44 : decode cX11_valueAt 44 = .ok (.iload 6, 2) := by decide +kernel
theorem dX11_valueAt_46 : decode cX11_valueAt 46 = .ok (.iadd, 1) := by decide +kernel
theorem dX11_valueAt_47 : decode cX11_valueAt 47 = .ok (.bipush 29, 2) := by decide +kernel
theorem dX11_valueAt_49 : decode cX11_valueAt 49 = .ok (.invokestatic 286, 3) := by decide +kernel
theorem dX11_valueAt_52 : decode cX11_valueAt 52 = .ok (.istore 4, 2) := by decide +kernel
theorem dX11_valueAt_54 : decode cX11_valueAt 54 = .ok (.iinc 5 (-1), 3) := by decide +kernel
theorem dX11_valueAt_57 : decode cX11_valueAt 57 = .ok (.goto (-49), 3) := by decide +kernel
theorem dX11_valueAt_60 : decode cX11_valueAt 60 = .ok (.iload 4, 2) := by decide +kernel
theorem dX11_valueAt_62 : decode cX11_valueAt 62 = .ok (.ireturn, 1) := by decide +kernel
theorem dX12_init_0 : decode cX12_init 0 = .ok (.aload_n 0, 1) := by decide +kernel
theorem dX12_init_1 : decode cX12_init 1 = .ok (.invokespecial 1, 3) := by decide +kernel
theorem dX12_init_4 : decode cX12_init 4 = .ok (.aload_n 0, 1) := by decide +kernel
theorem dX12_init_5 : decode cX12_init 5 = .ok (.sipush 6930, 3) := by decide +kernel
theorem dX12_init_8 : decode cX12_init 8 = .ok (.newarray .int, 2) := by decide +kernel
theorem dX12_init_10 : decode cX12_init 10 = .ok (.putfield 7, 3) := by decide +kernel
theorem dX12_init_13 : decode cX12_init 13 = .ok (.aload_n 0, 1) := by decide +kernel
theorem dX12_init_14 : decode cX12_init 14 = .ok (.sipush 200, 3) := by decide +kernel
theorem dX12_init_17 : decode cX12_init 17 = .ok (.newarray .int, 2) := by decide +kernel
theorem dX12_init_19 : decode cX12_init 19 = .ok (.putfield 13, 3) := by decide +kernel
theorem dX12_init_22 : decode cX12_init 22 = .ok (.aload_n 0, 1) := by decide +kernel
theorem dX12_init_23 : decode cX12_init 23 = .ok (.iconst 2, 1) := by decide +kernel
theorem dX12_init_24 : decode cX12_init 24 = .ok (.newarray .int, 2) := by decide +kernel
theorem dX12_init_26 : decode cX12_init 26 = .ok (.putfield 16, 3) := by decide +kernel
theorem dX12_init_29 : decode cX12_init 29 = .ok (.aload_n 0, 1) := by decide +kernel
theorem dX12_init_30 : decode cX12_init 30 = .ok (.bipush 28, 2) := by decide +kernel
theorem dX12_init_32 : decode cX12_init 32 = .ok (.newarray .int, 2) := by decide +kernel
theorem dX12_init_34 : decode cX12_init 34 = .ok (.dup, 1) := by decide +kernel
theorem dX12_init_35 : decode cX12_init 35 = .ok (.iconst 0, 1) := by decide +kernel
theorem dX12_init_36 : decode cX12_init 36 = .ok (.bipush 97, 2) := by decide +kernel
theorem dX12_init_38 : decode cX12_init 38 = .ok (.iastore, 1) := by decide +kernel
theorem dX12_init_39 : decode cX12_init 39 = .ok (.dup, 1) := by decide +kernel
theorem dX12_init_40 : decode cX12_init 40 = .ok (.iconst 1, 1) := by decide +kernel
theorem dX12_init_41 : decode cX12_init 41 = .ok (.bipush 108, 2) := by decide +kernel
theorem dX12_init_43 : decode cX12_init 43 = .ok (.iastore, 1) := by decide +kernel
theorem dX12_init_44 : decode cX12_init 44 = .ok (.dup, 1) := by decide +kernel
theorem dX12_init_45 : decode cX12_init 45 = .ok (.iconst 2, 1) := by decide +kernel
theorem dX12_init_46 : decode cX12_init 46 = .ok (.bipush 108, 2) := by decide +kernel
theorem dX12_init_48 : decode cX12_init 48 = .ok (.iastore, 1) := by decide +kernel
theorem dX12_init_49 : decode cX12_init 49 = .ok (.dup, 1) := by decide +kernel
theorem dX12_init_50 : decode cX12_init 50 = .ok (.iconst 3, 1) := by decide +kernel
theorem dX12_init_51 : decode cX12_init 51 = .ok (.iconst 0, 1) := by decide +kernel
theorem dX12_init_52 : decode cX12_init 52 = .ok (.iastore, 1) := by decide +kernel
theorem dX12_init_53 : decode cX12_init 53 = .ok (.dup, 1) := by decide +kernel
theorem dX12_init_54 : decode cX12_init 54 = .ok (.iconst 4, 1) := by decide +kernel
theorem dX12_init_55 : decode cX12_init 55 = .ok (.iconst 0, 1) := by decide +kernel
theorem dX12_init_56 : decode cX12_init 56 = .ok (.iastore, 1) := by decide +kernel
theorem dX12_init_57 : decode cX12_init 57 = .ok (.dup, 1) := by decide +kernel
theorem dX12_init_58 : decode cX12_init 58 = .ok (.iconst 5, 1) := by decide +kernel
theorem dX12_init_59 : decode cX12_init 59 = .ok (.iconst 0, 1) := by decide +kernel
theorem dX12_init_60 : decode cX12_init 60 = .ok (.iastore, 1) := by decide +kernel
theorem dX12_init_61 : decode cX12_init 61 = .ok (.dup, 1) := by decide +kernel
theorem dX12_init_62 : decode cX12_init 62 = .ok (.bipush 6, 2) := by decide +kernel
theorem dX12_init_64 : decode cX12_init 64 = .ok (.iconst 0, 1) := by decide +kernel
theorem dX12_init_65 : decode cX12_init 65 = .ok (.iastore, 1) := by decide +kernel
theorem dX12_init_66 : decode cX12_init 66 = .ok (.dup, 1) := by decide +kernel
theorem dX12_init_67 : decode cX12_init 67 = .ok (.bipush 7, 2) := by decide +kernel
theorem dX12_init_69 : decode cX12_init 69 = .ok (.bipush 112, 2) := by decide +kernel
theorem dX12_init_71 : decode cX12_init 71 = .ok (.iastore, 1) := by decide +kernel
theorem dX12_init_72 : decode cX12_init 72 = .ok (.dup, 1) := by decide +kernel
theorem dX12_init_73 : decode cX12_init 73 = .ok (.bipush 8, 2) := by decide +kernel
theorem dX12_init_75 : decode cX12_init 75 = .ok (.bipush 97, 2) := by decide +kernel
theorem dX12_init_77 : decode cX12_init 77 = .ok (.iastore, 1) := by decide +kernel
theorem dX12_init_78 : decode cX12_init 78 = .ok (.dup, 1) := by decide +kernel
theorem dX12_init_79 : decode cX12_init 79 = .ok (.bipush 9, 2) := by decide +kernel
theorem dX12_init_81 : decode cX12_init 81 = .ok (.bipush 99, 2) := by decide +kernel
theorem dX12_init_83 : decode cX12_init 83 = .ok (.iastore, 1) := by decide +kernel
theorem dX12_init_84 : decode cX12_init 84 = .ok (.dup, 1) := by decide +kernel
theorem dX12_init_85 : decode cX12_init 85 = .ok (.bipush 10, 2) := by decide +kernel
theorem dX12_init_87 : decode cX12_init 87 = .ok (.bipush 107, 2) := by decide +kernel
theorem dX12_init_89 : decode cX12_init 89 = .ok (.iastore, 1) := by decide +kernel
theorem dX12_init_90 : decode cX12_init 90 = .ok (.dup, 1) := by decide +kernel
theorem dX12_init_91 : decode cX12_init 91 = .ok (.bipush 11, 2) := by decide +kernel
theorem dX12_init_93 : decode cX12_init 93 = .ok (.bipush 101, 2) := by decide +kernel
theorem dX12_init_95 : decode cX12_init 95 = .ok (.iastore, 1) := by decide +kernel
theorem dX12_init_96 : decode cX12_init 96 = .ok (.dup, 1) := by decide +kernel
theorem dX12_init_97 : decode cX12_init 97 = .ok (.bipush 12, 2) := by decide +kernel
theorem dX12_init_99 : decode cX12_init 99 = .ok (.bipush 116, 2) := by decide +kernel
theorem dX12_init_101 : decode cX12_init 101 = .ok (.iastore, 1) := by decide +kernel
theorem dX12_init_102 : decode cX12_init 102 = .ok (.dup, 1) := by decide +kernel
theorem dX12_init_103 : decode cX12_init 103 = .ok (.bipush 13, 2) := by decide +kernel
theorem dX12_init_105 : decode cX12_init 105 = .ok (.bipush 115, 2) := by decide +kernel
theorem dX12_init_107 : decode cX12_init 107 = .ok (.iastore, 1) := by decide +kernel
theorem dX12_init_108 : decode cX12_init 108 = .ok (.dup, 1) := by decide +kernel
theorem dX12_init_109 : decode cX12_init 109 = .ok (.bipush 14, 2) := by decide +kernel
theorem dX12_init_111 : decode cX12_init 111 = .ok (.bipush 114, 2) := by decide +kernel
theorem dX12_init_113 : decode cX12_init 113 = .ok (.iastore, 1) := by decide +kernel
theorem dX12_init_114 : decode cX12_init 114 = .ok (.dup, 1) := by decide +kernel
theorem dX12_init_115 : decode cX12_init 115 = .ok (.bipush 15, 2) := by decide +kernel
theorem dX12_init_117 : decode cX12_init 117 = .ok (.bipush 111, 2) := by decide +kernel
theorem dX12_init_119 : decode cX12_init 119 = .ok (.iastore, 1) := by decide +kernel
theorem dX12_init_120 : decode cX12_init 120 = .ok (.dup, 1) := by decide +kernel
theorem dX12_init_121 : decode cX12_init 121 = .ok (.bipush 16, 2) := by decide +kernel
theorem dX12_init_123 : decode cX12_init 123 = .ok (.bipush 111, 2) := by decide +kernel
theorem dX12_init_125 : decode cX12_init 125 = .ok (.iastore, 1) := by decide +kernel
theorem dX12_init_126 : decode cX12_init 126 = .ok (.dup, 1) := by decide +kernel
theorem dX12_init_127 : decode cX12_init 127 = .ok (.bipush 17, 2) := by decide +kernel
theorem dX12_init_129 : decode cX12_init 129 = .ok (.bipush 109, 2) := by decide +kernel
theorem dX12_init_131 : decode cX12_init 131 = .ok (.iastore, 1) := by decide +kernel
theorem dX12_init_132 : decode cX12_init 132 = .ok (.dup, 1) := by decide +kernel
theorem dX12_init_133 : decode cX12_init 133 = .ok (.bipush 18, 2) := by decide +kernel
theorem dX12_init_135 : decode cX12_init 135 = .ok (.iconst 0, 1) := by decide +kernel
theorem dX12_init_136 : decode cX12_init 136 = .ok (.iastore, 1) := by decide +kernel
theorem dX12_init_137 : decode cX12_init 137 = .ok (.dup, 1) := by decide +kernel
theorem dX12_init_138 : decode cX12_init 138 = .ok (.bipush 19, 2) := by decide +kernel
theorem dX12_init_140 : decode cX12_init 140 = .ok (.iconst 0, 1) := by decide +kernel
theorem dX12_init_141 : decode cX12_init 141 = .ok (.iastore, 1) := by decide +kernel
theorem dX12_init_142 : decode cX12_init 142 = .ok (.dup, 1) := by decide +kernel
theorem dX12_init_143 : decode cX12_init 143 = .ok (.bipush 20, 2) := by decide +kernel
theorem dX12_init_145 : decode cX12_init 145 = .ok (.iconst 0, 1) := by decide +kernel
theorem dX12_init_146 : decode cX12_init 146 = .ok (.iastore, 1) := by decide +kernel
theorem dX12_init_147 : decode cX12_init 147 = .ok (.dup, 1) := by decide +kernel
theorem dX12_init_148 : decode cX12_init 148 = .ok (.bipush 21, 2) := by decide +kernel
theorem dX12_init_150 : decode cX12_init 150 = .ok (.bipush 112, 2) := by decide +kernel
theorem dX12_init_152 : decode cX12_init 152 = .ok (.iastore, 1) := by decide +kernel
theorem dX12_init_153 : decode cX12_init 153 = .ok (.dup, 1) := by decide +kernel
theorem dX12_init_154 : decode cX12_init 154 = .ok (.bipush 22, 2) := by decide +kernel
theorem dX12_init_156 : decode cX12_init 156 = .ok (.bipush 97, 2) := by decide +kernel
theorem dX12_init_158 : decode cX12_init 158 = .ok (.iastore, 1) := by decide +kernel
theorem dX12_init_159 : decode cX12_init 159 = .ok (.dup, 1) := by decide +kernel
theorem dX12_init_160 : decode cX12_init 160 = .ok (.bipush 23, 2) := by decide +kernel
theorem dX12_init_162 : decode cX12_init 162 = .ok (.bipush 114, 2) := by decide +kernel
theorem dX12_init_164 : decode cX12_init 164 = .ok (.iastore, 1) := by decide +kernel
theorem dX12_init_165 : decode cX12_init 165 = .ok (.dup, 1) := by decide +kernel
theorem dX12_init_166 : decode cX12_init 166 = .ok (.bipush 24, 2) := by decide +kernel
theorem dX12_init_168 : decode cX12_init 168 = .ok (.bipush 116, 2) := by decide +kernel
theorem dX12_init_170 : decode cX12_init 170 = .ok (.iastore, 1) := by decide +kernel
theorem dX12_init_171 : decode cX12_init 171 = .ok (.dup, 1) := by decide +kernel
theorem dX12_init_172 : decode cX12_init 172 = .ok (.bipush 25, 2) := by decide +kernel
theorem dX12_init_174 : decode cX12_init 174 = .ok (.iconst 0, 1) := by decide +kernel
theorem dX12_init_175 : decode cX12_init 175 = .ok (.iastore, 1) := by decide +kernel
theorem dX12_init_176 : decode cX12_init 176 = .ok (.dup, 1) := by decide +kernel
theorem dX12_init_177 : decode cX12_init 177 = .ok (.bipush 26, 2) := by decide +kernel
theorem dX12_init_179 : decode cX12_init 179 = .ok (.iconst 0, 1) := by decide +kernel
theorem dX12_init_180 : decode cX12_init 180 = .ok (.iastore, 1) := by decide +kernel
theorem dX12_init_181 : decode cX12_init 181 = .ok (.dup, 1) := by decide +kernel
theorem dX12_init_182 : decode cX12_init 182 = .ok (.bipush 27, 2) := by decide +kernel
theorem dX12_init_184 : decode cX12_init 184 = .ok (.iconst 0, 1) := by decide +kernel
theorem dX12_init_185 : decode cX12_init 185 = .ok (.iastore, 1) := by decide +kernel
theorem dX12_init_186 : decode cX12_init 186 = .ok (.putfield 19, 3) := by decide +kernel
theorem dX12_init_189 : decode cX12_init 189 = .ok (.aload_n 0, 1) := by decide +kernel
theorem dX12_init_190 : decode cX12_init 190 = .ok (.bipush 8, 2) := by decide +kernel
theorem dX12_init_192 : decode cX12_init 192 = .ok (.newarray .int, 2) := by decide +kernel
theorem dX12_init_194 : decode cX12_init 194 = .ok (.putfield 22, 3) := by decide +kernel
theorem dX12_init_197 : decode cX12_init 197 = .ok (.aload_n 0, 1) := by decide +kernel
theorem dX12_init_198 : decode cX12_init 198 = .ok (.bipush 9, 2) := by decide +kernel
theorem dX12_init_200 : decode cX12_init 200 = .ok (.newarray .int, 2) := by decide +kernel
theorem dX12_init_202 : decode cX12_init 202 = .ok (.putfield 25, 3) := by decide +kernel
theorem dX12_init_205 : decode cX12_init 205 = .ok (.aload_n 0, 1) := by decide +kernel
theorem dX12_init_206 : decode cX12_init 206 = .ok (.sipush 287, 3) := by decide +kernel
theorem dX12_init_209 : decode cX12_init 209 = .ok (.newarray .int, 2) := by decide +kernel
theorem dX12_init_211 : decode cX12_init 211 = .ok (.putfield 28, 3) := by decide +kernel
theorem dX12_init_214 : decode cX12_init 214 = .ok (.aload_n 0, 1) := by decide +kernel
theorem dX12_init_215 : decode cX12_init 215 = .ok (.getfield 7, 3) := by decide +kernel
theorem dX12_init_218 : decode cX12_init 218 = .ok (.iconst 0, 1) := by decide +kernel
theorem dX12_init_219 : decode cX12_init 219 = .ok (.iconst 4, 1) := by decide +kernel
theorem dX12_init_220 : decode cX12_init 220 = .ok (.iastore, 1) := by decide +kernel
theorem dX12_init_221 : decode cX12_init 221 = .ok (.aload_n 0, 1) := by decide +kernel
theorem dX12_init_222 : decode cX12_init 222 = .ok (.getfield 7, 3) := by decide +kernel
theorem dX12_init_225 : decode cX12_init 225 = .ok (.iconst 1, 1) := by decide +kernel
