theorem dX12_at__10 : decode cX12_at_ 10 = .ok (.ifCond .lt 21, 3) := by decide +kernel
theorem dX12_at__13 : decode cX12_at_ 13 = .ok (.iload 4, 2) := by decide +kernel
theorem dX12_at__15 : decode cX12_at_ 15 = .ok (.iload_n 3, 1) := by decide +kernel
theorem dX12_at__16 : decode cX12_at_ 16 = .ok (.aload_n 1, 1) := by decide +kernel
theorem dX12_at__17 : decode cX12_at_ 17 = .ok (.iload 5, 2) := by decide +kernel
theorem dX12_at__19 : decode cX12_at_ 19 = .ok (.iaload, 1) := by decide +kernel
theorem dX12_at__20 : decode cX12_at_ 20 = .ok (.invokestatic 132, 3) := by decide +kernel
theorem dX12_at__23 : decode cX12_at_ 23 = .ok (.istore 4, 2) := by decide +kernel
theorem dX12_at__25 : decode cX12_at_ 25 = .ok (.iinc 5 (-1), 3) := by decide +kernel
theorem dX12_at__28 : decode cX12_at_ 28 = .ok (.goto (-20), 3) := by decide +kernel
theorem dX12_at__31 : decode cX12_at_ 31 = .ok (.iload 4, 2) := by decide +kernel
theorem dX12_at__33 : decode cX12_at_ 33 = .ok (.ireturn, 1) := by decide +kernel
theorem dX12_lays_0 : decode cX12_lays 0 = .ok (.iconst 0, 1) := by decide +kernel
theorem dX12_lays_1 : decode cX12_lays 1 = .ok (.istore_n 3, 1) := by decide +kernel
theorem dX12_lays_2 : decode cX12_lays 2 = .ok (.iload_n 3, 1) := by decide +kernel
theorem dX12_lays_3 : decode cX12_lays 3 = .ok (.bipush 9, 2) := by decide +kernel
theorem dX12_lays_5 : decode cX12_lays 5 = .ok (.if_icmp .ge 34, 3) := by decide +kernel
theorem dX12_lays_8 : decode cX12_lays 8 = .ok (.aload_n 0, 1) := by decide +kernel
theorem dX12_lays_9 : decode cX12_lays 9 = .ok (.getfield 25, 3) := by decide +kernel
theorem dX12_lays_12 : decode cX12_lays 12 = .ok (.iload_n 3, 1) := by decide +kernel
theorem dX12_lays_13 : decode cX12_lays 13 = .ok (.iload_n 3, 1) := by decide +kernel
theorem dX12_lays_14 : decode cX12_lays 14 = .ok (.ifCond .ne 7, 3) := by decide +kernel
theorem dX12_lays_17 : decode cX12_lays 17 = .ok (.iconst 1, 1) := by decide +kernel
theorem dX12_lays_18 : decode cX12_lays 18 = .ok (.goto 4, 3) := by decide +kernel
theorem dX12_lays_21 : decode cX12_lays 21 = .ok (.iconst 0, 1) := by decide +kernel
theorem dX12_lays_22 : decode cX12_lays 22 = .ok (.iastore, 1) := by decide +kernel
theorem dX12_lays_23 : decode cX12_lays 23 = .ok (.aload_n 0, 1) := by decide +kernel
theorem dX12_lays_24 : decode cX12_lays 24 = .ok (.getfield 22, 3) := by decide +kernel
theorem dX12_lays_27 : decode cX12_lays 27 = .ok (.iload_n 3, 1) := by decide +kernel
theorem dX12_lays_28 : decode cX12_lays 28 = .ok (.bipush 8, 2) := by decide +kernel
theorem dX12_lays_30 : decode cX12_lays 30 = .ok (.irem, 1) := by decide +kernel
theorem dX12_lays_31 : decode cX12_lays 31 = .ok (.iconst 0, 1) := by decide +kernel
theorem dX12_lays_32 : decode cX12_lays 32 = .ok (.iastore, 1) := by decide +kernel
theorem dX12_lays_33 : decode cX12_lays 33 = .ok (.iinc 3 1, 3) := by decide +kernel
theorem dX12_lays_36 : decode cX12_lays 36 = .ok (.goto (-34), 3) := by decide +kernel
theorem dX12_lays_39 : decode cX12_lays 39 = .ok (.iconst 0, 1) := by decide +kernel
theorem dX12_lays_40 : decode cX12_lays 40 = .ok (.istore_n 3, 1) := by decide +kernel
theorem dX12_lays_41 : decode cX12_lays 41 = .ok (.iload_n 3, 1) := by decide +kernel
theorem dX12_lays_42 : decode cX12_lays 42 = .ok (.bipush 8, 2) := by decide +kernel
theorem dX12_lays_44 : decode cX12_lays 44 = .ok (.if_icmp .ge 183, 3) := by decide +kernel
theorem dX12_lays_47 : decode cX12_lays 47 = .ok (.iload_n 2, 1) := by decide +kernel
theorem dX12_lays_48 : decode cX12_lays 48 = .ok (.iload_n 3, 1) := by decide +kernel
theorem dX12_lays_49 : decode cX12_lays 49 = .ok (.ishr, 1) := by decide +kernel
theorem dX12_lays_50 : decode cX12_lays 50 = .ok (.iconst 1, 1) := by decide +kernel
theorem dX12_lays_51 : decode cX12_lays 51 = .ok (.iand, 1) := by decide +kernel
theorem dX12_lays_52 : decode cX12_lays 52 = .ok (.iconst 1, 1) := by decide +kernel
theorem dX12_lays_53 : decode cX12_lays 53 = .ok (.if_icmp .ne 168, 3) := by decide +kernel
theorem dX12_lays_56 : decode cX12_lays 56 = .ok (.iload_n 3, 1) := by decide +kernel
theorem dX12_lays_57 : decode cX12_lays 57 = .ok (.iconst 1, 1) := by decide +kernel
theorem dX12_lays_58 : decode cX12_lays 58 = .ok (.iadd, 1) := by decide +kernel
theorem dX12_lays_59 : decode cX12_lays 59 = .ok (.istore 4, 2) := by decide +kernel
theorem dX12_lays_61 : decode cX12_lays 61 = .ok (.aload_n 0, 1) := by decide +kernel
theorem dX12_lays_62 : decode cX12_lays 62 = .ok (.getfield 7, 3) := by decide +kernel
theorem dX12_lays_65 : decode cX12_lays 65 = .ok (.sipush 450, 3) := by decide +kernel
theorem dX12_lays_68 : decode cX12_lays 68 = .ok (.bipush 40, 2) := by decide +kernel
theorem dX12_lays_70 : decode cX12_lays 70 = .ok (.iload_n 3, 1) := by decide +kernel
theorem dX12_lays_71 : decode cX12_lays 71 = .ok (.imul, 1) := by decide +kernel
theorem dX12_lays_72 : decode cX12_lays 72 = .ok (.iadd, 1) := by decide +kernel
theorem dX12_lays_73 : decode cX12_lays 73 = .ok (.iload_n 1, 1) := by decide +kernel
theorem dX12_lays_74 : decode cX12_lays 74 = .ok (.iadd, 1) := by decide +kernel
theorem dX12_lays_75 : decode cX12_lays 75 = .ok (.iaload, 1) := by decide +kernel
theorem dX12_lays_76 : decode cX12_lays 76 = .ok (.bipush 29, 2) := by decide +kernel
theorem dX12_lays_78 : decode cX12_lays 78 = .ok (.iadd, 1) := by decide +kernel
theorem dX12_lays_79 : decode cX12_lays 79 = .ok (.aload_n 0, 1) := by decide +kernel
theorem dX12_lays_80 : decode cX12_lays 80 = .ok (.aload_n 0, 1) := by decide +kernel
theorem dX12_lays_81 : decode cX12_lays 81 = .ok (.getfield 22, 3) := by decide +kernel
theorem dX12_lays_84 : decode cX12_lays 84 = .ok (.bipush 8, 2) := by decide +kernel
theorem dX12_lays_86 : decode cX12_lays 86 = .ok (.iload 4, 2) := by decide +kernel
theorem dX12_lays_88 : decode cX12_lays 88 = .ok (.invokevirtual 154, 3) := by decide +kernel
theorem dX12_lays_91 : decode cX12_lays 91 = .ok (.isub, 1) := by decide +kernel
theorem dX12_lays_92 : decode cX12_lays 92 = .ok (.bipush 29, 2) := by decide +kernel
theorem dX12_lays_94 : decode cX12_lays 94 = .ok (.irem, 1) := by decide +kernel
theorem dX12_lays_95 : decode cX12_lays 95 = .ok (.istore 5, 2) := by decide +kernel
theorem dX12_lays_97 : decode cX12_lays 97 = .ok (.iload 5, 2) := by decide +kernel
theorem dX12_lays_99 : decode cX12_lays 99 = .ok (.aload_n 0, 1) := by decide +kernel
theorem dX12_lays_100 : decode cX12_lays 100 = .ok (.aload_n 0, 1) := by decide +kernel
theorem dX12_lays_101 : decode cX12_lays 101 = .ok (.getfield 25, 3) := by decide +kernel
theorem dX12_lays_104 : decode cX12_lays 104 = .ok (.bipush 9, 2) := by decide +kernel
theorem dX12_lays_106 : decode cX12_lays 106 = .ok (.iload 4, 2) := by decide +kernel
theorem dX12_lays_108 : decode cX12_lays 108 = .ok (.invokevirtual 154, 3) := by decide +kernel
theorem dX12_lays_111 : decode cX12_lays 111 = .ok (.invokestatic 157, 3) := by decide +kernel
theorem dX12_lays_114 : decode cX12_lays 114 = .ok (.imul, 1) := by decide +kernel
theorem dX12_lays_115 : decode cX12_lays 115 = .ok (.bipush 29, 2) := by decide +kernel
theorem dX12_lays_117 : decode cX12_lays 117 = .ok (.irem, 1) := by decide +kernel
theorem dX12_lays_118 : decode cX12_lays 118 = .ok (.istore 6, 2) := by decide +kernel
theorem dX12_lays_120 : decode cX12_lays 120 = .ok (.iconst 0, 1) := by decide +kernel
theorem dX12_lays_121 : decode cX12_lays 121 = .ok (.istore 7, 2) := by decide +kernel
theorem dX12_lays_123 : decode cX12_lays 123 = .ok (.iload 7, 2) := by decide +kernel
theorem dX12_lays_125 : decode cX12_lays 125 = .ok (.bipush 8, 2) := by decide +kernel
theorem dX12_lays_127 : decode cX12_lays 127 = .ok (.if_icmp .ge 37, 3) := by decide +kernel
theorem dX12_lays_130 : decode cX12_lays 130 = .ok (.aload_n 0, 1) := by decide +kernel
theorem dX12_lays_131 : decode cX12_lays 131 = .ok (.getfield 22, 3) := by decide +kernel
theorem dX12_lays_134 : decode cX12_lays 134 = .ok (.iload 7, 2) := by decide +kernel
theorem dX12_lays_136 : decode cX12_lays 136 = .ok (.aload_n 0, 1) := by decide +kernel
theorem dX12_lays_137 : decode cX12_lays 137 = .ok (.getfield 22, 3) := by decide +kernel
theorem dX12_lays_140 : decode cX12_lays 140 = .ok (.iload 7, 2) := by decide +kernel
theorem dX12_lays_142 : decode cX12_lays 142 = .ok (.iaload, 1) := by decide +kernel
theorem dX12_lays_143 : decode cX12_lays 143 = .ok (.iload 6, 2) := by decide +kernel
theorem dX12_lays_145 : decode cX12_lays 145 = .ok (.aload_n 0, 1) := by decide +kernel
theorem dX12_lays_146 : decode cX12_lays 146 = .ok (.getfield 25, 3) := by decide +kernel
theorem dX12_lays_149 : decode cX12_lays 149 = .ok (.iload 7, 2) := by decide +kernel
theorem dX12_lays_151 : decode cX12_lays 151 = .ok (.iaload, 1) := by decide +kernel
theorem dX12_lays_152 : decode cX12_lays 152 = .ok (.imul, 1) := by decide +kernel
theorem dX12_lays_153 : decode cX12_lays 153 = .ok (.iadd, 1) := by decide +kernel
theorem dX12_lays_154 : decode cX12_lays 154 = .ok (.bipush 29, 2) := by decide +kernel
theorem dX12_lays_156 : decode cX12_lays 156 = .ok (.irem, 1) := by decide +kernel
theorem dX12_lays_157 : decode cX12_lays 157 = .ok (.iastore, 1) := by decide +kernel
theorem dX12_lays_158 : decode cX12_lays 158 = .ok (.iinc 7 1, 3) := by decide +kernel
theorem dX12_lays_161 : decode cX12_lays 161 = .ok (.goto (-38), 3) := by decide +kernel
theorem dX12_lays_164 : decode cX12_lays 164 = .ok (.bipush 8, 2) := by decide +kernel
theorem dX12_lays_166 : decode cX12_lays 166 = .ok (.istore 7, 2) := by decide +kernel
theorem dX12_lays_168 : decode cX12_lays 168 = .ok (.iload 7, 2) := by decide +kernel
theorem dX12_lays_170 : decode cX12_lays 170 = .ok (.ifCond .lt 51, 3) := by decide +kernel
theorem dX12_lays_173 : decode cX12_lays 173 = .ok (.aload_n 0, 1) := by decide +kernel
theorem dX12_lays_174 : decode cX12_lays 174 = .ok (.getfield 25, 3) := by decide +kernel
theorem dX12_lays_177 : decode cX12_lays 177 = .ok (.iload 7, 2) := by decide +kernel
theorem dX12_lays_179 : decode cX12_lays 179 = .ok (.iload 7, 2) := by decide +kernel
theorem dX12_lays_181 : decode cX12_lays 181 = .ok (.ifCond .le 15, 3) := by decide +kernel
theorem dX12_lays_184 : decode cX12_lays 184 = .ok (.aload_n 0, 1) := by decide +kernel
theorem dX12_lays_185 : decode cX12_lays 185 = .ok (.getfield 25, 3) := by decide +kernel
theorem dX12_lays_188 : decode cX12_lays 188 = .ok (.iload 7, 2) := by decide +kernel
theorem dX12_lays_190 : decode cX12_lays 190 = .ok (.iconst 1, 1) := by decide +kernel
theorem dX12_lays_191 : decode cX12_lays 191 = .ok (.isub, 1) := by decide +kernel
theorem dX12_lays_192 : decode cX12_lays 192 = .ok (.iaload, 1) := by decide +kernel
theorem dX12_lays_193 : decode cX12_lays 193 = .ok (.goto 4, 3) := by decide +kernel
theorem dX12_lays_196 : decode cX12_lays 196 = .ok (.iconst 0, 1) := by decide +kernel
theorem dX12_lays_197 : decode cX12_lays 197 = .ok (.bipush 29, 2) := by decide +kernel
theorem dX12_lays_199 : decode cX12_lays 199 = .ok (.iload 4, 2) := by decide +kernel
theorem dX12_lays_201 : decode cX12_lays 201 = .ok (.isub, 1) := by decide +kernel
theorem dX12_lays_202 : decode cX12_lays 202 = .ok (.aload_n 0, 1) := by decide +kernel
theorem dX12_lays_203 : decode cX12_lays 203 = .ok (.getfield 25, 3) := by decide +kernel
theorem dX12_lays_206 : decode cX12_lays 206 = .ok (.iload 7, 2) := by decide +kernel
theorem dX12_lays_208 : decode cX12_lays 208 = .ok (.iaload, 1) := by decide +kernel
theorem dX12_lays_209 : decode cX12_lays 209 = .ok (.imul, 1) := by decide +kernel
theorem dX12_lays_210 : decode cX12_lays 210 = .ok (.iadd, 1) := by decide +kernel
theorem dX12_lays_211 : decode cX12_lays 211 = .ok (.bipush 29, 2) := by decide +kernel
theorem dX12_lays_213 : decode cX12_lays 213 = .ok (.irem, 1) := by decide +kernel
theorem dX12_lays_214 : decode cX12_lays 214 = .ok (.iastore, 1) := by decide +kernel
theorem dX12_lays_215 : decode cX12_lays 215 = .ok (.iinc 7 (-1), 3) := by decide +kernel
theorem dX12_lays_218 : decode cX12_lays 218 = .ok (.goto (-50), 3) := by decide +kernel
theorem dX12_lays_221 : decode cX12_lays 221 = .ok (.iinc 3 1, 3) := by decide +kernel
theorem dX12_lays_224 : decode cX12_lays 224 = .ok (.goto (-183), 3) := by decide +kernel
theorem dX12_lays_227 : decode cX12_lays 227 = .ok (.return_, 1) := by decide +kernel
theorem dX12_on_0 : decode cX12_on 0 = .ok (.iconst 0, 1) := by decide +kernel
theorem dX12_on_1 : decode cX12_on 1 = .ok (.istore_n 3, 1) := by decide +kernel
theorem dX12_on_2 : decode cX12_on 2 = .ok (.iconst 0, 1) := by decide +kernel
theorem dX12_on_3 : decode cX12_on 3 = .ok (.istore 4, 2) := by decide +kernel
theorem dX12_on_5 : decode cX12_on 5 = .ok (.iload 4, 2) := by decide +kernel
theorem dX12_on_7 : decode cX12_on 7 = .ok (.bipush 8, 2) := by decide +kernel
theorem dX12_on_9 : decode cX12_on 9 = .ok (.if_icmp .ge 75, 3) := by decide +kernel
theorem dX12_on_12 : decode cX12_on 12 = .ok (.iload_n 2, 1) := by decide +kernel
theorem dX12_on_13 : decode cX12_on 13 = .ok (.iload 4, 2) := by decide +kernel
theorem dX12_on_15 : decode cX12_on 15 = .ok (.ishr, 1) := by decide +kernel
theorem dX12_on_16 : decode cX12_on 16 = .ok (.iconst 1, 1) := by decide +kernel
theorem dX12_on_17 : decode cX12_on 17 = .ok (.iand, 1) := by decide +kernel
theorem dX12_on_18 : decode cX12_on 18 = .ok (.iconst 1, 1) := by decide +kernel
theorem dX12_on_19 : decode cX12_on 19 = .ok (.if_icmp .ne 40, 3) := by decide +kernel
theorem dX12_on_22 : decode cX12_on 22 = .ok (.aload_n 0, 1) := by decide +kernel
theorem dX12_on_23 : decode cX12_on 23 = .ok (.getfield 7, 3) := by decide +kernel
theorem dX12_on_26 : decode cX12_on 26 = .ok (.sipush 450, 3) := by decide +kernel
theorem dX12_on_29 : decode cX12_on 29 = .ok (.bipush 40, 2) := by decide +kernel
theorem dX12_on_31 : decode cX12_on 31 = .ok (.iload 4, 2) := by decide +kernel
theorem dX12_on_33 : decode cX12_on 33 = .ok (.imul, 1) := by decide +kernel
theorem dX12_on_34 : decode cX12_on 34 = .ok (.iadd, 1) := by decide +kernel
theorem dX12_on_35 : decode cX12_on 35 = .ok (.iload_n 1, 1) := by decide +kernel
theorem dX12_on_36 : decode cX12_on 36 = .ok (.iadd, 1) := by decide +kernel
theorem dX12_on_37 : decode cX12_on 37 = .ok (.iaload, 1) := by decide +kernel
theorem dX12_on_38 : decode cX12_on 38 = .ok (.aload_n 0, 1) := by decide +kernel
theorem dX12_on_39 : decode cX12_on 39 = .ok (.aload_n 0, 1) := by decide +kernel
theorem dX12_on_40 : decode cX12_on 40 = .ok (.getfield 22, 3) := by decide +kernel
theorem dX12_on_43 : decode cX12_on 43 = .ok (.bipush 8, 2) := by decide +kernel
theorem dX12_on_45 : decode cX12_on 45 = .ok (.iload 4, 2) := by decide +kernel
theorem dX12_on_47 : decode cX12_on 47 = .ok (.iconst 1, 1) := by decide +kernel
theorem dX12_on_48 : decode cX12_on 48 = .ok (.iadd, 1) := by decide +kernel
theorem dX12_on_49 : decode cX12_on 49 = .ok (.invokevirtual 154, 3) := by decide +kernel
theorem dX12_on_52 : decode cX12_on 52 = .ok (.if_icmp .ne 7, 3) := by decide +kernel
theorem dX12_on_55 : decode cX12_on 55 = .ok (.iconst 1, 1) := by decide +kernel
theorem dX12_on_56 : decode cX12_on 56 = .ok (.goto 4, 3) := by decide +kernel
theorem dX12_on_59 : decode cX12_on 59 = .ok (.iconst 0, 1) := by decide +kernel
theorem dX12_on_60 : decode cX12_on 60 = .ok (.istore 5, 2) := by decide +kernel
theorem dX12_on_62 : decode cX12_on 62 = .ok (.iload_n 3, 1) := by decide +kernel
theorem dX12_on_63 : decode cX12_on 63 = .ok (.iload 5, 2) := by decide +kernel
theorem dX12_on_65 : decode cX12_on 65 = .ok (.ifCond .eq 10, 3) := by decide +kernel
theorem dX12_on_68 : decode cX12_on 68 = .ok (.iconst 1, 1) := by decide +kernel
theorem dX12_on_69 : decode cX12_on 69 = .ok (.iload 4, 2) := by decide +kernel
theorem dX12_on_71 : decode cX12_on 71 = .ok (.ishl, 1) := by decide +kernel
theorem dX12_on_72 : decode cX12_on 72 = .ok (.goto 4, 3) := by decide +kernel
theorem dX12_on_75 : decode cX12_on 75 = .ok (.iconst 0, 1) := by decide +kernel
theorem dX12_on_76 : decode cX12_on 76 = .ok (.ior, 1) := by decide +kernel
theorem dX12_on_77 : decode cX12_on 77 = .ok (.istore_n 3, 1) := by decide +kernel
theorem dX12_on_78 : decode cX12_on 78 = .ok (.iinc 4 1, 3) := by decide +kernel
theorem dX12_on_81 : decode cX12_on 81 = .ok (.goto (-76), 3) := by decide +kernel
theorem dX12_on_84 : decode cX12_on 84 = .ok (.iload_n 3, 1) := by decide +kernel
theorem dX12_on_85 : decode cX12_on 85 = .ok (.ireturn, 1) := by decide +kernel
theorem dX12_mends_0 : decode cX12_mends 0 = .ok (.aload_n 0, 1) := by decide +kernel
theorem dX12_mends_1 : decode cX12_mends 1 = .ok (.iload_n 1, 1) := by decide +kernel
theorem dX12_mends_2 : decode cX12_mends 2 = .ok (.invokevirtual 160, 3) := by decide +kernel
theorem dX12_mends_5 : decode cX12_mends 5 = .ok (.istore_n 3, 1) := by decide +kernel
theorem dX12_mends_6 : decode cX12_mends 6 = .ok (.iload_n 3, 1) := by decide +kernel
theorem dX12_mends_7 : decode cX12_mends 7 = .ok (.invokestatic 163, 3) := by decide +kernel
theorem dX12_mends_10 : decode cX12_mends 10 = .ok (.iload_n 2, 1) := by decide +kernel
theorem dX12_mends_11 : decode cX12_mends 11 = .ok (.isub, 1) := by decide +kernel
theorem dX12_mends_12 : decode cX12_mends 12 = .ok (.iconst 2, 1) := by decide +kernel
theorem dX12_mends_13 : decode cX12_mends 13 = .ok (.idiv, 1) := by decide +kernel
theorem dX12_mends_14 : decode cX12_mends 14 = .ok (.istore 4, 2) := by decide +kernel
theorem dX12_mends_16 : decode cX12_mends 16 = .ok (.iconst 0, 1) := by decide +kernel
theorem dX12_mends_17 : decode cX12_mends 17 = .ok (.istore 5, 2) := by decide +kernel
theorem dX12_mends_19 : decode cX12_mends 19 = .ok (.iload 5, 2) := by decide +kernel
theorem dX12_mends_21 : decode cX12_mends 21 = .ok (.sipush 256, 3) := by decide +kernel
theorem dX12_mends_24 : decode cX12_mends 24 = .ok (.if_icmp .ge 55, 3) := by decide +kernel
theorem dX12_mends_27 : decode cX12_mends 27 = .ok (.iload 5, 2) := by decide +kernel
theorem dX12_mends_29 : decode cX12_mends 29 = .ok (.iload_n 3, 1) := by decide +kernel
theorem dX12_mends_30 : decode cX12_mends 30 = .ok (.iconst (-1), 1) := by decide +kernel
theorem dX12_mends_31 : decode cX12_mends 31 = .ok (.ixor, 1) := by decide +kernel
theorem dX12_mends_32 : decode cX12_mends 32 = .ok (.iand, 1) := by decide +kernel
theorem dX12_mends_33 : decode cX12_mends 33 = .ok (.ifCond .ne 40, 3) := by decide +kernel
theorem dX12_mends_36 : decode cX12_mends 36 = .ok (.iload 5, 2) := by decide +kernel
theorem dX12_mends_38 : decode cX12_mends 38 = .ok (.invokestatic 163, 3) := by decide +kernel
theorem dX12_mends_41 : decode cX12_mends 41 = .ok (.iload_n 2, 1) := by decide +kernel
theorem dX12_mends_42 : decode cX12_mends 42 = .ok (.if_icmp .ne 31, 3) := by decide +kernel
theorem dX12_mends_45 : decode cX12_mends 45 = .ok (.aload_n 0, 1) := by decide +kernel
theorem dX12_mends_46 : decode cX12_mends 46 = .ok (.iload_n 1, 1) := by decide +kernel
theorem dX12_mends_47 : decode cX12_mends 47 = .ok (.iload 5, 2) := by decide +kernel
theorem dX12_mends_49 : decode cX12_mends 49 = .ok (.invokevirtual 166, 3) := by decide +kernel
theorem dX12_mends_52 : decode cX12_mends 52 = .ok (.iload_n 3, 1) := by decide +kernel
theorem dX12_mends_53 : decode cX12_mends 53 = .ok (.invokestatic 163, 3) := by decide +kernel
theorem dX12_mends_56 : decode cX12_mends 56 = .ok (.aload_n 0, 1) := by decide +kernel
theorem dX12_mends_57 : decode cX12_mends 57 = .ok (.iload_n 1, 1) := by decide +kernel
theorem dX12_mends_58 : decode cX12_mends 58 = .ok (.iload_n 3, 1) := by decide +kernel
theorem dX12_mends_59 : decode cX12_mends 59 = .ok (.invokevirtual 169, 3) := by decide +kernel
theorem dX12_mends_62 : decode cX12_mends 62 = .ok (.invokestatic 163, 3) := by decide +kernel
theorem dX12_mends_65 : decode cX12_mends 65 = .ok (.isub, 1) := by decide +kernel
theorem dX12_mends_66 : decode cX12_mends 66 = .ok (.iload 4, 2) := by decide +kernel
theorem dX12_mends_68 : decode cX12_mends 68 = .ok (.if_icmp .gt 5, 3) := by decide +kernel
theorem dX12_mends_71 : decode cX12_mends 71 = .ok (.iconst 1, 1) := by decide +kernel
theorem dX12_mends_72 : decode cX12_mends 72 = .ok (.ireturn, 1) := by decide +kernel
theorem dX12_mends_73 : decode cX12_mends 73 = .ok (.iinc 5 1, 3) := by decide +kernel
theorem dX12_mends_76 : decode cX12_mends 76 = .ok (.goto (-57), 3) := by decide +kernel
theorem dX12_mends_79 : decode cX12_mends 79 = .ok (.iconst 0, 1) := by decide +kernel
theorem dX12_mends_80 : decode cX12_mends 80 = .ok (.ireturn, 1) := by decide +kernel
theorem dX12_fewest_0 : decode cX12_fewest 0 = .ok (.bipush 8, 2) := by decide +kernel
theorem dX12_fewest_2 : decode cX12_fewest 2 = .ok (.istore_n 2, 1) := by decide +kernel
theorem dX12_fewest_3 : decode cX12_fewest 3 = .ok (.iconst 0, 1) := by decide +kernel
theorem dX12_fewest_4 : decode cX12_fewest 4 = .ok (.istore_n 3, 1) := by decide +kernel
theorem dX12_fewest_5 : decode cX12_fewest 5 = .ok (.iload_n 3, 1) := by decide +kernel
theorem dX12_fewest_6 : decode cX12_fewest 6 = .ok (.aload_n 0, 1) := by decide +kernel
theorem dX12_fewest_7 : decode cX12_fewest 7 = .ok (.iload_n 1, 1) := by decide +kernel
theorem dX12_fewest_8 : decode cX12_fewest 8 = .ok (.invokevirtual 172, 3) := by decide +kernel
theorem dX12_fewest_11 : decode cX12_fewest 11 = .ok (.if_icmp .ge 38, 3) := by decide +kernel
theorem dX12_fewest_14 : decode cX12_fewest 14 = .ok (.aload_n 0, 1) := by decide +kernel
theorem dX12_fewest_15 : decode cX12_fewest 15 = .ok (.aload_n 0, 1) := by decide +kernel
theorem dX12_fewest_16 : decode cX12_fewest 16 = .ok (.iload_n 1, 1) := by decide +kernel
theorem dX12_fewest_17 : decode cX12_fewest 17 = .ok (.invokevirtual 175, 3) := by decide +kernel
theorem dX12_fewest_20 : decode cX12_fewest 20 = .ok (.iload_n 3, 1) := by decide +kernel
theorem dX12_fewest_21 : decode cX12_fewest 21 = .ok (.iadd, 1) := by decide +kernel
theorem dX12_fewest_22 : decode cX12_fewest 22 = .ok (.invokevirtual 160, 3) := by decide +kernel
theorem dX12_fewest_25 : decode cX12_fewest 25 = .ok (.invokestatic 163, 3) := by decide +kernel
theorem dX12_fewest_28 : decode cX12_fewest 28 = .ok (.istore 4, 2) := by decide +kernel
theorem dX12_fewest_30 : decode cX12_fewest 30 = .ok (.iload 4, 2) := by decide +kernel
theorem dX12_fewest_32 : decode cX12_fewest 32 = .ok (.iload_n 2, 1) := by decide +kernel
theorem dX12_fewest_33 : decode cX12_fewest 33 = .ok (.if_icmp .ge 8, 3) := by decide +kernel
theorem dX12_fewest_36 : decode cX12_fewest 36 = .ok (.iload 4, 2) := by decide +kernel
theorem dX12_fewest_38 : decode cX12_fewest 38 = .ok (.goto 4, 3) := by decide +kernel
theorem dX12_fewest_41 : decode cX12_fewest 41 = .ok (.iload_n 2, 1) := by decide +kernel
theorem dX12_fewest_42 : decode cX12_fewest 42 = .ok (.istore_n 2, 1) := by decide +kernel
theorem dX12_fewest_43 : decode cX12_fewest 43 = .ok (.iinc 3 1, 3) := by decide +kernel
theorem dX12_fewest_46 : decode cX12_fewest 46 = .ok (.goto (-41), 3) := by decide +kernel
theorem dX12_fewest_49 : decode cX12_fewest 49 = .ok (.iload_n 2, 1) := by decide +kernel
theorem dX12_fewest_50 : decode cX12_fewest 50 = .ok (.ireturn, 1) := by decide +kernel
theorem dX12_isDoubted_0 : decode cX12_isDoubted 0 = .ok (.iconst 0, 1) := by decide +kernel
theorem dX12_isDoubted_1 : decode cX12_isDoubted 1 = .ok (.istore_n 2, 1) := by decide +kernel
theorem dX12_isDoubted_2 : decode cX12_isDoubted 2 = .ok (.iconst 0, 1) := by decide +kernel
theorem dX12_isDoubted_3 : decode cX12_isDoubted 3 = .ok (.istore_n 3, 1) := by decide +kernel
theorem dX12_isDoubted_4 : decode cX12_isDoubted 4 = .ok (.iload_n 3, 1) := by decide +kernel
theorem dX12_isDoubted_5 : decode cX12_isDoubted 5 = .ok (.aload_n 0, 1) := by decide +kernel
theorem dX12_isDoubted_6 : decode cX12_isDoubted 6 = .ok (.iload_n 1, 1) := by decide +kernel
theorem dX12_isDoubted_7 : decode cX12_isDoubted 7 = .ok (.invokevirtual 172, 3) := by decide +kernel
theorem dX12_isDoubted_10 : decode cX12_isDoubted 10 = .ok (.if_icmp .ge 65, 3) := by decide +kernel
theorem dX12_isDoubted_13 : decode cX12_isDoubted 13 = .ok (.aload_n 0, 1) := by decide +kernel
theorem dX12_isDoubted_14 : decode cX12_isDoubted 14 = .ok (.iload_n 1, 1) := by decide +kernel
theorem dX12_isDoubted_15 : decode cX12_isDoubted 15 = .ok (.invokevirtual 175, 3) := by decide +kernel
theorem dX12_isDoubted_18 : decode cX12_isDoubted 18 = .ok (.iload_n 3, 1) := by decide +kernel
theorem dX12_isDoubted_19 : decode cX12_isDoubted 19 = .ok (.iadd, 1) := by decide +kernel
theorem dX12_isDoubted_20 : decode cX12_isDoubted 20 = .ok (.istore 4, 2) := by decide +kernel
theorem dX12_isDoubted_22 : decode cX12_isDoubted 22 = .ok (.aload_n 0, 1) := by decide +kernel
theorem dX12_isDoubted_23 : decode cX12_isDoubted 23 = .ok (.iload 4, 2) := by decide +kernel
theorem dX12_isDoubted_25 : decode cX12_isDoubted 25 = .ok (.invokevirtual 160, 3) := by decide +kernel
theorem dX12_isDoubted_28 : decode cX12_isDoubted 28 = .ok (.istore 5, 2) := by decide +kernel
theorem dX12_isDoubted_30 : decode cX12_isDoubted 30 = .ok (.aload_n 0, 1) := by decide +kernel
theorem dX12_isDoubted_31 : decode cX12_isDoubted 31 = .ok (.iload 4, 2) := by decide +kernel
theorem dX12_isDoubted_33 : decode cX12_isDoubted 33 = .ok (.iload 5, 2) := by decide +kernel
theorem dX12_isDoubted_35 : decode cX12_isDoubted 35 = .ok (.aload_n 0, 1) := by decide +kernel
theorem dX12_isDoubted_36 : decode cX12_isDoubted 36 = .ok (.iload_n 1, 1) := by decide +kernel
theorem dX12_isDoubted_37 : decode cX12_isDoubted 37 = .ok (.invokevirtual 151, 3) := by decide +kernel
theorem dX12_isDoubted_40 : decode cX12_isDoubted 40 = .ok (.invokestatic 178, 3) := by decide +kernel
theorem dX12_isDoubted_43 : decode cX12_isDoubted 43 = .ok (.invokevirtual 166, 3) := by decide +kernel
theorem dX12_isDoubted_46 : decode cX12_isDoubted 46 = .ok (.iload_n 2, 1) := by decide +kernel
theorem dX12_isDoubted_47 : decode cX12_isDoubted 47 = .ok (.ifCond .ne 16, 3) := by decide +kernel
theorem dX12_isDoubted_50 : decode cX12_isDoubted 50 = .ok (.aload_n 0, 1) := by decide +kernel
theorem dX12_isDoubted_51 : decode cX12_isDoubted 51 = .ok (.iload 4, 2) := by decide +kernel
theorem dX12_isDoubted_53 : decode cX12_isDoubted 53 = .ok (.iload 5, 2) := by decide +kernel
theorem dX12_isDoubted_55 : decode cX12_isDoubted 55 = .ok (.invokevirtual 169, 3) := by decide +kernel
theorem dX12_isDoubted_58 : decode cX12_isDoubted 58 = .ok (.iload 5, 2) := by decide +kernel
theorem dX12_isDoubted_60 : decode cX12_isDoubted 60 = .ok (.if_icmp .eq 7, 3) := by decide +kernel
theorem dX12_isDoubted_63 : decode cX12_isDoubted 63 = .ok (.iconst 1, 1) := by decide +kernel
theorem dX12_isDoubted_64 : decode cX12_isDoubted 64 = .ok (.goto 4, 3) := by decide +kernel
theorem dX12_isDoubted_67 : decode cX12_isDoubted 67 = .ok (.iconst 0, 1) := by decide +kernel
theorem dX12_isDoubted_68 : decode cX12_isDoubted 68 = .ok (.istore_n 2, 1) := by decide +kernel
theorem dX12_isDoubted_69 : decode cX12_isDoubted 69 = .ok (.iinc 3 1, 3) := by decide +kernel
theorem dX12_isDoubted_72 : decode cX12_isDoubted 72 = .ok (.goto (-68), 3) := by decide +kernel
theorem dX12_isDoubted_75 : decode cX12_isDoubted 75 = .ok (.iload_n 2, 1) := by decide +kernel
theorem dX12_isDoubted_76 : decode cX12_isDoubted 76 = .ok (.ireturn, 1) := by decide +kernel
theorem dX12_stateOf_0 : decode cX12_stateOf 0 = .ok (.aload_n 0, 1) := by decide +kernel
theorem dX12_stateOf_1 : decode cX12_stateOf 1 = .ok (.iload_n 1, 1) := by decide +kernel
theorem dX12_stateOf_2 : decode cX12_stateOf 2 = .ok (.invokevirtual 181, 3) := by decide +kernel
theorem dX12_stateOf_5 : decode cX12_stateOf 5 = .ok (.aload_n 0, 1) := by decide +kernel
theorem dX12_stateOf_6 : decode cX12_stateOf 6 = .ok (.iload_n 1, 1) := by decide +kernel
theorem dX12_stateOf_7 : decode cX12_stateOf 7 = .ok (.invokevirtual 151, 3) := by decide +kernel
theorem dX12_stateOf_10 : decode cX12_stateOf 10 = .ok (.if_icmp .ge 7, 3) := by decide +kernel
theorem dX12_stateOf_13 : decode cX12_stateOf 13 = .ok (.iconst 0, 1) := by decide +kernel
theorem dX12_stateOf_14 : decode cX12_stateOf 14 = .ok (.goto 16, 3) := by decide +kernel
theorem dX12_stateOf_17 : decode cX12_stateOf 17 = .ok (.aload_n 0, 1) := by decide +kernel
theorem dX12_stateOf_18 : decode cX12_stateOf 18 = .ok (.iload_n 1, 1) := by decide +kernel
theorem dX12_stateOf_19 : decode cX12_stateOf 19 = .ok (.invokevirtual 184, 3) := by decide +kernel
theorem dX12_stateOf_22 : decode cX12_stateOf 22 = .ok (.ifCond .eq 7, 3) := by decide +kernel
theorem dX12_stateOf_25 : decode cX12_stateOf 25 = .ok (.iconst 2, 1) := by decide +kernel
theorem dX12_stateOf_26 : decode cX12_stateOf 26 = .ok (.goto 4, 3) := by decide +kernel
theorem dX12_stateOf_29 : decode cX12_stateOf 29 = .ok (.iconst 1, 1) := by decide +kernel
theorem dX12_stateOf_30 : decode cX12_stateOf 30 = .ok (.ireturn, 1) := by decide +kernel
theorem dX12_opening_0 : decode cX12_opening 0 = .ok (.iconst 0, 1) := by decide +kernel
theorem dX12_opening_1 : decode cX12_opening 1 = .ok (.istore_n 2, 1) := by decide +kernel
theorem dX12_opening_2 : decode cX12_opening 2 = .ok (.iconst 0, 1) := by decide +kernel
theorem dX12_opening_3 : decode cX12_opening 3 = .ok (.istore_n 3, 1) := by decide +kernel
theorem dX12_opening_4 : decode cX12_opening 4 = .ok (.iload_n 3, 1) := by decide +kernel
theorem dX12_opening_5 : decode cX12_opening 5 = .ok (.iconst 1, 1) := by decide +kernel
theorem dX12_opening_6 : decode cX12_opening 6 = .ok (.aload_n 0, 1) := by decide +kernel
theorem dX12_opening_7 : decode cX12_opening 7 = .ok (.getfield 7, 3) := by decide +kernel
theorem dX12_opening_10 : decode cX12_opening 10 = .ok (.bipush 94, 2) := by decide +kernel
theorem dX12_opening_12 : decode cX12_opening 12 = .ok (.iaload, 1) := by decide +kernel
theorem dX12_opening_13 : decode cX12_opening 13 = .ok (.ishl, 1) := by decide +kernel
theorem dX12_opening_14 : decode cX12_opening 14 = .ok (.if_icmp .ge 29, 3) := by decide +kernel
theorem dX12_opening_17 : decode cX12_opening 17 = .ok (.iload_n 2, 1) := by decide +kernel
theorem dX12_opening_18 : decode cX12_opening 18 = .ok (.iload_n 3, 1) := by decide +kernel
theorem dX12_opening_19 : decode cX12_opening 19 = .ok (.invokestatic 163, 3) := by decide +kernel
theorem dX12_opening_22 : decode cX12_opening 22 = .ok (.aload_n 0, 1) := by decide +kernel
theorem dX12_opening_23 : decode cX12_opening 23 = .ok (.iload_n 1, 1) := by decide +kernel
theorem dX12_opening_24 : decode cX12_opening 24 = .ok (.invokevirtual 151, 3) := by decide +kernel
theorem dX12_opening_27 : decode cX12_opening 27 = .ok (.if_icmp .lt 7, 3) := by decide +kernel
theorem dX12_opening_30 : decode cX12_opening 30 = .ok (.iconst 1, 1) := by decide +kernel
theorem dX12_opening_31 : decode cX12_opening 31 = .ok (.goto 4, 3) := by decide +kernel
theorem dX12_opening_34 : decode cX12_opening 34 = .ok (.iconst 0, 1) := by decide +kernel
theorem dX12_opening_35 : decode cX12_opening 35 = .ok (.iadd, 1) := by decide +kernel
theorem dX12_opening_36 : decode cX12_opening 36 = .ok (.istore_n 2, 1) := by decide +kernel
theorem dX12_opening_37 : decode cX12_opening 37 = .ok (.iinc 3 1, 3) := by decide +kernel
theorem dX12_opening_40 : decode cX12_opening 40 = .ok (.goto (-36), 3) := by decide +kernel
theorem dX12_opening_43 : decode cX12_opening 43 = .ok (.iload_n 2, 1) := by decide +kernel
theorem dX12_opening_44 : decode cX12_opening 44 = .ok (.ireturn, 1) := by decide +kernel
theorem dX12_packed_0 : decode cX12_packed 0 = .ok (.aload_n 0, 1) := by decide +kernel
theorem dX12_packed_1 : decode cX12_packed 1 = .ok (.iload_n 1, 1) := by decide +kernel
theorem dX12_packed_2 : decode cX12_packed 2 = .ok (.invokevirtual 187, 3) := by decide +kernel
theorem dX12_packed_5 : decode cX12_packed 5 = .ok (.ifCond .ne 6, 3) := by decide +kernel
theorem dX12_packed_8 : decode cX12_packed 8 = .ok (.bipush (-2), 2) := by decide +kernel
theorem dX12_packed_10 : decode cX12_packed 10 = .ok (.ireturn, 1) := by decide +kernel
theorem dX12_packed_11 : decode cX12_packed 11 = .ok (.iload_n 2, 1) := by decide +kernel
theorem dX12_packed_12 : decode cX12_packed 12 = .ok (.tableswitch 82 0 5 #[40, 46, 52, 64, 70, 76], 40) := by decide +kernel
theorem dX12_packed_52 : decode cX12_packed 52 = .ok (.aload_n 0, 1) := by decide +kernel
theorem dX12_packed_53 : decode cX12_packed 53 = .ok (.iload_n 1, 1) := by decide +kernel
theorem dX12_packed_54 : decode cX12_packed 54 = .ok (.invokevirtual 190, 3) := by decide +kernel
theorem dX12_packed_57 : decode cX12_packed 57 = .ok (.ireturn, 1) := by decide +kernel
theorem dX12_packed_58 : decode cX12_packed 58 = .ok (.aload_n 0, 1) := by decide +kernel
theorem dX12_packed_59 : decode cX12_packed 59 = .ok (.iload_n 1, 1) := by decide +kernel
theorem dX12_packed_60 : decode cX12_packed 60 = .ok (.invokevirtual 151, 3) := by decide +kernel
theorem dX12_packed_63 : decode cX12_packed 63 = .ok (.ireturn, 1) := by decide +kernel
theorem dX12_packed_64 : decode cX12_packed 64 = .ok (.aload_n 0, 1) := by decide +kernel
theorem dX12_packed_65 : decode cX12_packed 65 = .ok (.getfield 7, 3) := by decide +kernel
theorem dX12_packed_68 : decode cX12_packed 68 = .ok (.bipush 96, 2) := by decide +kernel
theorem dX12_packed_70 : decode cX12_packed 70 = .ok (.iconst 3, 1) := by decide +kernel
theorem dX12_packed_71 : decode cX12_packed 71 = .ok (.iload_n 1, 1) := by decide +kernel
theorem dX12_packed_72 : decode cX12_packed 72 = .ok (.imul, 1) := by decide +kernel
theorem dX12_packed_73 : decode cX12_packed 73 = .ok (.iadd, 1) := by decide +kernel
theorem dX12_packed_74 : decode cX12_packed 74 = .ok (.iaload, 1) := by decide +kernel
theorem dX12_packed_75 : decode cX12_packed 75 = .ok (.ireturn, 1) := by decide +kernel
theorem dX12_packed_76 : decode cX12_packed 76 = .ok (.aload_n 0, 1) := by decide +kernel
theorem dX12_packed_77 : decode cX12_packed 77 = .ok (.iload_n 1, 1) := by decide +kernel
theorem dX12_packed_78 : decode cX12_packed 78 = .ok (.invokevirtual 175, 3) := by decide +kernel
theorem dX12_packed_81 : decode cX12_packed 81 = .ok (.ireturn, 1) := by decide +kernel
theorem dX12_packed_82 : decode cX12_packed 82 = .ok (.aload_n 0, 1) := by decide +kernel
theorem dX12_packed_83 : decode cX12_packed 83 = .ok (.iload_n 1, 1) := by decide +kernel
theorem dX12_packed_84 : decode cX12_packed 84 = .ok (.invokevirtual 181, 3) := by decide +kernel
theorem dX12_packed_87 : decode cX12_packed 87 = .ok (.ireturn, 1) := by decide +kernel
theorem dX12_packed_88 : decode cX12_packed 88 = .ok (.aload_n 0, 1) := by decide +kernel
theorem dX12_packed_89 : decode cX12_packed 89 = .ok (.iload_n 1, 1) := by decide +kernel
theorem dX12_packed_90 : decode cX12_packed 90 = .ok (.invokevirtual 193, 3) := by decide +kernel
theorem dX12_packed_93 : decode cX12_packed 93 = .ok (.ireturn, 1) := by decide +kernel
theorem dX12_packed_94 : decode cX12_packed 94 = .ok (.bipush (-3), 2) := by decide +kernel
theorem dX12_packed_96 : decode cX12_packed 96 = .ok (.ireturn, 1) := by decide +kernel
theorem dX12_read_0 : decode cX12_read 0 = .ok (.aload_n 0, 1) := by decide +kernel
theorem dX12_read_1 : decode cX12_read 1 = .ok (.iload_n 1, 1) := by decide +kernel
theorem dX12_read_2 : decode cX12_read 2 = .ok (.invokevirtual 187, 3) := by decide +kernel
theorem dX12_read_5 : decode cX12_read 5 = .ok (.ifCond .eq 26, 3) := by decide +kernel
theorem dX12_read_8 : decode cX12_read 8 = .ok (.iload_n 2, 1) := by decide +kernel
theorem dX12_read_9 : decode cX12_read 9 = .ok (.i2l, 1) := by decide +kernel
theorem dX12_read_10 : decode cX12_read 10 = .ok (.lconst 0, 1) := by decide +kernel
theorem dX12_read_11 : decode cX12_read 11 = .ok (.aload_n 0, 1) := by decide +kernel
theorem dX12_read_12 : decode cX12_read 12 = .ok (.getfield 7, 3) := by decide +kernel
theorem dX12_read_15 : decode cX12_read 15 = .ok (.bipush 96, 2) := by decide +kernel
theorem dX12_read_17 : decode cX12_read 17 = .ok (.iconst 3, 1) := by decide +kernel
theorem dX12_read_18 : decode cX12_read 18 = .ok (.iload_n 1, 1) := by decide +kernel
theorem dX12_read_19 : decode cX12_read 19 = .ok (.imul, 1) := by decide +kernel
theorem dX12_read_20 : decode cX12_read 20 = .ok (.iadd, 1) := by decide +kernel
theorem dX12_read_21 : decode cX12_read 21 = .ok (.iaload, 1) := by decide +kernel
theorem dX12_read_22 : decode cX12_read 22 = .ok (.iconst 1, 1) := by decide +kernel
theorem dX12_read_23 : decode cX12_read 23 = .ok (.isub, 1) := by decide +kernel
theorem dX12_read_24 : decode cX12_read 24 = .ok (.i2l, 1) := by decide +kernel
theorem dX12_read_25 : decode cX12_read 25 = .ok (.invokestatic 31, 3) := by decide +kernel
theorem dX12_read_28 : decode cX12_read 28 = .ok (.ifCond .ne 6, 3) := by decide +kernel
theorem dX12_read_31 : decode cX12_read 31 = .ok (.bipush (-2), 2) := by decide +kernel
theorem dX12_read_33 : decode cX12_read 33 = .ok (.ireturn, 1) := by decide +kernel
theorem dX12_read_34 : decode cX12_read 34 = .ok (.aload_n 0, 1) := by decide +kernel
theorem dX12_read_35 : decode cX12_read 35 = .ok (.iload_n 1, 1) := by decide +kernel
theorem dX12_read_36 : decode cX12_read 36 = .ok (.invokevirtual 151, 3) := by decide +kernel
theorem dX12_read_39 : decode cX12_read 39 = .ok (.istore_n 3, 1) := by decide +kernel
theorem dX12_read_40 : decode cX12_read 40 = .ok (.aload_n 0, 1) := by decide +kernel
theorem dX12_read_41 : decode cX12_read 41 = .ok (.iload_n 1, 1) := by decide +kernel
theorem dX12_read_42 : decode cX12_read 42 = .ok (.invokevirtual 175, 3) := by decide +kernel
theorem dX12_read_45 : decode cX12_read 45 = .ok (.iload_n 2, 1) := by decide +kernel
theorem dX12_read_46 : decode cX12_read 46 = .ok (.iload_n 3, 1) := by decide +kernel
theorem dX12_read_47 : decode cX12_read 47 = .ok (.idiv, 1) := by decide +kernel
theorem dX12_read_48 : decode cX12_read 48 = .ok (.iadd, 1) := by decide +kernel
theorem dX12_read_49 : decode cX12_read 49 = .ok (.istore 4, 2) := by decide +kernel
theorem dX12_read_51 : decode cX12_read 51 = .ok (.aload_n 0, 1) := by decide +kernel
theorem dX12_read_52 : decode cX12_read 52 = .ok (.iload 4, 2) := by decide +kernel
theorem dX12_read_54 : decode cX12_read 54 = .ok (.invokevirtual 160, 3) := by decide +kernel
theorem dX12_read_57 : decode cX12_read 57 = .ok (.istore 5, 2) := by decide +kernel
theorem dX12_read_59 : decode cX12_read 59 = .ok (.iload 5, 2) := by decide +kernel
theorem dX12_read_61 : decode cX12_read 61 = .ok (.invokestatic 163, 3) := by decide +kernel
theorem dX12_read_64 : decode cX12_read 64 = .ok (.iload_n 3, 1) := by decide +kernel
theorem dX12_read_65 : decode cX12_read 65 = .ok (.if_icmp .ge 6, 3) := by decide +kernel
theorem dX12_read_68 : decode cX12_read 68 = .ok (.bipush (-4), 2) := by decide +kernel
theorem dX12_read_70 : decode cX12_read 70 = .ok (.ireturn, 1) := by decide +kernel
theorem dX12_read_71 : decode cX12_read 71 = .ok (.aload_n 0, 1) := by decide +kernel
theorem dX12_read_72 : decode cX12_read 72 = .ok (.iload 4, 2) := by decide +kernel
theorem dX12_read_74 : decode cX12_read 74 = .ok (.iload 5, 2) := by decide +kernel
theorem dX12_read_76 : decode cX12_read 76 = .ok (.iload_n 3, 1) := by decide +kernel
theorem dX12_read_77 : decode cX12_read 77 = .ok (.invokestatic 178, 3) := by decide +kernel
theorem dX12_read_80 : decode cX12_read 80 = .ok (.invokevirtual 166, 3) := by decide +kernel
theorem dX12_read_83 : decode cX12_read 83 = .ok (.aload_n 0, 1) := by decide +kernel
theorem dX12_read_84 : decode cX12_read 84 = .ok (.getfield 22, 3) := by decide +kernel
theorem dX12_read_87 : decode cX12_read 87 = .ok (.iload_n 2, 1) := by decide +kernel
theorem dX12_read_88 : decode cX12_read 88 = .ok (.iload_n 3, 1) := by decide +kernel
theorem dX12_read_89 : decode cX12_read 89 = .ok (.irem, 1) := by decide +kernel
theorem dX12_read_90 : decode cX12_read 90 = .ok (.iaload, 1) := by decide +kernel
theorem dX12_read_91 : decode cX12_read 91 = .ok (.ireturn, 1) := by decide +kernel
theorem dX12_mended_0 : decode cX12_mended 0 = .ok (.aload_n 0, 1) := by decide +kernel
theorem dX12_mended_1 : decode cX12_mended 1 = .ok (.iload_n 1, 1) := by decide +kernel
theorem dX12_mended_2 : decode cX12_mended 2 = .ok (.invokevirtual 187, 3) := by decide +kernel
theorem dX12_mended_5 : decode cX12_mended 5 = .ok (.ifCond .eq 26, 3) := by decide +kernel
theorem dX12_mended_8 : decode cX12_mended 8 = .ok (.iload_n 2, 1) := by decide +kernel
theorem dX12_mended_9 : decode cX12_mended 9 = .ok (.i2l, 1) := by decide +kernel
theorem dX12_mended_10 : decode cX12_mended 10 = .ok (.lconst 0, 1) := by decide +kernel
theorem dX12_mended_11 : decode cX12_mended 11 = .ok (.aload_n 0, 1) := by decide +kernel
theorem dX12_mended_12 : decode cX12_mended 12 = .ok (.getfield 7, 3) := by decide +kernel
theorem dX12_mended_15 : decode cX12_mended 15 = .ok (.bipush 96, 2) := by decide +kernel
theorem dX12_mended_17 : decode cX12_mended 17 = .ok (.iconst 3, 1) := by decide +kernel
theorem dX12_mended_18 : decode cX12_mended 18 = .ok (.iload_n 1, 1) := by decide +kernel
theorem dX12_mended_19 : decode cX12_mended 19 = .ok (.imul, 1) := by decide +kernel
theorem dX12_mended_20 : decode cX12_mended 20 = .ok (.iadd, 1) := by decide +kernel
theorem dX12_mended_21 : decode cX12_mended 21 = .ok (.iaload, 1) := by decide +kernel
theorem dX12_mended_22 : decode cX12_mended 22 = .ok (.iconst 1, 1) := by decide +kernel
theorem dX12_mended_23 : decode cX12_mended 23 = .ok (.isub, 1) := by decide +kernel
theorem dX12_mended_24 : decode cX12_mended 24 = .ok (.i2l, 1) := by decide +kernel
theorem dX12_mended_25 : decode cX12_mended 25 = .ok (.invokestatic 31, 3) := by decide +kernel
theorem dX12_mended_28 : decode cX12_mended 28 = .ok (.ifCond .ne 6, 3) := by decide +kernel
theorem dX12_mended_31 : decode cX12_mended 31 = .ok (.bipush (-2), 2) := by decide +kernel
theorem dX12_mended_33 : decode cX12_mended 33 = .ok (.ireturn, 1) := by decide +kernel
theorem dX12_mended_34 : decode cX12_mended 34 = .ok (.aload_n 0, 1) := by decide +kernel
theorem dX12_mended_35 : decode cX12_mended 35 = .ok (.iload_n 1, 1) := by decide +kernel
theorem dX12_mended_36 : decode cX12_mended 36 = .ok (.invokevirtual 151, 3) := by decide +kernel
theorem dX12_mended_39 : decode cX12_mended 39 = .ok (.istore_n 3, 1) := by decide +kernel
theorem dX12_mended_40 : decode cX12_mended 40 = .ok (.aload_n 0, 1) := by decide +kernel
theorem dX12_mended_41 : decode cX12_mended 41 = .ok (.iload_n 1, 1) := by decide +kernel
theorem dX12_mended_42 : decode cX12_mended 42 = .ok (.invokevirtual 175, 3) := by decide +kernel
theorem dX12_mended_45 : decode cX12_mended 45 = .ok (.iload_n 2, 1) := by decide +kernel
theorem dX12_mended_46 : decode cX12_mended 46 = .ok (.iload_n 3, 1) := by decide +kernel
theorem dX12_mended_47 : decode cX12_mended 47 = .ok (.idiv, 1) := by decide +kernel
theorem dX12_mended_48 : decode cX12_mended 48 = .ok (.iadd, 1) := by decide +kernel
theorem dX12_mended_49 : decode cX12_mended 49 = .ok (.istore 4, 2) := by decide +kernel
theorem dX12_mended_51 : decode cX12_mended 51 = .ok (.aload_n 0, 1) := by decide +kernel
theorem dX12_mended_52 : decode cX12_mended 52 = .ok (.iload 4, 2) := by decide +kernel
theorem dX12_mended_54 : decode cX12_mended 54 = .ok (.invokevirtual 160, 3) := by decide +kernel
theorem dX12_mended_57 : decode cX12_mended 57 = .ok (.invokestatic 163, 3) := by decide +kernel
theorem dX12_mended_60 : decode cX12_mended 60 = .ok (.iload_n 3, 1) := by decide +kernel
theorem dX12_mended_61 : decode cX12_mended 61 = .ok (.if_icmp .ge 6, 3) := by decide +kernel
theorem dX12_mended_64 : decode cX12_mended 64 = .ok (.bipush (-4), 2) := by decide +kernel
theorem dX12_mended_66 : decode cX12_mended 66 = .ok (.ireturn, 1) := by decide +kernel
theorem dX12_mended_67 : decode cX12_mended 67 = .ok (.aload_n 0, 1) := by decide +kernel
theorem dX12_mended_68 : decode cX12_mended 68 = .ok (.iload 4, 2) := by decide +kernel
theorem dX12_mended_70 : decode cX12_mended 70 = .ok (.iload_n 3, 1) := by decide +kernel
theorem dX12_mended_71 : decode cX12_mended 71 = .ok (.invokevirtual 196, 3) := by decide +kernel
theorem dX12_mended_74 : decode cX12_mended 74 = .ok (.ifCond .eq 14, 3) := by decide +kernel
theorem dX12_mended_77 : decode cX12_mended 77 = .ok (.aload_n 0, 1) := by decide +kernel
theorem dX12_mended_78 : decode cX12_mended 78 = .ok (.getfield 22, 3) := by decide +kernel
theorem dX12_mended_81 : decode cX12_mended 81 = .ok (.iload_n 2, 1) := by decide +kernel
theorem dX12_mended_82 : decode cX12_mended 82 = .ok (.iload_n 3, 1) := by decide +kernel
theorem dX12_mended_83 : decode cX12_mended 83 = .ok (.irem, 1) := by decide +kernel
theorem dX12_mended_84 : decode cX12_mended 84 = .ok (.iaload, 1) := by decide +kernel
theorem dX12_mended_85 : decode cX12_mended 85 = .ok (.goto 4, 3) := by decide +kernel
theorem dX12_mended_88 : decode cX12_mended 88 = .ok (.iconst (-1), 1) := by decide +kernel
theorem dX12_mended_89 : decode cX12_mended 89 = .ok (.ireturn, 1) := by decide +kernel
theorem dX12_blamed_0 : decode cX12_blamed 0 = .ok (.aload_n 0, 1) := by decide +kernel
theorem dX12_blamed_1 : decode cX12_blamed 1 = .ok (.iload_n 1, 1) := by decide +kernel
theorem dX12_blamed_2 : decode cX12_blamed 2 = .ok (.invokevirtual 142, 3) := by decide +kernel
theorem dX12_blamed_5 : decode cX12_blamed 5 = .ok (.ifCond .ne 6, 3) := by decide +kernel
theorem dX12_blamed_8 : decode cX12_blamed 8 = .ok (.bipush (-2), 2) := by decide +kernel
theorem dX12_blamed_10 : decode cX12_blamed 10 = .ok (.ireturn, 1) := by decide +kernel
theorem dX12_blamed_11 : decode cX12_blamed 11 = .ok (.iconst 0, 1) := by decide +kernel
theorem dX12_blamed_12 : decode cX12_blamed 12 = .ok (.istore_n 2, 1) := by decide +kernel
theorem dX12_blamed_13 : decode cX12_blamed 13 = .ok (.iconst 0, 1) := by decide +kernel
theorem dX12_blamed_14 : decode cX12_blamed 14 = .ok (.istore_n 3, 1) := by decide +kernel
theorem dX12_blamed_15 : decode cX12_blamed 15 = .ok (.iload_n 3, 1) := by decide +kernel
theorem dX12_blamed_16 : decode cX12_blamed 16 = .ok (.aload_n 0, 1) := by decide +kernel
theorem dX12_blamed_17 : decode cX12_blamed 17 = .ok (.getfield 7, 3) := by decide +kernel
theorem dX12_blamed_20 : decode cX12_blamed 20 = .ok (.bipush 93, 2) := by decide +kernel
theorem dX12_blamed_22 : decode cX12_blamed 22 = .ok (.iaload, 1) := by decide +kernel
theorem dX12_blamed_23 : decode cX12_blamed 23 = .ok (.if_icmp .ge 111, 3) := by decide +kernel
theorem dX12_blamed_26 : decode cX12_blamed 26 = .ok (.iconst 0, 1) := by decide +kernel
theorem dX12_blamed_27 : decode cX12_blamed 27 = .ok (.istore 4, 2) := by decide +kernel
theorem dX12_blamed_29 : decode cX12_blamed 29 = .ok (.iload 4, 2) := by decide +kernel
theorem dX12_blamed_31 : decode cX12_blamed 31 = .ok (.aload_n 0, 1) := by decide +kernel
theorem dX12_blamed_32 : decode cX12_blamed 32 = .ok (.iload_n 3, 1) := by decide +kernel
theorem dX12_blamed_33 : decode cX12_blamed 33 = .ok (.invokevirtual 172, 3) := by decide +kernel
theorem dX12_blamed_36 : decode cX12_blamed 36 = .ok (.if_icmp .ge 92, 3) := by decide +kernel
theorem dX12_blamed_39 : decode cX12_blamed 39 = .ok (.aload_n 0, 1) := by decide +kernel
theorem dX12_blamed_40 : decode cX12_blamed 40 = .ok (.iload_n 3, 1) := by decide +kernel
theorem dX12_blamed_41 : decode cX12_blamed 41 = .ok (.invokevirtual 175, 3) := by decide +kernel
theorem dX12_blamed_44 : decode cX12_blamed 44 = .ok (.iload 4, 2) := by decide +kernel
theorem dX12_blamed_46 : decode cX12_blamed 46 = .ok (.iadd, 1) := by decide +kernel
theorem dX12_blamed_47 : decode cX12_blamed 47 = .ok (.istore 5, 2) := by decide +kernel
theorem dX12_blamed_49 : decode cX12_blamed 49 = .ok (.aload_n 0, 1) := by decide +kernel
theorem dX12_blamed_50 : decode cX12_blamed 50 = .ok (.iload_n 1, 1) := by decide +kernel
theorem dX12_blamed_51 : decode cX12_blamed 51 = .ok (.iload 5, 2) := by decide +kernel
theorem dX12_blamed_53 : decode cX12_blamed 53 = .ok (.invokevirtual 145, 3) := by decide +kernel
theorem dX12_blamed_56 : decode cX12_blamed 56 = .ok (.ifCond .eq 38, 3) := by decide +kernel
theorem dX12_blamed_59 : decode cX12_blamed 59 = .ok (.aload_n 0, 1) := by decide +kernel
theorem dX12_blamed_60 : decode cX12_blamed 60 = .ok (.iload 5, 2) := by decide +kernel
theorem dX12_blamed_62 : decode cX12_blamed 62 = .ok (.invokevirtual 160, 3) := by decide +kernel
theorem dX12_blamed_65 : decode cX12_blamed 65 = .ok (.invokestatic 163, 3) := by decide +kernel
theorem dX12_blamed_68 : decode cX12_blamed 68 = .ok (.aload_n 0, 1) := by decide +kernel
theorem dX12_blamed_69 : decode cX12_blamed 69 = .ok (.iload_n 3, 1) := by decide +kernel
theorem dX12_blamed_70 : decode cX12_blamed 70 = .ok (.invokevirtual 151, 3) := by decide +kernel
theorem dX12_blamed_73 : decode cX12_blamed 73 = .ok (.if_icmp .lt 21, 3) := by decide +kernel
theorem dX12_blamed_76 : decode cX12_blamed 76 = .ok (.aload_n 0, 1) := by decide +kernel
theorem dX12_blamed_77 : decode cX12_blamed 77 = .ok (.iload 5, 2) := by decide +kernel
theorem dX12_blamed_79 : decode cX12_blamed 79 = .ok (.aload_n 0, 1) := by decide +kernel
theorem dX12_blamed_80 : decode cX12_blamed 80 = .ok (.iload_n 3, 1) := by decide +kernel
theorem dX12_blamed_81 : decode cX12_blamed 81 = .ok (.invokevirtual 151, 3) := by decide +kernel
theorem dX12_blamed_84 : decode cX12_blamed 84 = .ok (.invokevirtual 196, 3) := by decide +kernel
theorem dX12_blamed_87 : decode cX12_blamed 87 = .ok (.ifCond .eq 7, 3) := by decide +kernel
theorem dX12_blamed_90 : decode cX12_blamed 90 = .ok (.iconst 1, 1) := by decide +kernel
theorem dX12_blamed_91 : decode cX12_blamed 91 = .ok (.goto 4, 3) := by decide +kernel
theorem dX12_blamed_94 : decode cX12_blamed 94 = .ok (.iconst 0, 1) := by decide +kernel
theorem dX12_blamed_95 : decode cX12_blamed 95 = .ok (.istore 6, 2) := by decide +kernel
theorem dX12_blamed_97 : decode cX12_blamed 97 = .ok (.iload_n 2, 1) := by decide +kernel
theorem dX12_blamed_98 : decode cX12_blamed 98 = .ok (.iload 6, 2) := by decide +kernel
theorem dX12_blamed_100 : decode cX12_blamed 100 = .ok (.ifCond .eq 19, 3) := by decide +kernel
theorem dX12_blamed_103 : decode cX12_blamed 103 = .ok (.aload_n 0, 1) := by decide +kernel
theorem dX12_blamed_104 : decode cX12_blamed 104 = .ok (.iload 5, 2) := by decide +kernel
theorem dX12_blamed_106 : decode cX12_blamed 106 = .ok (.iconst 1, 1) := by decide +kernel
theorem dX12_blamed_107 : decode cX12_blamed 107 = .ok (.iload_n 1, 1) := by decide +kernel
theorem dX12_blamed_108 : decode cX12_blamed 108 = .ok (.ishl, 1) := by decide +kernel
theorem dX12_blamed_109 : decode cX12_blamed 109 = .ok (.invokevirtual 169, 3) := by decide +kernel
theorem dX12_blamed_112 : decode cX12_blamed 112 = .ok (.ifCond .ne 7, 3) := by decide +kernel
theorem dX12_blamed_115 : decode cX12_blamed 115 = .ok (.iconst 1, 1) := by decide +kernel
theorem dX12_blamed_116 : decode cX12_blamed 116 = .ok (.goto 4, 3) := by decide +kernel
theorem dX12_blamed_119 : decode cX12_blamed 119 = .ok (.iconst 0, 1) := by decide +kernel
theorem dX12_blamed_120 : decode cX12_blamed 120 = .ok (.iadd, 1) := by decide +kernel
theorem dX12_blamed_121 : decode cX12_blamed 121 = .ok (.istore_n 2, 1) := by decide +kernel
theorem dX12_blamed_122 : decode cX12_blamed 122 = .ok (.iinc 4 1, 3) := by decide +kernel
theorem dX12_blamed_125 : decode cX12_blamed 125 = .ok (.goto (-96), 3) := by decide +kernel
theorem dX12_blamed_128 : decode cX12_blamed 128 = .ok (.iinc 3 1, 3) := by decide +kernel
theorem dX12_blamed_131 : decode cX12_blamed 131 = .ok (.goto (-116), 3) := by decide +kernel
theorem dX12_blamed_134 : decode cX12_blamed 134 = .ok (.iload_n 2, 1) := by decide +kernel
theorem dX12_blamed_135 : decode cX12_blamed 135 = .ok (.ireturn, 1) := by decide +kernel
theorem dX12_opened_0 : decode cX12_opened 0 = .ok (.iload_n 1, 1) := by decide +kernel
theorem dX12_opened_1 : decode cX12_opened 1 = .ok (.i2l, 1) := by decide +kernel
theorem dX12_opened_2 : decode cX12_opened 2 = .ok (.lconst 0, 1) := by decide +kernel
theorem dX12_opened_3 : decode cX12_opened 3 = .ok (.ldc2_w 123, 3) := by decide +kernel
theorem dX12_opened_6 : decode cX12_opened 6 = .ok (.invokestatic 31, 3) := by decide +kernel
theorem dX12_opened_9 : decode cX12_opened 9 = .ok (.ifCond .ne 6, 3) := by decide +kernel
theorem dX12_opened_12 : decode cX12_opened 12 = .ok (.bipush (-3), 2) := by decide +kernel
theorem dX12_opened_14 : decode cX12_opened 14 = .ok (.ireturn, 1) := by decide +kernel
theorem dX12_opened_15 : decode cX12_opened 15 = .ok (.iconst 0, 1) := by decide +kernel
theorem dX12_opened_16 : decode cX12_opened 16 = .ok (.istore_n 2, 1) := by decide +kernel
theorem dX12_opened_17 : decode cX12_opened 17 = .ok (.iconst 0, 1) := by decide +kernel
theorem dX12_opened_18 : decode cX12_opened 18 = .ok (.istore_n 3, 1) := by decide +kernel
theorem dX12_opened_19 : decode cX12_opened 19 = .ok (.iload_n 3, 1) := by decide +kernel
theorem dX12_opened_20 : decode cX12_opened 20 = .ok (.aload_n 0, 1) := by decide +kernel
theorem dX12_opened_21 : decode cX12_opened 21 = .ok (.getfield 7, 3) := by decide +kernel
theorem dX12_opened_24 : decode cX12_opened 24 = .ok (.bipush 93, 2) := by decide +kernel
theorem dX12_opened_26 : decode cX12_opened 26 = .ok (.iaload, 1) := by decide +kernel
theorem dX12_opened_27 : decode cX12_opened 27 = .ok (.if_icmp .ge 28, 3) := by decide +kernel
theorem dX12_opened_30 : decode cX12_opened 30 = .ok (.iload_n 2, 1) := by decide +kernel
theorem dX12_opened_31 : decode cX12_opened 31 = .ok (.aload_n 0, 1) := by decide +kernel
theorem dX12_opened_32 : decode cX12_opened 32 = .ok (.iload_n 3, 1) := by decide +kernel
theorem dX12_opened_33 : decode cX12_opened 33 = .ok (.invokevirtual 151, 3) := by decide +kernel
theorem dX12_opened_36 : decode cX12_opened 36 = .ok (.iload_n 1, 1) := by decide +kernel
theorem dX12_opened_37 : decode cX12_opened 37 = .ok (.if_icmp .gt 9, 3) := by decide +kernel
theorem dX12_opened_40 : decode cX12_opened 40 = .ok (.iconst 1, 1) := by decide +kernel
theorem dX12_opened_41 : decode cX12_opened 41 = .ok (.iload_n 3, 1) := by decide +kernel
theorem dX12_opened_42 : decode cX12_opened 42 = .ok (.ishl, 1) := by decide +kernel
theorem dX12_opened_43 : decode cX12_opened 43 = .ok (.goto 4, 3) := by decide +kernel
theorem dX12_opened_46 : decode cX12_opened 46 = .ok (.iconst 0, 1) := by decide +kernel
theorem dX12_opened_47 : decode cX12_opened 47 = .ok (.ior, 1) := by decide +kernel
theorem dX12_opened_48 : decode cX12_opened 48 = .ok (.istore_n 2, 1) := by decide +kernel
theorem dX12_opened_49 : decode cX12_opened 49 = .ok (.iinc 3 1, 3) := by decide +kernel
theorem dX12_opened_52 : decode cX12_opened 52 = .ok (.goto (-33), 3) := by decide +kernel
theorem dX12_opened_55 : decode cX12_opened 55 = .ok (.iload_n 2, 1) := by decide +kernel
theorem dX12_opened_56 : decode cX12_opened 56 = .ok (.ireturn, 1) := by decide +kernel
theorem dX12_cost_0 : decode cX12_cost 0 = .ok (.iload_n 3, 1) := by decide +kernel
theorem dX12_cost_1 : decode cX12_cost 1 = .ok (.aload_n 0, 1) := by decide +kernel
theorem dX12_cost_2 : decode cX12_cost 2 = .ok (.getfield 7, 3) := by decide +kernel
theorem dX12_cost_5 : decode cX12_cost 5 = .ok (.iload_n 1, 1) := by decide +kernel
theorem dX12_cost_6 : decode cX12_cost 6 = .ok (.invokestatic 35, 3) := by decide +kernel
theorem dX12_cost_9 : decode cX12_cost 9 = .ok (.iconst 0, 1) := by decide +kernel
theorem dX12_cost_10 : decode cX12_cost 10 = .ok (.iadd, 1) := by decide +kernel
theorem dX12_cost_11 : decode cX12_cost 11 = .ok (.iaload, 1) := by decide +kernel
theorem dX12_cost_12 : decode cX12_cost 12 = .ok (.iload_n 2, 1) := by decide +kernel
theorem dX12_cost_13 : decode cX12_cost 13 = .ok (.invokestatic 39, 3) := by decide +kernel
theorem dX12_cost_16 : decode cX12_cost 16 = .ok (.isub, 1) := by decide +kernel
theorem dX12_cost_17 : decode cX12_cost 17 = .ok (.istore 4, 2) := by decide +kernel
theorem dX12_cost_19 : decode cX12_cost 19 = .ok (.iload 4, 2) := by decide +kernel
theorem dX12_cost_21 : decode cX12_cost 21 = .ok (.ifCond .ge 8, 3) := by decide +kernel
theorem dX12_cost_24 : decode cX12_cost 24 = .ok (.ldc 199, 2) := by decide +kernel
theorem dX12_cost_26 : decode cX12_cost 26 = .ok (.goto 31, 3) := by decide +kernel
theorem dX12_cost_29 : decode cX12_cost 29 = .ok (.aload_n 0, 1) := by decide +kernel
theorem dX12_cost_30 : decode cX12_cost 30 = .ok (.getfield 7, 3) := by decide +kernel
theorem dX12_cost_33 : decode cX12_cost 33 = .ok (.iload_n 1, 1) := by decide +kernel
theorem dX12_cost_34 : decode cX12_cost 34 = .ok (.invokestatic 35, 3) := by decide +kernel
theorem dX12_cost_37 : decode cX12_cost 37 = .ok (.iconst 2, 1) := by decide +kernel
theorem dX12_cost_38 : decode cX12_cost 38 = .ok (.iadd, 1) := by decide +kernel
theorem dX12_cost_39 : decode cX12_cost 39 = .ok (.iaload, 1) := by decide +kernel
theorem dX12_cost_40 : decode cX12_cost 40 = .ok (.iload_n 2, 1) := by decide +kernel
theorem dX12_cost_41 : decode cX12_cost 41 = .ok (.imul, 1) := by decide +kernel
theorem dX12_cost_42 : decode cX12_cost 42 = .ok (.aload_n 0, 1) := by decide +kernel
theorem dX12_cost_43 : decode cX12_cost 43 = .ok (.getfield 28, 3) := by decide +kernel
theorem dX12_cost_46 : decode cX12_cost 46 = .ok (.bipush 41, 2) := by decide +kernel
theorem dX12_cost_48 : decode cX12_cost 48 = .ok (.iload_n 1, 1) := by decide +kernel
theorem dX12_cost_49 : decode cX12_cost 49 = .ok (.iconst 1, 1) := by decide +kernel
theorem dX12_cost_50 : decode cX12_cost 50 = .ok (.iadd, 1) := by decide +kernel
theorem dX12_cost_51 : decode cX12_cost 51 = .ok (.imul, 1) := by decide +kernel
theorem dX12_cost_52 : decode cX12_cost 52 = .ok (.iload 4, 2) := by decide +kernel
theorem dX12_cost_54 : decode cX12_cost 54 = .ok (.iadd, 1) := by decide +kernel
theorem dX12_cost_55 : decode cX12_cost 55 = .ok (.iaload, 1) := by decide +kernel
theorem dX12_cost_56 : decode cX12_cost 56 = .ok (.iadd, 1) := by decide +kernel
theorem dX12_cost_57 : decode cX12_cost 57 = .ok (.ireturn, 1) := by decide +kernel
theorem dX12_plans_0 : decode cX12_plans 0 = .ok (.iconst 0, 1) := by decide +kernel
theorem dX12_plans_1 : decode cX12_plans 1 = .ok (.istore_n 1, 1) := by decide +kernel
theorem dX12_plans_2 : decode cX12_plans 2 = .ok (.iload_n 1, 1) := by decide +kernel
theorem dX12_plans_3 : decode cX12_plans 3 = .ok (.bipush 41, 2) := by decide +kernel
theorem dX12_plans_5 : decode cX12_plans 5 = .ok (.if_icmp .ge 26, 3) := by decide +kernel
theorem dX12_plans_8 : decode cX12_plans 8 = .ok (.aload_n 0, 1) := by decide +kernel
theorem dX12_plans_9 : decode cX12_plans 9 = .ok (.getfield 28, 3) := by decide +kernel
theorem dX12_plans_12 : decode cX12_plans 12 = .ok (.bipush 41, 2) := by decide +kernel
theorem dX12_plans_14 : decode cX12_plans 14 = .ok (.aload_n 0, 1) := by decide +kernel
theorem dX12_plans_15 : decode cX12_plans 15 = .ok (.getfield 7, 3) := by decide +kernel
theorem dX12_plans_18 : decode cX12_plans 18 = .ok (.iconst 2, 1) := by decide +kernel
theorem dX12_plans_19 : decode cX12_plans 19 = .ok (.iaload, 1) := by decide +kernel
theorem dX12_plans_20 : decode cX12_plans 20 = .ok (.imul, 1) := by decide +kernel
theorem dX12_plans_21 : decode cX12_plans 21 = .ok (.iload_n 1, 1) := by decide +kernel
theorem dX12_plans_22 : decode cX12_plans 22 = .ok (.iadd, 1) := by decide +kernel
theorem dX12_plans_23 : decode cX12_plans 23 = .ok (.iconst 0, 1) := by decide +kernel
theorem dX12_plans_24 : decode cX12_plans 24 = .ok (.iastore, 1) := by decide +kernel
theorem dX12_plans_25 : decode cX12_plans 25 = .ok (.iinc 1 1, 3) := by decide +kernel
theorem dX12_plans_28 : decode cX12_plans 28 = .ok (.goto (-26), 3) := by decide +kernel
theorem dX12_plans_31 : decode cX12_plans 31 = .ok (.aload_n 0, 1) := by decide +kernel
theorem dX12_plans_32 : decode cX12_plans 32 = .ok (.getfield 7, 3) := by decide +kernel
theorem dX12_plans_35 : decode cX12_plans 35 = .ok (.iconst 2, 1) := by decide +kernel
theorem dX12_plans_36 : decode cX12_plans 36 = .ok (.iaload, 1) := by decide +kernel
theorem dX12_plans_37 : decode cX12_plans 37 = .ok (.iconst 1, 1) := by decide +kernel
theorem dX12_plans_38 : decode cX12_plans 38 = .ok (.isub, 1) := by decide +kernel
theorem dX12_plans_39 : decode cX12_plans 39 = .ok (.istore_n 1, 1) := by decide +kernel
theorem dX12_plans_40 : decode cX12_plans 40 = .ok (.iload_n 1, 1) := by decide +kernel
theorem dX12_plans_41 : decode cX12_plans 41 = .ok (.ifCond .lt 81, 3) := by decide +kernel
theorem dX12_plans_44 : decode cX12_plans 44 = .ok (.iconst 0, 1) := by decide +kernel
theorem dX12_plans_45 : decode cX12_plans 45 = .ok (.istore_n 2, 1) := by decide +kernel
theorem dX12_plans_46 : decode cX12_plans 46 = .ok (.iload_n 2, 1) := by decide +kernel
theorem dX12_plans_47 : decode cX12_plans 47 = .ok (.bipush 41, 2) := by decide +kernel
theorem dX12_plans_49 : decode cX12_plans 49 = .ok (.if_icmp .ge 67, 3) := by decide +kernel
theorem dX12_plans_52 : decode cX12_plans 52 = .ok (.ldc 199, 2) := by decide +kernel
theorem dX12_plans_54 : decode cX12_plans 54 = .ok (.istore_n 3, 1) := by decide +kernel
theorem dX12_plans_55 : decode cX12_plans 55 = .ok (.iconst 1, 1) := by decide +kernel
theorem dX12_plans_56 : decode cX12_plans 56 = .ok (.istore 4, 2) := by decide +kernel
theorem dX12_plans_58 : decode cX12_plans 58 = .ok (.iload 4, 2) := by decide +kernel
theorem dX12_plans_60 : decode cX12_plans 60 = .ok (.aload_n 0, 1) := by decide +kernel
theorem dX12_plans_61 : decode cX12_plans 61 = .ok (.getfield 7, 3) := by decide +kernel
theorem dX12_plans_64 : decode cX12_plans 64 = .ok (.iconst 0, 1) := by decide +kernel
theorem dX12_plans_65 : decode cX12_plans 65 = .ok (.iaload, 1) := by decide +kernel
theorem dX12_plans_66 : decode cX12_plans 66 = .ok (.if_icmp .gt 32, 3) := by decide +kernel
theorem dX12_plans_69 : decode cX12_plans 69 = .ok (.aload_n 0, 1) := by decide +kernel
theorem dX12_plans_70 : decode cX12_plans 70 = .ok (.iload_n 1, 1) := by decide +kernel
theorem dX12_plans_71 : decode cX12_plans 71 = .ok (.iload 4, 2) := by decide +kernel
theorem dX12_plans_73 : decode cX12_plans 73 = .ok (.iload_n 2, 1) := by decide +kernel
theorem dX12_plans_74 : decode cX12_plans 74 = .ok (.invokevirtual 200, 3) := by decide +kernel
theorem dX12_plans_77 : decode cX12_plans 77 = .ok (.istore 5, 2) := by decide +kernel
theorem dX12_plans_79 : decode cX12_plans 79 = .ok (.iload 5, 2) := by decide +kernel
theorem dX12_plans_81 : decode cX12_plans 81 = .ok (.iload_n 3, 1) := by decide +kernel
theorem dX12_plans_82 : decode cX12_plans 82 = .ok (.if_icmp .ge 8, 3) := by decide +kernel
theorem dX12_plans_85 : decode cX12_plans 85 = .ok (.iload 5, 2) := by decide +kernel
theorem dX12_plans_87 : decode cX12_plans 87 = .ok (.goto 4, 3) := by decide +kernel
theorem dX12_plans_90 : decode cX12_plans 90 = .ok (.iload_n 3, 1) := by decide +kernel
theorem dX12_plans_91 : decode cX12_plans 91 = .ok (.istore_n 3, 1) := by decide +kernel
theorem dX12_plans_92 : decode cX12_plans 92 = .ok (.iinc 4 1, 3) := by decide +kernel
theorem dX12_plans_95 : decode cX12_plans 95 = .ok (.goto (-37), 3) := by decide +kernel
theorem dX12_plans_98 : decode cX12_plans 98 = .ok (.aload_n 0, 1) := by decide +kernel
theorem dX12_plans_99 : decode cX12_plans 99 = .ok (.getfield 28, 3) := by decide +kernel
theorem dX12_plans_102 : decode cX12_plans 102 = .ok (.bipush 41, 2) := by decide +kernel
theorem dX12_plans_104 : decode cX12_plans 104 = .ok (.iload_n 1, 1) := by decide +kernel
theorem dX12_plans_105 : decode cX12_plans 105 = .ok (.imul, 1) := by decide +kernel
theorem dX12_plans_106 : decode cX12_plans 106 = .ok (.iload_n 2, 1) := by decide +kernel
theorem dX12_plans_107 : decode cX12_plans 107 = .ok (.iadd, 1) := by decide +kernel
theorem dX12_plans_108 : decode cX12_plans 108 = .ok (.iload_n 3, 1) := by decide +kernel
theorem dX12_plans_109 : decode cX12_plans 109 = .ok (.iastore, 1) := by decide +kernel
theorem dX12_plans_110 : decode cX12_plans 110 = .ok (.iinc 2 1, 3) := by decide +kernel
theorem dX12_plans_113 : decode cX12_plans 113 = .ok (.goto (-67), 3) := by decide +kernel
theorem dX12_plans_116 : decode cX12_plans 116 = .ok (.iinc 1 (-1), 3) := by decide +kernel
theorem dX12_plans_119 : decode cX12_plans 119 = .ok (.goto (-79), 3) := by decide +kernel
theorem dX12_plans_122 : decode cX12_plans 122 = .ok (.aload_n 0, 1) := by decide +kernel
theorem dX12_plans_123 : decode cX12_plans 123 = .ok (.getfield 28, 3) := by decide +kernel
theorem dX12_plans_126 : decode cX12_plans 126 = .ok (.aload_n 0, 1) := by decide +kernel
theorem dX12_plans_127 : decode cX12_plans 127 = .ok (.getfield 7, 3) := by decide +kernel
theorem dX12_plans_130 : decode cX12_plans 130 = .ok (.iconst 1, 1) := by decide +kernel
theorem dX12_plans_131 : decode cX12_plans 131 = .ok (.iaload, 1) := by decide +kernel
theorem dX12_plans_132 : decode cX12_plans 132 = .ok (.iaload, 1) := by decide +kernel
theorem dX12_plans_133 : decode cX12_plans 133 = .ok (.istore_n 1, 1) := by decide +kernel
theorem dX12_plans_134 : decode cX12_plans 134 = .ok (.iload_n 1, 1) := by decide +kernel
theorem dX12_plans_135 : decode cX12_plans 135 = .ok (.ldc 199, 2) := by decide +kernel
theorem dX12_plans_137 : decode cX12_plans 137 = .ok (.if_icmp .ge 7, 3) := by decide +kernel
theorem dX12_plans_140 : decode cX12_plans 140 = .ok (.iload_n 1, 1) := by decide +kernel
theorem dX12_plans_141 : decode cX12_plans 141 = .ok (.goto 4, 3) := by decide +kernel
theorem dX12_plans_144 : decode cX12_plans 144 = .ok (.iconst (-1), 1) := by decide +kernel
theorem dX12_plans_145 : decode cX12_plans 145 = .ok (.ireturn, 1) := by decide +kernel
theorem dX12_plan_0 : decode cX12_plan 0 = .ok (.aload_n 0, 1) := by decide +kernel
theorem dX12_plan_1 : decode cX12_plan 1 = .ok (.iload_n 1, 1) := by decide +kernel
theorem dX12_plan_2 : decode cX12_plan 2 = .ok (.invokevirtual 111, 3) := by decide +kernel
theorem dX12_plan_5 : decode cX12_plan 5 = .ok (.ifCond .ne 6, 3) := by decide +kernel
theorem dX12_plan_8 : decode cX12_plan 8 = .ok (.bipush (-2), 2) := by decide +kernel
theorem dX12_plan_10 : decode cX12_plan 10 = .ok (.ireturn, 1) := by decide +kernel
theorem dX12_plan_11 : decode cX12_plan 11 = .ok (.aload_n 0, 1) := by decide +kernel
theorem dX12_plan_12 : decode cX12_plan 12 = .ok (.invokevirtual 203, 3) := by decide +kernel
theorem dX12_plan_15 : decode cX12_plan 15 = .ok (.iconst (-1), 1) := by decide +kernel
theorem dX12_plan_16 : decode cX12_plan 16 = .ok (.if_icmp .ne 5, 3) := by decide +kernel
theorem dX12_plan_19 : decode cX12_plan 19 = .ok (.iconst (-1), 1) := by decide +kernel
theorem dX12_plan_20 : decode cX12_plan 20 = .ok (.ireturn, 1) := by decide +kernel
theorem dX12_plan_21 : decode cX12_plan 21 = .ok (.aload_n 0, 1) := by decide +kernel
theorem dX12_plan_22 : decode cX12_plan 22 = .ok (.getfield 7, 3) := by decide +kernel
theorem dX12_plan_25 : decode cX12_plan 25 = .ok (.iconst 1, 1) := by decide +kernel
theorem dX12_plan_26 : decode cX12_plan 26 = .ok (.iaload, 1) := by decide +kernel
theorem dX12_plan_27 : decode cX12_plan 27 = .ok (.istore_n 2, 1) := by decide +kernel
theorem dX12_plan_28 : decode cX12_plan 28 = .ok (.iconst 0, 1) := by decide +kernel
theorem dX12_plan_29 : decode cX12_plan 29 = .ok (.istore_n 3, 1) := by decide +kernel
theorem dX12_plan_30 : decode cX12_plan 30 = .ok (.iconst 0, 1) := by decide +kernel
theorem dX12_plan_31 : decode cX12_plan 31 = .ok (.istore 4, 2) := by decide +kernel
theorem dX12_plan_33 : decode cX12_plan 33 = .ok (.iload 4, 2) := by decide +kernel
theorem dX12_plan_35 : decode cX12_plan 35 = .ok (.iload_n 1, 1) := by decide +kernel
theorem dX12_plan_36 : decode cX12_plan 36 = .ok (.if_icmp .gt 59, 3) := by decide +kernel
theorem dX12_plan_39 : decode cX12_plan 39 = .ok (.iconst 1, 1) := by decide +kernel
theorem dX12_plan_40 : decode cX12_plan 40 = .ok (.istore_n 3, 1) := by decide +kernel
theorem dX12_plan_41 : decode cX12_plan 41 = .ok (.aload_n 0, 1) := by decide +kernel
theorem dX12_plan_42 : decode cX12_plan 42 = .ok (.iload 4, 2) := by decide +kernel
theorem dX12_plan_44 : decode cX12_plan 44 = .ok (.iload_n 3, 1) := by decide +kernel
theorem dX12_plan_45 : decode cX12_plan 45 = .ok (.iload_n 2, 1) := by decide +kernel
theorem dX12_plan_46 : decode cX12_plan 46 = .ok (.invokevirtual 200, 3) := by decide +kernel
theorem dX12_plan_49 : decode cX12_plan 49 = .ok (.aload_n 0, 1) := by decide +kernel
theorem dX12_plan_50 : decode cX12_plan 50 = .ok (.getfield 28, 3) := by decide +kernel
theorem dX12_plan_53 : decode cX12_plan 53 = .ok (.bipush 41, 2) := by decide +kernel
theorem dX12_plan_55 : decode cX12_plan 55 = .ok (.iload 4, 2) := by decide +kernel
theorem dX12_plan_57 : decode cX12_plan 57 = .ok (.imul, 1) := by decide +kernel
theorem dX12_plan_58 : decode cX12_plan 58 = .ok (.iload_n 2, 1) := by decide +kernel
theorem dX12_plan_59 : decode cX12_plan 59 = .ok (.iadd, 1) := by decide +kernel
theorem dX12_plan_60 : decode cX12_plan 60 = .ok (.iaload, 1) := by decide +kernel
theorem dX12_plan_61 : decode cX12_plan 61 = .ok (.if_icmp .eq 9, 3) := by decide +kernel
theorem dX12_plan_64 : decode cX12_plan 64 = .ok (.iinc 3 1, 3) := by decide +kernel
theorem dX12_plan_67 : decode cX12_plan 67 = .ok (.goto (-26), 3) := by decide +kernel
theorem dX12_plan_70 : decode cX12_plan 70 = .ok (.iload_n 2, 1) := by decide +kernel
theorem dX12_plan_71 : decode cX12_plan 71 = .ok (.aload_n 0, 1) := by decide +kernel
theorem dX12_plan_72 : decode cX12_plan 72 = .ok (.getfield 7, 3) := by decide +kernel
theorem dX12_plan_75 : decode cX12_plan 75 = .ok (.iload 4, 2) := by decide +kernel
theorem dX12_plan_77 : decode cX12_plan 77 = .ok (.invokestatic 35, 3) := by decide +kernel
theorem dX12_plan_80 : decode cX12_plan 80 = .ok (.iconst 0, 1) := by decide +kernel
theorem dX12_plan_81 : decode cX12_plan 81 = .ok (.iadd, 1) := by decide +kernel
theorem dX12_plan_82 : decode cX12_plan 82 = .ok (.iaload, 1) := by decide +kernel
theorem dX12_plan_83 : decode cX12_plan 83 = .ok (.iload_n 3, 1) := by decide +kernel
theorem dX12_plan_84 : decode cX12_plan 84 = .ok (.invokestatic 39, 3) := by decide +kernel
theorem dX12_plan_87 : decode cX12_plan 87 = .ok (.isub, 1) := by decide +kernel
theorem dX12_plan_88 : decode cX12_plan 88 = .ok (.istore_n 2, 1) := by decide +kernel
theorem dX12_plan_89 : decode cX12_plan 89 = .ok (.iinc 4 1, 3) := by decide +kernel
theorem dX12_plan_92 : decode cX12_plan 92 = .ok (.goto (-59), 3) := by decide +kernel
theorem dX12_plan_95 : decode cX12_plan 95 = .ok (.iload_n 3, 1) := by decide +kernel
theorem dX12_plan_96 : decode cX12_plan 96 = .ok (.ireturn, 1) := by decide +kernel
theorem dX12_lesser_0 : decode cX12_lesser 0 = .ok (.iload_n 1, 1) := by decide +kernel
theorem dX12_lesser_1 : decode cX12_lesser 1 = .ok (.i2l, 1) := by decide +kernel
theorem dX12_lesser_2 : decode cX12_lesser 2 = .ok (.lconst 0, 1) := by decide +kernel
theorem dX12_lesser_3 : decode cX12_lesser 3 = .ok (.ldc2_w 128, 3) := by decide +kernel
theorem dX12_lesser_6 : decode cX12_lesser 6 = .ok (.invokestatic 31, 3) := by decide +kernel
theorem dX12_lesser_9 : decode cX12_lesser 9 = .ok (.ifCond .ne 6, 3) := by decide +kernel
theorem dX12_lesser_12 : decode cX12_lesser 12 = .ok (.bipush (-3), 2) := by decide +kernel
theorem dX12_lesser_14 : decode cX12_lesser 14 = .ok (.ireturn, 1) := by decide +kernel
theorem dX12_lesser_15 : decode cX12_lesser 15 = .ok (.iconst 0, 1) := by decide +kernel
theorem dX12_lesser_16 : decode cX12_lesser 16 = .ok (.istore_n 2, 1) := by decide +kernel
theorem dX12_lesser_17 : decode cX12_lesser 17 = .ok (.iconst (-1), 1) := by decide +kernel
theorem dX12_lesser_18 : decode cX12_lesser 18 = .ok (.istore_n 3, 1) := by decide +kernel
theorem dX12_lesser_19 : decode cX12_lesser 19 = .ok (.iconst 0, 1) := by decide +kernel
theorem dX12_lesser_20 : decode cX12_lesser 20 = .ok (.istore 4, 2) := by decide +kernel
theorem dX12_lesser_22 : decode cX12_lesser 22 = .ok (.iload 4, 2) := by decide +kernel
theorem dX12_lesser_24 : decode cX12_lesser 24 = .ok (.iconst 1, 1) := by decide +kernel
theorem dX12_lesser_25 : decode cX12_lesser 25 = .ok (.aload_n 0, 1) := by decide +kernel
theorem dX12_lesser_26 : decode cX12_lesser 26 = .ok (.getfield 7, 3) := by decide +kernel
theorem dX12_lesser_29 : decode cX12_lesser 29 = .ok (.iconst 2, 1) := by decide +kernel
theorem dX12_lesser_30 : decode cX12_lesser 30 = .ok (.iaload, 1) := by decide +kernel
theorem dX12_lesser_31 : decode cX12_lesser 31 = .ok (.ishl, 1) := by decide +kernel
theorem dX12_lesser_32 : decode cX12_lesser 32 = .ok (.if_icmp .ge 86, 3) := by decide +kernel
theorem dX12_lesser_35 : decode cX12_lesser 35 = .ok (.iconst 0, 1) := by decide +kernel
theorem dX12_lesser_36 : decode cX12_lesser 36 = .ok (.istore 5, 2) := by decide +kernel
theorem dX12_lesser_38 : decode cX12_lesser 38 = .ok (.iconst 0, 1) := by decide +kernel
theorem dX12_lesser_39 : decode cX12_lesser 39 = .ok (.istore 6, 2) := by decide +kernel
theorem dX12_lesser_41 : decode cX12_lesser 41 = .ok (.iload 6, 2) := by decide +kernel
theorem dX12_lesser_43 : decode cX12_lesser 43 = .ok (.aload_n 0, 1) := by decide +kernel
theorem dX12_lesser_44 : decode cX12_lesser 44 = .ok (.getfield 7, 3) := by decide +kernel
theorem dX12_lesser_47 : decode cX12_lesser 47 = .ok (.iconst 2, 1) := by decide +kernel
theorem dX12_lesser_48 : decode cX12_lesser 48 = .ok (.iaload, 1) := by decide +kernel
theorem dX12_lesser_49 : decode cX12_lesser 49 = .ok (.if_icmp .ge 41, 3) := by decide +kernel
theorem dX12_lesser_52 : decode cX12_lesser 52 = .ok (.iload 5, 2) := by decide +kernel
theorem dX12_lesser_54 : decode cX12_lesser 54 = .ok (.iload 4, 2) := by decide +kernel
theorem dX12_lesser_56 : decode cX12_lesser 56 = .ok (.iload 6, 2) := by decide +kernel
theorem dX12_lesser_58 : decode cX12_lesser 58 = .ok (.ishr, 1) := by decide +kernel
theorem dX12_lesser_59 : decode cX12_lesser 59 = .ok (.iconst 1, 1) := by decide +kernel
theorem dX12_lesser_60 : decode cX12_lesser 60 = .ok (.iand, 1) := by decide +kernel
theorem dX12_lesser_61 : decode cX12_lesser 61 = .ok (.iconst 1, 1) := by decide +kernel
theorem dX12_lesser_62 : decode cX12_lesser 62 = .ok (.if_icmp .ne 18, 3) := by decide +kernel
theorem dX12_lesser_65 : decode cX12_lesser 65 = .ok (.aload_n 0, 1) := by decide +kernel
theorem dX12_lesser_66 : decode cX12_lesser 66 = .ok (.getfield 7, 3) := by decide +kernel
theorem dX12_lesser_69 : decode cX12_lesser 69 = .ok (.iload 6, 2) := by decide +kernel
theorem dX12_lesser_71 : decode cX12_lesser 71 = .ok (.invokestatic 35, 3) := by decide +kernel
theorem dX12_lesser_74 : decode cX12_lesser 74 = .ok (.iconst 2, 1) := by decide +kernel
theorem dX12_lesser_75 : decode cX12_lesser 75 = .ok (.iadd, 1) := by decide +kernel
theorem dX12_lesser_76 : decode cX12_lesser 76 = .ok (.iaload, 1) := by decide +kernel
theorem dX12_lesser_77 : decode cX12_lesser 77 = .ok (.goto 4, 3) := by decide +kernel
theorem dX12_lesser_80 : decode cX12_lesser 80 = .ok (.iconst 0, 1) := by decide +kernel
theorem dX12_lesser_81 : decode cX12_lesser 81 = .ok (.iadd, 1) := by decide +kernel
theorem dX12_lesser_82 : decode cX12_lesser 82 = .ok (.istore 5, 2) := by decide +kernel
theorem dX12_lesser_84 : decode cX12_lesser 84 = .ok (.iinc 6 1, 3) := by decide +kernel
theorem dX12_lesser_87 : decode cX12_lesser 87 = .ok (.goto (-46), 3) := by decide +kernel
theorem dX12_lesser_90 : decode cX12_lesser 90 = .ok (.aload_n 0, 1) := by decide +kernel
theorem dX12_lesser_91 : decode cX12_lesser 91 = .ok (.iload 4, 2) := by decide +kernel
theorem dX12_lesser_93 : decode cX12_lesser 93 = .ok (.invokevirtual 46, 3) := by decide +kernel
theorem dX12_lesser_96 : decode cX12_lesser 96 = .ok (.iload_n 1, 1) := by decide +kernel
theorem dX12_lesser_97 : decode cX12_lesser 97 = .ok (.if_icmp .gt 15, 3) := by decide +kernel
theorem dX12_lesser_100 : decode cX12_lesser 100 = .ok (.iload 5, 2) := by decide +kernel
theorem dX12_lesser_102 : decode cX12_lesser 102 = .ok (.iload_n 3, 1) := by decide +kernel
theorem dX12_lesser_103 : decode cX12_lesser 103 = .ok (.if_icmp .lt 9, 3) := by decide +kernel
theorem dX12_lesser_106 : decode cX12_lesser 106 = .ok (.iload 5, 2) := by decide +kernel
theorem dX12_lesser_108 : decode cX12_lesser 108 = .ok (.istore_n 3, 1) := by decide +kernel
theorem dX12_lesser_109 : decode cX12_lesser 109 = .ok (.iload 4, 2) := by decide +kernel
theorem dX12_lesser_111 : decode cX12_lesser 111 = .ok (.istore_n 2, 1) := by decide +kernel
theorem dX12_lesser_112 : decode cX12_lesser 112 = .ok (.iinc 4 1, 3) := by decide +kernel
theorem dX12_lesser_115 : decode cX12_lesser 115 = .ok (.goto (-93), 3) := by decide +kernel
theorem dX12_lesser_118 : decode cX12_lesser 118 = .ok (.iload_n 2, 1) := by decide +kernel
theorem dX12_lesser_119 : decode cX12_lesser 119 = .ok (.ireturn, 1) := by decide +kernel
theorem dX12_weights_0 : decode cX12_weights 0 = .ok (.iconst 0, 1) := by decide +kernel
theorem dX12_weights_1 : decode cX12_weights 1 = .ok (.istore_n 1, 1) := by decide +kernel
theorem dX12_weights_2 : decode cX12_weights 2 = .ok (.iconst 0, 1) := by decide +kernel
theorem dX12_weights_3 : decode cX12_weights 3 = .ok (.istore_n 2, 1) := by decide +kernel
theorem dX12_weights_4 : decode cX12_weights 4 = .ok (.iload_n 2, 1) := by decide +kernel
theorem dX12_weights_5 : decode cX12_weights 5 = .ok (.aload_n 0, 1) := by decide +kernel
theorem dX12_weights_6 : decode cX12_weights 6 = .ok (.getfield 7, 3) := by decide +kernel
theorem dX12_weights_9 : decode cX12_weights 9 = .ok (.iconst 2, 1) := by decide +kernel
theorem dX12_weights_10 : decode cX12_weights 10 = .ok (.iaload, 1) := by decide +kernel
theorem dX12_weights_11 : decode cX12_weights 11 = .ok (.if_icmp .ge 35, 3) := by decide +kernel
theorem dX12_weights_14 : decode cX12_weights 14 = .ok (.iload_n 1, 1) := by decide +kernel
theorem dX12_weights_15 : decode cX12_weights 15 = .ok (.aload_n 0, 1) := by decide +kernel
theorem dX12_weights_16 : decode cX12_weights 16 = .ok (.getfield 7, 3) := by decide +kernel
theorem dX12_weights_19 : decode cX12_weights 19 = .ok (.iload_n 2, 1) := by decide +kernel
theorem dX12_weights_20 : decode cX12_weights 20 = .ok (.invokestatic 35, 3) := by decide +kernel
theorem dX12_weights_23 : decode cX12_weights 23 = .ok (.iconst 2, 1) := by decide +kernel
theorem dX12_weights_24 : decode cX12_weights 24 = .ok (.iadd, 1) := by decide +kernel
theorem dX12_weights_25 : decode cX12_weights 25 = .ok (.iaload, 1) := by decide +kernel
theorem dX12_weights_26 : decode cX12_weights 26 = .ok (.aload_n 0, 1) := by decide +kernel
theorem dX12_weights_27 : decode cX12_weights 27 = .ok (.getfield 7, 3) := by decide +kernel
theorem dX12_weights_30 : decode cX12_weights 30 = .ok (.iload_n 2, 1) := by decide +kernel
theorem dX12_weights_31 : decode cX12_weights 31 = .ok (.invokestatic 35, 3) := by decide +kernel
theorem dX12_weights_34 : decode cX12_weights 34 = .ok (.iconst 1, 1) := by decide +kernel
theorem dX12_weights_35 : decode cX12_weights 35 = .ok (.iadd, 1) := by decide +kernel
theorem dX12_weights_36 : decode cX12_weights 36 = .ok (.iaload, 1) := by decide +kernel
theorem dX12_weights_37 : decode cX12_weights 37 = .ok (.imul, 1) := by decide +kernel
theorem dX12_weights_38 : decode cX12_weights 38 = .ok (.iadd, 1) := by decide +kernel
theorem dX12_weights_39 : decode cX12_weights 39 = .ok (.istore_n 1, 1) := by decide +kernel
theorem dX12_weights_40 : decode cX12_weights 40 = .ok (.iinc 2 1, 3) := by decide +kernel
theorem dX12_weights_43 : decode cX12_weights 43 = .ok (.goto (-39), 3) := by decide +kernel
theorem dX12_weights_46 : decode cX12_weights 46 = .ok (.iload_n 1, 1) := by decide +kernel
theorem dX12_weights_47 : decode cX12_weights 47 = .ok (.ireturn, 1) := by decide +kernel
theorem dX12_lostMany_0 : decode cX12_lostMany 0 = .ok (.iconst 0, 1) := by decide +kernel
theorem dX12_lostMany_1 : decode cX12_lostMany 1 = .ok (.istore_n 1, 1) := by decide +kernel
theorem dX12_lostMany_2 : decode cX12_lostMany 2 = .ok (.iconst 0, 1) := by decide +kernel
theorem dX12_lostMany_3 : decode cX12_lostMany 3 = .ok (.istore_n 2, 1) := by decide +kernel
theorem dX12_lostMany_4 : decode cX12_lostMany 4 = .ok (.iload_n 2, 1) := by decide +kernel
theorem dX12_lostMany_5 : decode cX12_lostMany 5 = .ok (.aload_n 0, 1) := by decide +kernel
theorem dX12_lostMany_6 : decode cX12_lostMany 6 = .ok (.getfield 7, 3) := by decide +kernel
theorem dX12_lostMany_9 : decode cX12_lostMany 9 = .ok (.bipush 94, 2) := by decide +kernel
theorem dX12_lostMany_11 : decode cX12_lostMany 11 = .ok (.iaload, 1) := by decide +kernel
theorem dX12_lostMany_12 : decode cX12_lostMany 12 = .ok (.if_icmp .ge 21, 3) := by decide +kernel
theorem dX12_lostMany_15 : decode cX12_lostMany 15 = .ok (.iload_n 1, 1) := by decide +kernel
theorem dX12_lostMany_16 : decode cX12_lostMany 16 = .ok (.aload_n 0, 1) := by decide +kernel
theorem dX12_lostMany_17 : decode cX12_lostMany 17 = .ok (.getfield 7, 3) := by decide +kernel
theorem dX12_lostMany_20 : decode cX12_lostMany 20 = .ok (.bipush 114, 2) := by decide +kernel
theorem dX12_lostMany_22 : decode cX12_lostMany 22 = .ok (.iload_n 2, 1) := by decide +kernel
theorem dX12_lostMany_23 : decode cX12_lostMany 23 = .ok (.iadd, 1) := by decide +kernel
theorem dX12_lostMany_24 : decode cX12_lostMany 24 = .ok (.iaload, 1) := by decide +kernel
theorem dX12_lostMany_25 : decode cX12_lostMany 25 = .ok (.iadd, 1) := by decide +kernel
theorem dX12_lostMany_26 : decode cX12_lostMany 26 = .ok (.istore_n 1, 1) := by decide +kernel
theorem dX12_lostMany_27 : decode cX12_lostMany 27 = .ok (.iinc 2 1, 3) := by decide +kernel
theorem dX12_lostMany_30 : decode cX12_lostMany 30 = .ok (.goto (-26), 3) := by decide +kernel
theorem dX12_lostMany_33 : decode cX12_lostMany 33 = .ok (.iload_n 1, 1) := by decide +kernel
theorem dX12_lostMany_34 : decode cX12_lostMany 34 = .ok (.ireturn, 1) := by decide +kernel
theorem dX12_inState_0 : decode cX12_inState 0 = .ok (.iconst 0, 1) := by decide +kernel
theorem dX12_inState_1 : decode cX12_inState 1 = .ok (.istore_n 2, 1) := by decide +kernel
theorem dX12_inState_2 : decode cX12_inState 2 = .ok (.iconst 0, 1) := by decide +kernel
theorem dX12_inState_3 : decode cX12_inState 3 = .ok (.istore_n 3, 1) := by decide +kernel
theorem dX12_inState_4 : decode cX12_inState 4 = .ok (.iload_n 3, 1) := by decide +kernel
theorem dX12_inState_5 : decode cX12_inState 5 = .ok (.aload_n 0, 1) := by decide +kernel
theorem dX12_inState_6 : decode cX12_inState 6 = .ok (.getfield 7, 3) := by decide +kernel
theorem dX12_inState_9 : decode cX12_inState 9 = .ok (.bipush 93, 2) := by decide +kernel
theorem dX12_inState_11 : decode cX12_inState 11 = .ok (.iaload, 1) := by decide +kernel
theorem dX12_inState_12 : decode cX12_inState 12 = .ok (.if_icmp .ge 26, 3) := by decide +kernel
theorem dX12_inState_15 : decode cX12_inState 15 = .ok (.iload_n 2, 1) := by decide +kernel
theorem dX12_inState_16 : decode cX12_inState 16 = .ok (.aload_n 0, 1) := by decide +kernel
theorem dX12_inState_17 : decode cX12_inState 17 = .ok (.iload_n 3, 1) := by decide +kernel
theorem dX12_inState_18 : decode cX12_inState 18 = .ok (.invokevirtual 190, 3) := by decide +kernel
theorem dX12_inState_21 : decode cX12_inState 21 = .ok (.iload_n 1, 1) := by decide +kernel
theorem dX12_inState_22 : decode cX12_inState 22 = .ok (.if_icmp .ne 7, 3) := by decide +kernel
theorem dX12_inState_25 : decode cX12_inState 25 = .ok (.iconst 1, 1) := by decide +kernel
theorem dX12_inState_26 : decode cX12_inState 26 = .ok (.goto 4, 3) := by decide +kernel
theorem dX12_inState_29 : decode cX12_inState 29 = .ok (.iconst 0, 1) := by decide +kernel
theorem dX12_inState_30 : decode cX12_inState 30 = .ok (.iadd, 1) := by decide +kernel
theorem dX12_inState_31 : decode cX12_inState 31 = .ok (.istore_n 2, 1) := by decide +kernel
theorem dX12_inState_32 : decode cX12_inState 32 = .ok (.iinc 3 1, 3) := by decide +kernel
theorem dX12_inState_35 : decode cX12_inState 35 = .ok (.goto (-31), 3) := by decide +kernel
theorem dX12_inState_38 : decode cX12_inState 38 = .ok (.iload_n 2, 1) := by decide +kernel
theorem dX12_inState_39 : decode cX12_inState 39 = .ok (.ireturn, 1) := by decide +kernel
theorem dX12_count_0 : decode cX12_count 0 = .ok (.iload_n 1, 1) := by decide +kernel
theorem dX12_count_1 : decode cX12_count 1 = .ok (.tableswitch 177 0 14 #[75, 82, 89, 96, 103, 116, 121, 126, 134, 142, 150, 155, 161, 167, 172], 75) := by decide +kernel
theorem dX12_count_76 : decode cX12_count 76 = .ok (.aload_n 0, 1) := by decide +kernel
theorem dX12_count_77 : decode cX12_count 77 = .ok (.getfield 7, 3) := by decide +kernel
theorem dX12_count_80 : decode cX12_count 80 = .ok (.iconst 2, 1) := by decide +kernel
theorem dX12_count_81 : decode cX12_count 81 = .ok (.iaload, 1) := by decide +kernel
theorem dX12_count_82 : decode cX12_count 82 = .ok (.ireturn, 1) := by decide +kernel
theorem dX12_count_83 : decode cX12_count 83 = .ok (.aload_n 0, 1) := by decide +kernel
theorem dX12_count_84 : decode cX12_count 84 = .ok (.getfield 7, 3) := by decide +kernel
theorem dX12_count_87 : decode cX12_count 87 = .ok (.iconst 0, 1) := by decide +kernel
theorem dX12_count_88 : decode cX12_count 88 = .ok (.iaload, 1) := by decide +kernel
theorem dX12_count_89 : decode cX12_count 89 = .ok (.ireturn, 1) := by decide +kernel
theorem dX12_count_90 : decode cX12_count 90 = .ok (.aload_n 0, 1) := by decide +kernel
theorem dX12_count_91 : decode cX12_count 91 = .ok (.getfield 7, 3) := by decide +kernel
theorem dX12_count_94 : decode cX12_count 94 = .ok (.iconst 1, 1) := by decide +kernel
theorem dX12_count_95 : decode cX12_count 95 = .ok (.iaload, 1) := by decide +kernel
theorem dX12_count_96 : decode cX12_count 96 = .ok (.ireturn, 1) := by decide +kernel
theorem dX12_count_97 : decode cX12_count 97 = .ok (.aload_n 0, 1) := by decide +kernel
theorem dX12_count_98 : decode cX12_count 98 = .ok (.bipush 63, 2) := by decide +kernel
theorem dX12_count_100 : decode cX12_count 100 = .ok (.invokevirtual 46, 3) := by decide +kernel
theorem dX12_count_103 : decode cX12_count 103 = .ok (.ireturn, 1) := by decide +kernel
theorem dX12_count_104 : decode cX12_count 104 = .ok (.aload_n 0, 1) := by decide +kernel
theorem dX12_count_105 : decode cX12_count 105 = .ok (.invokevirtual 136, 3) := by decide +kernel
theorem dX12_count_108 : decode cX12_count 108 = .ok (.ifCond .eq 7, 3) := by decide +kernel
theorem dX12_count_111 : decode cX12_count 111 = .ok (.iconst 1, 1) := by decide +kernel
theorem dX12_count_112 : decode cX12_count 112 = .ok (.goto 4, 3) := by decide +kernel
theorem dX12_count_115 : decode cX12_count 115 = .ok (.iconst 0, 1) := by decide +kernel
theorem dX12_count_116 : decode cX12_count 116 = .ok (.ireturn, 1) := by decide +kernel
theorem dX12_count_117 : decode cX12_count 117 = .ok (.aload_n 0, 1) := by decide +kernel
theorem dX12_count_118 : decode cX12_count 118 = .ok (.invokevirtual 206, 3) := by decide +kernel
theorem dX12_count_121 : decode cX12_count 121 = .ok (.ireturn, 1) := by decide +kernel
theorem dX12_count_122 : decode cX12_count 122 = .ok (.aload_n 0, 1) := by decide +kernel
theorem dX12_count_123 : decode cX12_count 123 = .ok (.invokevirtual 203, 3) := by decide +kernel
theorem dX12_count_126 : decode cX12_count 126 = .ok (.ireturn, 1) := by decide +kernel
theorem dX12_count_127 : decode cX12_count 127 = .ok (.aload_n 0, 1) := by decide +kernel
theorem dX12_count_128 : decode cX12_count 128 = .ok (.getfield 7, 3) := by decide +kernel
theorem dX12_count_131 : decode cX12_count 131 = .ok (.bipush 93, 2) := by decide +kernel
theorem dX12_count_133 : decode cX12_count 133 = .ok (.iaload, 1) := by decide +kernel
theorem dX12_count_134 : decode cX12_count 134 = .ok (.ireturn, 1) := by decide +kernel
theorem dX12_count_135 : decode cX12_count 135 = .ok (.aload_n 0, 1) := by decide +kernel
theorem dX12_count_136 : decode cX12_count 136 = .ok (.getfield 7, 3) := by decide +kernel
theorem dX12_count_139 : decode cX12_count 139 = .ok (.bipush 94, 2) := by decide +kernel
theorem dX12_count_141 : decode cX12_count 141 = .ok (.iaload, 1) := by decide +kernel
theorem dX12_count_142 : decode cX12_count 142 = .ok (.ireturn, 1) := by decide +kernel
theorem dX12_count_143 : decode cX12_count 143 = .ok (.aload_n 0, 1) := by decide +kernel
theorem dX12_count_144 : decode cX12_count 144 = .ok (.getfield 7, 3) := by decide +kernel
theorem dX12_count_147 : decode cX12_count 147 = .ok (.bipush 95, 2) := by decide +kernel
theorem dX12_count_149 : decode cX12_count 149 = .ok (.iaload, 1) := by decide +kernel
theorem dX12_count_150 : decode cX12_count 150 = .ok (.ireturn, 1) := by decide +kernel
theorem dX12_count_151 : decode cX12_count 151 = .ok (.aload_n 0, 1) := by decide +kernel
theorem dX12_count_152 : decode cX12_count 152 = .ok (.invokevirtual 209, 3) := by decide +kernel
theorem dX12_count_155 : decode cX12_count 155 = .ok (.ireturn, 1) := by decide +kernel
theorem dX12_count_156 : decode cX12_count 156 = .ok (.aload_n 0, 1) := by decide +kernel
theorem dX12_count_157 : decode cX12_count 157 = .ok (.iconst 0, 1) := by decide +kernel
theorem dX12_count_158 : decode cX12_count 158 = .ok (.invokevirtual 212, 3) := by decide +kernel
theorem dX12_count_161 : decode cX12_count 161 = .ok (.ireturn, 1) := by decide +kernel
theorem dX12_count_162 : decode cX12_count 162 = .ok (.aload_n 0, 1) := by decide +kernel
theorem dX12_count_163 : decode cX12_count 163 = .ok (.iconst 2, 1) := by decide +kernel
theorem dX12_count_164 : decode cX12_count 164 = .ok (.invokevirtual 212, 3) := by decide +kernel
theorem dX12_count_167 : decode cX12_count 167 = .ok (.ireturn, 1) := by decide +kernel
theorem dX12_count_168 : decode cX12_count 168 = .ok (.aload_n 0, 1) := by decide +kernel
theorem dX12_count_169 : decode cX12_count 169 = .ok (.getfield 108, 3) := by decide +kernel
theorem dX12_count_172 : decode cX12_count 172 = .ok (.ireturn, 1) := by decide +kernel
theorem dX12_count_173 : decode cX12_count 173 = .ok (.aload_n 0, 1) := by decide +kernel
theorem dX12_count_174 : decode cX12_count 174 = .ok (.getfield 51, 3) := by decide +kernel
theorem dX12_count_177 : decode cX12_count 177 = .ok (.ireturn, 1) := by decide +kernel
theorem dX12_count_178 : decode cX12_count 178 = .ok (.bipush (-3), 2) := by decide +kernel
theorem dX12_count_180 : decode cX12_count 180 = .ok (.ireturn, 1) := by decide +kernel
theorem dJ6_bitCount_0f7a4_0 : decode cJ6_bitCount_0f7a4 0 = .ok (.iload_n 0, 1) := by decide +kernel
theorem dJ6_bitCount_0f7a4_1 : decode cJ6_bitCount_0f7a4 1 = .ok (.iload_n 0, 1) := by decide +kernel
theorem dJ6_bitCount_0f7a4_2 : decode cJ6_bitCount_0f7a4 2 = .ok (.iconst 1, 1) := by decide +kernel
theorem dJ6_bitCount_0f7a4_3 : decode cJ6_bitCount_0f7a4 3 = .ok (.iushr, 1) := by decide +kernel
theorem dJ6_bitCount_0f7a4_4 : decode cJ6_bitCount_0f7a4 4 = .ok (.ldc_w 265, 3) := by decide +kernel
theorem dJ6_bitCount_0f7a4_7 : decode cJ6_bitCount_0f7a4 7 = .ok (.iand, 1) := by decide +kernel
theorem dJ6_bitCount_0f7a4_8 : decode cJ6_bitCount_0f7a4 8 = .ok (.isub, 1) := by decide +kernel
theorem dJ6_bitCount_0f7a4_9 : decode cJ6_bitCount_0f7a4 9 = .ok (.istore_n 0, 1) := by decide +kernel
theorem dJ6_bitCount_0f7a4_10 : decode cJ6_bitCount_0f7a4 10 = .ok (.iload_n 0, 1) := by decide +kernel
theorem dJ6_bitCount_0f7a4_11 : decode cJ6_bitCount_0f7a4 11 = .ok (.ldc_w 266, 3) := by decide +kernel
theorem dJ6_bitCount_0f7a4_14 : decode cJ6_bitCount_0f7a4 14 = .ok (.iand, 1) := by decide +kernel
theorem dJ6_bitCount_0f7a4_15 : decode cJ6_bitCount_0f7a4 15 = .ok (.iload_n 0, 1) := by decide +kernel
theorem dJ6_bitCount_0f7a4_16 : decode cJ6_bitCount_0f7a4 16 = .ok (.iconst 2, 1) := by decide +kernel
theorem dJ6_bitCount_0f7a4_17 : decode cJ6_bitCount_0f7a4 17 = .ok (.iushr, 1) := by decide +kernel
theorem dJ6_bitCount_0f7a4_18 : decode cJ6_bitCount_0f7a4 18 = .ok (.ldc_w 266, 3) := by decide +kernel
theorem dJ6_bitCount_0f7a4_21 : decode cJ6_bitCount_0f7a4 21 = .ok (.iand, 1) := by decide +kernel
theorem dJ6_bitCount_0f7a4_22 : decode cJ6_bitCount_0f7a4 22 = .ok (.iadd, 1) := by decide +kernel
theorem dJ6_bitCount_0f7a4_23 : decode cJ6_bitCount_0f7a4 23 = .ok (.istore_n 0, 1) := by decide +kernel
theorem dJ6_bitCount_0f7a4_24 : decode cJ6_bitCount_0f7a4 24 = .ok (.iload_n 0, 1) := by decide +kernel
theorem dJ6_bitCount_0f7a4_25 : decode cJ6_bitCount_0f7a4 25 = .ok (.iload_n 0, 1) := by decide +kernel
theorem dJ6_bitCount_0f7a4_26 : decode cJ6_bitCount_0f7a4 26 = .ok (.iconst 4, 1) := by decide +kernel
theorem dJ6_bitCount_0f7a4_27 : decode cJ6_bitCount_0f7a4 27 = .ok (.iushr, 1) := by decide +kernel
theorem dJ6_bitCount_0f7a4_28 : decode cJ6_bitCount_0f7a4 28 = .ok (.iadd, 1) := by decide +kernel
theorem dJ6_bitCount_0f7a4_29 : decode cJ6_bitCount_0f7a4 29 = .ok (.ldc_w 267, 3) := by decide +kernel
theorem dJ6_bitCount_0f7a4_32 : decode cJ6_bitCount_0f7a4 32 = .ok (.iand, 1) := by decide +kernel
theorem dJ6_bitCount_0f7a4_33 : decode cJ6_bitCount_0f7a4 33 = .ok (.istore_n 0, 1) := by decide +kernel
theorem dJ6_bitCount_0f7a4_34 : decode cJ6_bitCount_0f7a4 34 = .ok (.iload_n 0, 1) := by decide +kernel
theorem dJ6_bitCount_0f7a4_35 : decode cJ6_bitCount_0f7a4 35 = .ok (.iload_n 0, 1) := by decide +kernel
theorem dJ6_bitCount_0f7a4_36 : decode cJ6_bitCount_0f7a4 36 = .ok (.bipush 8, 2) := by decide +kernel
theorem dJ6_bitCount_0f7a4_38 : decode cJ6_bitCount_0f7a4 38 = .ok (.iushr, 1) := by decide +kernel
theorem dJ6_bitCount_0f7a4_39 : decode cJ6_bitCount_0f7a4 39 = .ok (.iadd, 1) := by decide +kernel
theorem dJ6_bitCount_0f7a4_40 : decode cJ6_bitCount_0f7a4 40 = .ok (.istore_n 0, 1) := by decide +kernel
theorem dJ6_bitCount_0f7a4_41 : decode cJ6_bitCount_0f7a4 41 = .ok (.iload_n 0, 1) := by decide +kernel
theorem dJ6_bitCount_0f7a4_42 : decode cJ6_bitCount_0f7a4 42 = .ok (.iload_n 0, 1) := by decide +kernel
theorem dJ6_bitCount_0f7a4_43 : decode cJ6_bitCount_0f7a4 43 = .ok (.bipush 16, 2) := by decide +kernel
theorem dJ6_bitCount_0f7a4_45 : decode cJ6_bitCount_0f7a4 45 = .ok (.iushr, 1) := by decide +kernel
theorem dJ6_bitCount_0f7a4_46 : decode cJ6_bitCount_0f7a4 46 = .ok (.iadd, 1) := by decide +kernel
theorem dJ6_bitCount_0f7a4_47 : decode cJ6_bitCount_0f7a4 47 = .ok (.istore_n 0, 1) := by decide +kernel
theorem dJ6_bitCount_0f7a4_48 : decode cJ6_bitCount_0f7a4 48 = .ok (.iload_n 0, 1) := by decide +kernel
theorem dJ6_bitCount_0f7a4_49 : decode cJ6_bitCount_0f7a4 49 = .ok (.bipush 63, 2) := by decide +kernel
theorem dJ6_bitCount_0f7a4_51 : decode cJ6_bitCount_0f7a4 51 = .ok (.iand, 1) := by decide +kernel
theorem dJ6_bitCount_0f7a4_52 : decode cJ6_bitCount_0f7a4 52 = .ok (.ireturn, 1) := by decide +kernel
theorem dJ9_floorMod_7cf53_0 : decode cJ9_floorMod_7cf53 0 = .ok (.iload_n 0, 1) := by decide +kernel
theorem dJ9_floorMod_7cf53_1 : decode cJ9_floorMod_7cf53 1 = .ok (.iload_n 1, 1) := by decide +kernel
theorem dJ9_floorMod_7cf53_2 : decode cJ9_floorMod_7cf53 2 = .ok (.irem, 1) := by decide +kernel
theorem dJ9_floorMod_7cf53_3 : decode cJ9_floorMod_7cf53 3 = .ok (.istore_n 2, 1) := by decide +kernel
theorem dJ9_floorMod_7cf53_4 : decode cJ9_floorMod_7cf53 4 = .ok (.iload_n 0, 1) := by decide +kernel
theorem dJ9_floorMod_7cf53_5 : decode cJ9_floorMod_7cf53 5 = .ok (.iload_n 1, 1) := by decide +kernel
theorem dJ9_floorMod_7cf53_6 : decode cJ9_floorMod_7cf53 6 = .ok (.ixor, 1) := by decide +kernel
theorem dJ9_floorMod_7cf53_7 : decode cJ9_floorMod_7cf53 7 = .ok (.ifCond .ge 11, 3) := by decide +kernel
theorem dJ9_floorMod_7cf53_10 : decode cJ9_floorMod_7cf53 10 = .ok (.iload_n 2, 1) := by decide +kernel
theorem dJ9_floorMod_7cf53_11 : decode cJ9_floorMod_7cf53 11 = .ok (.ifCond .eq 7, 3) := by decide +kernel
theorem dJ9_floorMod_7cf53_14 : decode cJ9_floorMod_7cf53 14 = .ok (.iload_n 2, 1) := by decide +kernel
theorem dJ9_floorMod_7cf53_15 : decode cJ9_floorMod_7cf53 15 = .ok (.iload_n 1, 1) := by decide +kernel
theorem dJ9_floorMod_7cf53_16 : decode cJ9_floorMod_7cf53 16 = .ok (.iadd, 1) := by decide +kernel
theorem dJ9_floorMod_7cf53_17 : decode cJ9_floorMod_7cf53 17 = .ok (.ireturn, 1) := by decide +kernel
theorem dJ9_floorMod_7cf53_18 : decode cJ9_floorMod_7cf53 18 = .ok (.iload_n 2, 1) := by decide +kernel
theorem dJ9_floorMod_7cf53_19 : decode cJ9_floorMod_7cf53 19 = .ok (.ireturn, 1) := by decide +kernel
theorem dJ9_max_7cf53_0 : decode cJ9_max_7cf53 0 = .ok (.iload_n 0, 1) := by decide +kernel
theorem dJ9_max_7cf53_1 : decode cJ9_max_7cf53 1 = .ok (.iload_n 1, 1) := by decide +kernel
theorem dJ9_max_7cf53_2 : decode cJ9_max_7cf53 2 = .ok (.if_icmp .lt 7, 3) := by decide +kernel
theorem dJ9_max_7cf53_5 : decode cJ9_max_7cf53 5 = .ok (.iload_n 0, 1) := by decide +kernel
theorem dJ9_max_7cf53_6 : decode cJ9_max_7cf53 6 = .ok (.goto 4, 3) := by decide +kernel
theorem dJ9_max_7cf53_9 : decode cJ9_max_7cf53 9 = .ok (.iload_n 1, 1) := by decide +kernel
theorem dJ9_max_7cf53_10 : decode cJ9_max_7cf53 10 = .ok (.ireturn, 1) := by decide +kernel
theorem dJ9_min_7cf53_0 : decode cJ9_min_7cf53 0 = .ok (.iload_n 0, 1) := by decide +kernel
theorem dJ9_min_7cf53_1 : decode cJ9_min_7cf53 1 = .ok (.iload_n 1, 1) := by decide +kernel
theorem dJ9_min_7cf53_2 : decode cJ9_min_7cf53 2 = .ok (.if_icmp .gt 7, 3) := by decide +kernel
theorem dJ9_min_7cf53_5 : decode cJ9_min_7cf53 5 = .ok (.iload_n 0, 1) := by decide +kernel
theorem dJ9_min_7cf53_6 : decode cJ9_min_7cf53 6 = .ok (.goto 4, 3) := by decide +kernel
theorem dJ9_min_7cf53_9 : decode cJ9_min_7cf53 9 = .ok (.iload_n 1, 1) := by decide +kernel
theorem dJ9_min_7cf53_10 : decode cJ9_min_7cf53 10 = .ok (.ireturn, 1) := by decide +kernel
theorem dJ0_length_8abf5_0 : decode cJ0_length_8abf5 0 = .ok (.aload_n 0, 1) := by decide +kernel
theorem dJ0_length_8abf5_1 : decode cJ0_length_8abf5 1 = .ok (.getfield 9, 3) := by decide +kernel
theorem dJ0_length_8abf5_4 : decode cJ0_length_8abf5 4 = .ok (.arraylength, 1) := by decide +kernel
theorem dJ0_length_8abf5_5 : decode cJ0_length_8abf5 5 = .ok (.aload_n 0, 1) := by decide +kernel
theorem dJ0_length_8abf5_6 : decode cJ0_length_8abf5 6 = .ok (.invokevirtual 335, 3) := by decide +kernel
theorem dJ0_length_8abf5_9 : decode cJ0_length_8abf5 9 = .ok (.ishr, 1) := by decide +kernel
theorem dJ0_length_8abf5_10 : decode cJ0_length_8abf5 10 = .ok (.ireturn, 1) := by decide +kernel
theorem dJ0_charAt_5068e_0 : decode cJ0_charAt_5068e 0 = .ok (.aload_n 0, 1) := by decide +kernel
theorem dJ0_charAt_5068e_1 : decode cJ0_charAt_5068e 1 = .ok (.invokevirtual 492, 3) := by decide +kernel
theorem dJ0_charAt_5068e_4 : decode cJ0_charAt_5068e 4 = .ok (.ifCond .eq 12, 3) := by decide +kernel
theorem dJ0_charAt_5068e_7 : decode cJ0_charAt_5068e 7 = .ok (.aload_n 0, 1) := by decide +kernel
theorem dJ0_charAt_5068e_8 : decode cJ0_charAt_5068e 8 = .ok (.getfield 9, 3) := by decide +kernel
theorem dJ0_charAt_5068e_11 : decode cJ0_charAt_5068e 11 = .ok (.iload_n 1, 1) := by decide +kernel
theorem dJ0_charAt_5068e_12 : decode cJ0_charAt_5068e 12 = .ok (.invokestatic 495, 3) := by decide +kernel
theorem dJ0_charAt_5068e_15 : decode cJ0_charAt_5068e 15 = .ok (.ireturn, 1) := by decide +kernel
theorem dJ0_charAt_5068e_16 : decode cJ0_charAt_5068e 16 = .ok (.aload_n 0, 1) := by decide +kernel
theorem dJ0_charAt_5068e_17 : decode cJ0_charAt_5068e 17 = .ok (.getfield 9, 3) := by decide +kernel
theorem dJ0_charAt_5068e_20 : decode cJ0_charAt_5068e 20 = .ok (.iload_n 1, 1) := by decide +kernel
theorem dJ0_charAt_5068e_21 : decode cJ0_charAt_5068e 21 = .ok (.invokestatic 498, 3) := by decide +kernel
theorem dJ0_charAt_5068e_24 : decode cJ0_charAt_5068e 24 = .ok (.ireturn, 1) := by decide +kernel
theorem dJ0_coder_7d493_0 : decode cJ0_coder_7d493 0 = .ok (.getstatic 38, 3) := by decide +kernel
theorem dJ0_coder_7d493_3 : decode cJ0_coder_7d493 3 = .ok (.ifCond .eq 10, 3) := by decide +kernel
theorem dJ0_coder_7d493_6 : decode cJ0_coder_7d493 6 = .ok (.aload_n 0, 1) := by decide +kernel
theorem dJ0_coder_7d493_7 : decode cJ0_coder_7d493 7 = .ok (.getfield 15, 3) := by decide +kernel
theorem dJ0_coder_7d493_10 : decode cJ0_coder_7d493 10 = .ok (.goto 4, 3) := by decide +kernel
theorem dJ0_coder_7d493_13 : decode cJ0_coder_7d493 13 = .ok (.iconst 1, 1) := by decide +kernel
theorem dJ0_coder_7d493_14 : decode cJ0_coder_7d493 14 = .ok (.ireturn, 1) := by decide +kernel
theorem dJ0_isLatin1_aae02_0 : decode cJ0_isLatin1_aae02 0 = .ok (.getstatic 38, 3) := by decide +kernel
theorem dJ0_isLatin1_aae02_3 : decode cJ0_isLatin1_aae02 3 = .ok (.ifCond .eq 14, 3) := by decide +kernel
theorem dJ0_isLatin1_aae02_6 : decode cJ0_isLatin1_aae02 6 = .ok (.aload_n 0, 1) := by decide +kernel
theorem dJ0_isLatin1_aae02_7 : decode cJ0_isLatin1_aae02 7 = .ok (.getfield 15, 3) := by decide +kernel
theorem dJ0_isLatin1_aae02_10 : decode cJ0_isLatin1_aae02 10 = .ok (.ifCond .ne 7, 3) := by decide +kernel
theorem dJ0_isLatin1_aae02_13 : decode cJ0_isLatin1_aae02 13 = .ok (.iconst 1, 1) := by decide +kernel
theorem dJ0_isLatin1_aae02_14 : decode cJ0_isLatin1_aae02 14 = .ok (.goto 4, 3) := by decide +kernel
theorem dJ0_isLatin1_aae02_17 : decode cJ0_isLatin1_aae02 17 = .ok (.iconst 0, 1) := by decide +kernel
theorem dJ0_isLatin1_aae02_18 : decode cJ0_isLatin1_aae02 18 = .ok (.ireturn, 1) := by decide +kernel
theorem dJ0_checkIndex_df160_0 : decode cJ0_checkIndex_df160 0 = .ok (.iload_n 0, 1) := by decide +kernel
theorem dJ0_checkIndex_df160_1 : decode cJ0_checkIndex_df160 1 = .ok (.iload_n 1, 1) := by decide +kernel
theorem dJ0_checkIndex_df160_2 : decode cJ0_checkIndex_df160 2 = .ok (.getstatic 1053, 3) := by decide +kernel
theorem dJ0_checkIndex_df160_5 : decode cJ0_checkIndex_df160 5 = .ok (.invokestatic 1059, 3) := by decide +kernel
theorem dJ0_checkIndex_df160_8 : decode cJ0_checkIndex_df160 8 = .ok (.pop, 1) := by decide +kernel
theorem dJ0_checkIndex_df160_9 : decode cJ0_checkIndex_df160 9 = .ok (.return_, 1) := by decide +kernel
theorem dJ1_charAt_3b067_0 : decode cJ1_charAt_3b067 0 = .ok (.iload_n 1, 1) := by decide +kernel
theorem dJ1_charAt_3b067_1 : decode cJ1_charAt_3b067 1 = .ok (.aload_n 0, 1) := by decide +kernel
theorem dJ1_charAt_3b067_2 : decode cJ1_charAt_3b067 2 = .ok (.arraylength, 1) := by decide +kernel
theorem dJ1_charAt_3b067_3 : decode cJ1_charAt_3b067 3 = .ok (.invokestatic 9, 3) := by decide +kernel
theorem dJ1_charAt_3b067_6 : decode cJ1_charAt_3b067 6 = .ok (.aload_n 0, 1) := by decide +kernel
theorem dJ1_charAt_3b067_7 : decode cJ1_charAt_3b067 7 = .ok (.iload_n 1, 1) := by decide +kernel
theorem dJ1_charAt_3b067_8 : decode cJ1_charAt_3b067 8 = .ok (.baload, 1) := by decide +kernel
theorem dJ1_charAt_3b067_9 : decode cJ1_charAt_3b067 9 = .ok (.sipush 255, 3) := by decide +kernel
theorem dJ1_charAt_3b067_12 : decode cJ1_charAt_3b067 12 = .ok (.iand, 1) := by decide +kernel
theorem dJ1_charAt_3b067_13 : decode cJ1_charAt_3b067 13 = .ok (.i2c, 1) := by decide +kernel
theorem dJ1_charAt_3b067_14 : decode cJ1_charAt_3b067 14 = .ok (.ireturn, 1) := by decide +kernel
theorem dJ2_getChar_3b067_0 : decode cJ2_getChar_3b067 0 = .ok (.getstatic 44, 3) := by decide +kernel
theorem dJ2_getChar_3b067_3 : decode cJ2_getChar_3b067 3 = .ok (.ifCond .ne 25, 3) := by decide +kernel
theorem dJ2_getChar_3b067_6 : decode cJ2_getChar_3b067 6 = .ok (.iload_n 1, 1) := by decide +kernel
theorem dJ2_getChar_3b067_7 : decode cJ2_getChar_3b067 7 = .ok (.ifCond .lt 11, 3) := by decide +kernel
theorem dJ2_getChar_3b067_10 : decode cJ2_getChar_3b067 10 = .ok (.iload_n 1, 1) := by decide +kernel
theorem dJ2_getChar_3b067_11 : decode cJ2_getChar_3b067 11 = .ok (.aload_n 0, 1) := by decide +kernel
theorem dJ2_getChar_3b067_12 : decode cJ2_getChar_3b067 12 = .ok (.invokestatic 48, 3) := by decide +kernel
theorem dJ2_getChar_3b067_15 : decode cJ2_getChar_3b067 15 = .ok (.if_icmp .lt 13, 3) := by decide +kernel
theorem dJ2_getChar_3b067_18 : decode cJ2_getChar_3b067 18 = .ok (.new 52, 3) := by decide +kernel
theorem dJ2_getChar_3b067_21 : decode cJ2_getChar_3b067 21 = .ok (.dup, 1) := by decide +kernel
theorem dJ2_getChar_3b067_22 : decode cJ2_getChar_3b067 22 = .ok (.ldc 54, 2) := by decide +kernel
theorem dJ2_getChar_3b067_24 : decode cJ2_getChar_3b067 24 = .ok (.invokespecial 56, 3) := by decide +kernel
theorem dJ2_getChar_3b067_27 : decode cJ2_getChar_3b067 27 = .ok (.athrow, 1) := by decide +kernel
theorem dJ2_getChar_3b067_28 : decode cJ2_getChar_3b067 28 = .ok (.iload_n 1, 1) := by decide +kernel
theorem dJ2_getChar_3b067_29 : decode cJ2_getChar_3b067 29 = .ok (.iconst 1, 1) := by decide +kernel
theorem dJ2_getChar_3b067_30 : decode cJ2_getChar_3b067 30 = .ok (.ishl, 1) := by decide +kernel
theorem dJ2_getChar_3b067_31 : decode cJ2_getChar_3b067 31 = .ok (.istore_n 1, 1) := by decide +kernel
theorem dJ2_getChar_3b067_32 : decode cJ2_getChar_3b067 32 = .ok (.aload_n 0, 1) := by decide +kernel
theorem dJ2_getChar_3b067_33 : decode cJ2_getChar_3b067 33 = .ok (.iload_n 1, 1) := by decide +kernel
theorem dJ2_getChar_3b067_34 : decode cJ2_getChar_3b067 34 = .ok (.iinc 1 1, 3) := by decide +kernel
theorem dJ2_getChar_3b067_37 : decode cJ2_getChar_3b067 37 = .ok (.baload, 1) := by decide +kernel
theorem dJ2_getChar_3b067_38 : decode cJ2_getChar_3b067 38 = .ok (.sipush 255, 3) := by decide +kernel
theorem dJ2_getChar_3b067_41 : decode cJ2_getChar_3b067 41 = .ok (.iand, 1) := by decide +kernel
theorem dJ2_getChar_3b067_42 : decode cJ2_getChar_3b067 42 = .ok (.getstatic 59, 3) := by decide +kernel
theorem dJ2_getChar_3b067_45 : decode cJ2_getChar_3b067 45 = .ok (.ishl, 1) := by decide +kernel
theorem dJ2_getChar_3b067_46 : decode cJ2_getChar_3b067 46 = .ok (.aload_n 0, 1) := by decide +kernel
theorem dJ2_getChar_3b067_47 : decode cJ2_getChar_3b067 47 = .ok (.iload_n 1, 1) := by decide +kernel
theorem dJ2_getChar_3b067_48 : decode cJ2_getChar_3b067 48 = .ok (.baload, 1) := by decide +kernel
theorem dJ2_getChar_3b067_49 : decode cJ2_getChar_3b067 49 = .ok (.sipush 255, 3) := by decide +kernel
theorem dJ2_getChar_3b067_52 : decode cJ2_getChar_3b067 52 = .ok (.iand, 1) := by decide +kernel
theorem dJ2_getChar_3b067_53 : decode cJ2_getChar_3b067 53 = .ok (.getstatic 63, 3) := by decide +kernel
theorem dJ2_getChar_3b067_56 : decode cJ2_getChar_3b067 56 = .ok (.ishl, 1) := by decide +kernel
theorem dJ2_getChar_3b067_57 : decode cJ2_getChar_3b067 57 = .ok (.ior, 1) := by decide +kernel
theorem dJ2_getChar_3b067_58 : decode cJ2_getChar_3b067 58 = .ok (.i2c, 1) := by decide +kernel
theorem dJ2_getChar_3b067_59 : decode cJ2_getChar_3b067 59 = .ok (.ireturn, 1) := by decide +kernel
theorem dJ2_length_9d52b_0 : decode cJ2_length_9d52b 0 = .ok (.aload_n 0, 1) := by decide +kernel
theorem dJ2_length_9d52b_1 : decode cJ2_length_9d52b 1 = .ok (.arraylength, 1) := by decide +kernel
theorem dJ2_length_9d52b_2 : decode cJ2_length_9d52b 2 = .ok (.iconst 1, 1) := by decide +kernel
theorem dJ2_length_9d52b_3 : decode cJ2_length_9d52b 3 = .ok (.ishr, 1) := by decide +kernel
theorem dJ2_length_9d52b_4 : decode cJ2_length_9d52b 4 = .ok (.ireturn, 1) := by decide +kernel
theorem dJ2_charAt_3b067_0 : decode cJ2_charAt_3b067 0 = .ok (.iload_n 1, 1) := by decide +kernel
theorem dJ2_charAt_3b067_1 : decode cJ2_charAt_3b067 1 = .ok (.aload_n 0, 1) := by decide +kernel
theorem dJ2_charAt_3b067_2 : decode cJ2_charAt_3b067 2 = .ok (.invokestatic 67, 3) := by decide +kernel
theorem dJ2_charAt_3b067_5 : decode cJ2_charAt_3b067 5 = .ok (.aload_n 0, 1) := by decide +kernel
theorem dJ2_charAt_3b067_6 : decode cJ2_charAt_3b067 6 = .ok (.iload_n 1, 1) := by decide +kernel
theorem dJ2_charAt_3b067_7 : decode cJ2_charAt_3b067 7 = .ok (.invokestatic 71, 3) := by decide +kernel
theorem dJ2_charAt_3b067_10 : decode cJ2_charAt_3b067 10 = .ok (.ireturn, 1) := by decide +kernel
theorem dJ2_checkIndex_2214a_0 : decode cJ2_checkIndex_2214a 0 = .ok (.iload_n 0, 1) := by decide +kernel
theorem dJ2_checkIndex_2214a_1 : decode cJ2_checkIndex_2214a 1 = .ok (.aload_n 1, 1) := by decide +kernel
theorem dJ2_checkIndex_2214a_2 : decode cJ2_checkIndex_2214a 2 = .ok (.invokestatic 48, 3) := by decide +kernel
theorem dJ2_checkIndex_2214a_5 : decode cJ2_checkIndex_2214a 5 = .ok (.invokestatic 414, 3) := by decide +kernel
theorem dJ2_checkIndex_2214a_8 : decode cJ2_checkIndex_2214a 8 = .ok (.return_, 1) := by decide +kernel
theorem dJ3_checkIndex_8e157_0 : decode cJ3_checkIndex_8e157 0 = .ok (.iload_n 0, 1) := by decide +kernel
theorem dJ3_checkIndex_8e157_1 : decode cJ3_checkIndex_8e157 1 = .ok (.ifCond .lt 8, 3) := by decide +kernel
theorem dJ3_checkIndex_8e157_4 : decode cJ3_checkIndex_8e157 4 = .ok (.iload_n 0, 1) := by decide +kernel
theorem dJ3_checkIndex_8e157_5 : decode cJ3_checkIndex_8e157 5 = .ok (.iload_n 1, 1) := by decide +kernel
theorem dJ3_checkIndex_8e157_6 : decode cJ3_checkIndex_8e157 6 = .ok (.if_icmp .lt 10, 3) := by decide +kernel
theorem dJ3_checkIndex_8e157_9 : decode cJ3_checkIndex_8e157 9 = .ok (.aload_n 2, 1) := by decide +kernel
theorem dJ3_checkIndex_8e157_10 : decode cJ3_checkIndex_8e157 10 = .ok (.iload_n 0, 1) := by decide +kernel
theorem dJ3_checkIndex_8e157_11 : decode cJ3_checkIndex_8e157 11 = .ok (.iload_n 1, 1) := by decide +kernel
theorem dJ3_checkIndex_8e157_12 : decode cJ3_checkIndex_8e157 12 = .ok (.invokestatic 95, 3) := by decide +kernel
theorem dJ3_checkIndex_8e157_15 : decode cJ3_checkIndex_8e157 15 = .ok (.athrow, 1) := by decide +kernel
theorem dJ3_checkIndex_8e157_16 : decode cJ3_checkIndex_8e157 16 = .ok (.iload_n 0, 1) := by decide +kernel
theorem dJ3_checkIndex_8e157_17 : decode cJ3_checkIndex_8e157 17 = .ok (.ireturn, 1) := by decide +kernel
theorem dL_law_0 : decode cL_law 0 = .ok (.new 7, 3) := by decide +kernel
theorem dL_law_3 : decode cL_law 3 = .ok (.dup, 1) := by decide +kernel
theorem dL_law_4 : decode cL_law 4 = .ok (.invokespecial 9, 3) := by decide +kernel
theorem dL_law_7 : decode cL_law 7 = .ok (.astore_n 1, 1) := by decide +kernel
theorem dL_law_8 : decode cL_law 8 = .ok (.new 10, 3) := by decide +kernel
theorem dL_law_11 : decode cL_law 11 = .ok (.dup, 1) := by decide +kernel
theorem dL_law_12 : decode cL_law 12 = .ok (.invokespecial 12, 3) := by decide +kernel
theorem dL_law_15 : decode cL_law 15 = .ok (.astore_n 2, 1) := by decide +kernel
theorem dL_law_16 : decode cL_law 16 = .ok (.iconst 0, 1) := by decide +kernel
theorem dL_law_17 : decode cL_law 17 = .ok (.istore_n 3, 1) := by decide +kernel
theorem dL_law_18 : decode cL_law 18 = .ok (.iload_n 3, 1) := by decide +kernel
theorem dL_law_19 : decode cL_law 19 = .ok (.aload_n 0, 1) := by decide +kernel
theorem dL_law_20 : decode cL_law 20 = .ok (.arraylength, 1) := by decide +kernel
theorem dL_law_21 : decode cL_law 21 = .ok (.iconst 4, 1) := by decide +kernel
theorem dL_law_22 : decode cL_law 22 = .ok (.isub, 1) := by decide +kernel
theorem dL_law_23 : decode cL_law 23 = .ok (.if_icmp .gt 793, 3) := by decide +kernel
theorem dL_law_26 : decode cL_law 26 = .ok (.aload_n 0, 1) := by decide +kernel
theorem dL_law_27 : decode cL_law 27 = .ok (.iload_n 3, 1) := by decide +kernel
theorem dL_law_28 : decode cL_law 28 = .ok (.iaload, 1) := by decide +kernel
theorem dL_law_29 : decode cL_law 29 = .ok (.bipush 31, 2) := by decide +kernel
theorem dL_law_31 : decode cL_law 31 = .ok (.iand, 1) := by decide +kernel
theorem dL_law_32 : decode cL_law 32 = .ok (.tableswitch 778 0 25 #[120, 143, 156, 169, 182, 215, 248, 271, 294, 327, 360, 383, 396, 419, 452, 495, 518, 531, 564, 597, 630, 663, 686, 709, 732, 755], 120) := by decide +kernel
theorem dL_law_152 : decode cL_law 152 = .ok (.aload_n 1, 1) := by decide +kernel
theorem dL_law_153 : decode cL_law 153 = .ok (.aload_n 0, 1) := by decide +kernel
theorem dL_law_154 : decode cL_law 154 = .ok (.iload_n 3, 1) := by decide +kernel
theorem dL_law_155 : decode cL_law 155 = .ok (.iconst 1, 1) := by decide +kernel
theorem dL_law_156 : decode cL_law 156 = .ok (.iadd, 1) := by decide +kernel
theorem dL_law_157 : decode cL_law 157 = .ok (.iaload, 1) := by decide +kernel
theorem dL_law_158 : decode cL_law 158 = .ok (.invokevirtual 13, 3) := by decide +kernel
theorem dL_law_161 : decode cL_law 161 = .ok (.aload_n 2, 1) := by decide +kernel
theorem dL_law_162 : decode cL_law 162 = .ok (.aload_n 0, 1) := by decide +kernel
theorem dL_law_163 : decode cL_law 163 = .ok (.iload_n 3, 1) := by decide +kernel
theorem dL_law_164 : decode cL_law 164 = .ok (.iconst 1, 1) := by decide +kernel
theorem dL_law_165 : decode cL_law 165 = .ok (.iadd, 1) := by decide +kernel
theorem dL_law_166 : decode cL_law 166 = .ok (.iaload, 1) := by decide +kernel
theorem dL_law_167 : decode cL_law 167 = .ok (.invokevirtual 17, 3) := by decide +kernel
theorem dL_law_170 : decode cL_law 170 = .ok (.if_icmp .eq 640, 3) := by decide +kernel
theorem dL_law_173 : decode cL_law 173 = .ok (.iconst 0, 1) := by decide +kernel
theorem dL_law_174 : decode cL_law 174 = .ok (.ireturn, 1) := by decide +kernel
theorem dL_law_175 : decode cL_law 175 = .ok (.aload_n 1, 1) := by decide +kernel
theorem dL_law_176 : decode cL_law 176 = .ok (.invokevirtual 18, 3) := by decide +kernel
theorem dL_law_179 : decode cL_law 179 = .ok (.aload_n 2, 1) := by decide +kernel
theorem dL_law_180 : decode cL_law 180 = .ok (.invokevirtual 22, 3) := by decide +kernel
theorem dL_law_183 : decode cL_law 183 = .ok (.if_icmp .eq 627, 3) := by decide +kernel
theorem dL_law_186 : decode cL_law 186 = .ok (.iconst 0, 1) := by decide +kernel
theorem dL_law_187 : decode cL_law 187 = .ok (.ireturn, 1) := by decide +kernel
theorem dL_law_188 : decode cL_law 188 = .ok (.aload_n 1, 1) := by decide +kernel
theorem dL_law_189 : decode cL_law 189 = .ok (.invokevirtual 23, 3) := by decide +kernel
theorem dL_law_192 : decode cL_law 192 = .ok (.aload_n 2, 1) := by decide +kernel
theorem dL_law_193 : decode cL_law 193 = .ok (.invokevirtual 26, 3) := by decide +kernel
theorem dL_law_196 : decode cL_law 196 = .ok (.if_icmp .eq 614, 3) := by decide +kernel
theorem dL_law_199 : decode cL_law 199 = .ok (.iconst 0, 1) := by decide +kernel
theorem dL_law_200 : decode cL_law 200 = .ok (.ireturn, 1) := by decide +kernel
theorem dL_law_201 : decode cL_law 201 = .ok (.aload_n 1, 1) := by decide +kernel
theorem dL_law_202 : decode cL_law 202 = .ok (.invokevirtual 27, 3) := by decide +kernel
theorem dL_law_205 : decode cL_law 205 = .ok (.aload_n 2, 1) := by decide +kernel
theorem dL_law_206 : decode cL_law 206 = .ok (.invokevirtual 30, 3) := by decide +kernel
theorem dL_law_209 : decode cL_law 209 = .ok (.if_icmp .eq 601, 3) := by decide +kernel
theorem dL_law_212 : decode cL_law 212 = .ok (.iconst 0, 1) := by decide +kernel
theorem dL_law_213 : decode cL_law 213 = .ok (.ireturn, 1) := by decide +kernel
theorem dL_law_214 : decode cL_law 214 = .ok (.aload_n 1, 1) := by decide +kernel
theorem dL_law_215 : decode cL_law 215 = .ok (.aload_n 0, 1) := by decide +kernel
theorem dL_law_216 : decode cL_law 216 = .ok (.iload_n 3, 1) := by decide +kernel
theorem dL_law_217 : decode cL_law 217 = .ok (.iconst 1, 1) := by decide +kernel
theorem dL_law_218 : decode cL_law 218 = .ok (.iadd, 1) := by decide +kernel
theorem dL_law_219 : decode cL_law 219 = .ok (.iaload, 1) := by decide +kernel
theorem dL_law_220 : decode cL_law 220 = .ok (.aload_n 0, 1) := by decide +kernel
theorem dL_law_221 : decode cL_law 221 = .ok (.iload_n 3, 1) := by decide +kernel
theorem dL_law_222 : decode cL_law 222 = .ok (.iconst 2, 1) := by decide +kernel
theorem dL_law_223 : decode cL_law 223 = .ok (.iadd, 1) := by decide +kernel
theorem dL_law_224 : decode cL_law 224 = .ok (.iaload, 1) := by decide +kernel
theorem dL_law_225 : decode cL_law 225 = .ok (.invokevirtual 31, 3) := by decide +kernel
theorem dL_law_228 : decode cL_law 228 = .ok (.aload_n 2, 1) := by decide +kernel
theorem dL_law_229 : decode cL_law 229 = .ok (.aload_n 0, 1) := by decide +kernel
theorem dL_law_230 : decode cL_law 230 = .ok (.iload_n 3, 1) := by decide +kernel
theorem dL_law_231 : decode cL_law 231 = .ok (.iconst 1, 1) := by decide +kernel
theorem dL_law_232 : decode cL_law 232 = .ok (.iadd, 1) := by decide +kernel
theorem dL_law_233 : decode cL_law 233 = .ok (.iaload, 1) := by decide +kernel
theorem dL_law_234 : decode cL_law 234 = .ok (.aload_n 0, 1) := by decide +kernel
theorem dL_law_235 : decode cL_law 235 = .ok (.iload_n 3, 1) := by decide +kernel
theorem dL_law_236 : decode cL_law 236 = .ok (.iconst 2, 1) := by decide +kernel
theorem dL_law_237 : decode cL_law 237 = .ok (.iadd, 1) := by decide +kernel
theorem dL_law_238 : decode cL_law 238 = .ok (.iaload, 1) := by decide +kernel
theorem dL_law_239 : decode cL_law 239 = .ok (.invokevirtual 35, 3) := by decide +kernel
theorem dL_law_242 : decode cL_law 242 = .ok (.if_icmp .eq 568, 3) := by decide +kernel
theorem dL_law_245 : decode cL_law 245 = .ok (.iconst 0, 1) := by decide +kernel
theorem dL_law_246 : decode cL_law 246 = .ok (.ireturn, 1) := by decide +kernel
theorem dL_law_247 : decode cL_law 247 = .ok (.aload_n 1, 1) := by decide +kernel
theorem dL_law_248 : decode cL_law 248 = .ok (.aload_n 0, 1) := by decide +kernel
theorem dL_law_249 : decode cL_law 249 = .ok (.iload_n 3, 1) := by decide +kernel
theorem dL_law_250 : decode cL_law 250 = .ok (.iconst 1, 1) := by decide +kernel
theorem dL_law_251 : decode cL_law 251 = .ok (.iadd, 1) := by decide +kernel
theorem dL_law_252 : decode cL_law 252 = .ok (.iaload, 1) := by decide +kernel
theorem dL_law_253 : decode cL_law 253 = .ok (.aload_n 0, 1) := by decide +kernel
theorem dL_law_254 : decode cL_law 254 = .ok (.iload_n 3, 1) := by decide +kernel
theorem dL_law_255 : decode cL_law 255 = .ok (.iconst 2, 1) := by decide +kernel
theorem dL_law_256 : decode cL_law 256 = .ok (.iadd, 1) := by decide +kernel
theorem dL_law_257 : decode cL_law 257 = .ok (.iaload, 1) := by decide +kernel
theorem dL_law_258 : decode cL_law 258 = .ok (.invokevirtual 36, 3) := by decide +kernel
theorem dL_law_261 : decode cL_law 261 = .ok (.aload_n 2, 1) := by decide +kernel
theorem dL_law_262 : decode cL_law 262 = .ok (.aload_n 0, 1) := by decide +kernel
theorem dL_law_263 : decode cL_law 263 = .ok (.iload_n 3, 1) := by decide +kernel
theorem dL_law_264 : decode cL_law 264 = .ok (.iconst 1, 1) := by decide +kernel
theorem dL_law_265 : decode cL_law 265 = .ok (.iadd, 1) := by decide +kernel
theorem dL_law_266 : decode cL_law 266 = .ok (.iaload, 1) := by decide +kernel
theorem dL_law_267 : decode cL_law 267 = .ok (.aload_n 0, 1) := by decide +kernel
theorem dL_law_268 : decode cL_law 268 = .ok (.iload_n 3, 1) := by decide +kernel
theorem dL_law_269 : decode cL_law 269 = .ok (.iconst 2, 1) := by decide +kernel
theorem dL_law_270 : decode cL_law 270 = .ok (.iadd, 1) := by decide +kernel
theorem dL_law_271 : decode cL_law 271 = .ok (.iaload, 1) := by decide +kernel
theorem dL_law_272 : decode cL_law 272 = .ok (.invokevirtual 39, 3) := by decide +kernel
theorem dL_law_275 : decode cL_law 275 = .ok (.if_icmp .eq 535, 3) := by decide +kernel
theorem dL_law_278 : decode cL_law 278 = .ok (.iconst 0, 1) := by decide +kernel
theorem dL_law_279 : decode cL_law 279 = .ok (.ireturn, 1) := by decide +kernel
theorem dL_law_280 : decode cL_law 280 = .ok (.aload_n 1, 1) := by decide +kernel
theorem dL_law_281 : decode cL_law 281 = .ok (.aload_n 0, 1) := by decide +kernel
theorem dL_law_282 : decode cL_law 282 = .ok (.iload_n 3, 1) := by decide +kernel
theorem dL_law_283 : decode cL_law 283 = .ok (.iconst 1, 1) := by decide +kernel
theorem dL_law_284 : decode cL_law 284 = .ok (.iadd, 1) := by decide +kernel
theorem dL_law_285 : decode cL_law 285 = .ok (.iaload, 1) := by decide +kernel
theorem dL_law_286 : decode cL_law 286 = .ok (.invokevirtual 40, 3) := by decide +kernel
theorem dL_law_289 : decode cL_law 289 = .ok (.aload_n 2, 1) := by decide +kernel
theorem dL_law_290 : decode cL_law 290 = .ok (.aload_n 0, 1) := by decide +kernel
theorem dL_law_291 : decode cL_law 291 = .ok (.iload_n 3, 1) := by decide +kernel
theorem dL_law_292 : decode cL_law 292 = .ok (.iconst 1, 1) := by decide +kernel
theorem dL_law_293 : decode cL_law 293 = .ok (.iadd, 1) := by decide +kernel
theorem dL_law_294 : decode cL_law 294 = .ok (.iaload, 1) := by decide +kernel
theorem dL_law_295 : decode cL_law 295 = .ok (.invokevirtual 43, 3) := by decide +kernel
theorem dL_law_298 : decode cL_law 298 = .ok (.if_icmp .eq 512, 3) := by decide +kernel
theorem dL_law_301 : decode cL_law 301 = .ok (.iconst 0, 1) := by decide +kernel
theorem dL_law_302 : decode cL_law 302 = .ok (.ireturn, 1) := by decide +kernel
theorem dL_law_303 : decode cL_law 303 = .ok (.aload_n 1, 1) := by decide +kernel
theorem dL_law_304 : decode cL_law 304 = .ok (.aload_n 0, 1) := by decide +kernel
theorem dL_law_305 : decode cL_law 305 = .ok (.iload_n 3, 1) := by decide +kernel
theorem dL_law_306 : decode cL_law 306 = .ok (.iconst 1, 1) := by decide +kernel
theorem dL_law_307 : decode cL_law 307 = .ok (.iadd, 1) := by decide +kernel
theorem dL_law_308 : decode cL_law 308 = .ok (.iaload, 1) := by decide +kernel
theorem dL_law_309 : decode cL_law 309 = .ok (.invokevirtual 44, 3) := by decide +kernel
theorem dL_law_312 : decode cL_law 312 = .ok (.aload_n 2, 1) := by decide +kernel
theorem dL_law_313 : decode cL_law 313 = .ok (.aload_n 0, 1) := by decide +kernel
theorem dL_law_314 : decode cL_law 314 = .ok (.iload_n 3, 1) := by decide +kernel
theorem dL_law_315 : decode cL_law 315 = .ok (.iconst 1, 1) := by decide +kernel
theorem dL_law_316 : decode cL_law 316 = .ok (.iadd, 1) := by decide +kernel
theorem dL_law_317 : decode cL_law 317 = .ok (.iaload, 1) := by decide +kernel
theorem dL_law_318 : decode cL_law 318 = .ok (.invokevirtual 47, 3) := by decide +kernel
theorem dL_law_321 : decode cL_law 321 = .ok (.if_icmp .eq 489, 3) := by decide +kernel
theorem dL_law_324 : decode cL_law 324 = .ok (.iconst 0, 1) := by decide +kernel
theorem dL_law_325 : decode cL_law 325 = .ok (.ireturn, 1) := by decide +kernel
theorem dL_law_326 : decode cL_law 326 = .ok (.aload_n 1, 1) := by decide +kernel
theorem dL_law_327 : decode cL_law 327 = .ok (.aload_n 0, 1) := by decide +kernel
theorem dL_law_328 : decode cL_law 328 = .ok (.iload_n 3, 1) := by decide +kernel
theorem dL_law_329 : decode cL_law 329 = .ok (.iconst 1, 1) := by decide +kernel
theorem dL_law_330 : decode cL_law 330 = .ok (.iadd, 1) := by decide +kernel
theorem dL_law_331 : decode cL_law 331 = .ok (.iaload, 1) := by decide +kernel
theorem dL_law_332 : decode cL_law 332 = .ok (.aload_n 0, 1) := by decide +kernel
theorem dL_law_333 : decode cL_law 333 = .ok (.iload_n 3, 1) := by decide +kernel
theorem dL_law_334 : decode cL_law 334 = .ok (.iconst 2, 1) := by decide +kernel
theorem dL_law_335 : decode cL_law 335 = .ok (.iadd, 1) := by decide +kernel
theorem dL_law_336 : decode cL_law 336 = .ok (.iaload, 1) := by decide +kernel
theorem dL_law_337 : decode cL_law 337 = .ok (.invokevirtual 48, 3) := by decide +kernel
theorem dL_law_340 : decode cL_law 340 = .ok (.aload_n 2, 1) := by decide +kernel
theorem dL_law_341 : decode cL_law 341 = .ok (.aload_n 0, 1) := by decide +kernel
theorem dL_law_342 : decode cL_law 342 = .ok (.iload_n 3, 1) := by decide +kernel
theorem dL_law_343 : decode cL_law 343 = .ok (.iconst 1, 1) := by decide +kernel
theorem dL_law_344 : decode cL_law 344 = .ok (.iadd, 1) := by decide +kernel
theorem dL_law_345 : decode cL_law 345 = .ok (.iaload, 1) := by decide +kernel
theorem dL_law_346 : decode cL_law 346 = .ok (.aload_n 0, 1) := by decide +kernel
theorem dL_law_347 : decode cL_law 347 = .ok (.iload_n 3, 1) := by decide +kernel
theorem dL_law_348 : decode cL_law 348 = .ok (.iconst 2, 1) := by decide +kernel
theorem dL_law_349 : decode cL_law 349 = .ok (.iadd, 1) := by decide +kernel
theorem dL_law_350 : decode cL_law 350 = .ok (.iaload, 1) := by decide +kernel
theorem dL_law_351 : decode cL_law 351 = .ok (.invokevirtual 51, 3) := by decide +kernel
theorem dL_law_354 : decode cL_law 354 = .ok (.if_icmp .eq 456, 3) := by decide +kernel
theorem dL_law_357 : decode cL_law 357 = .ok (.iconst 0, 1) := by decide +kernel
theorem dL_law_358 : decode cL_law 358 = .ok (.ireturn, 1) := by decide +kernel
theorem dL_law_359 : decode cL_law 359 = .ok (.aload_n 1, 1) := by decide +kernel
theorem dL_law_360 : decode cL_law 360 = .ok (.aload_n 0, 1) := by decide +kernel
theorem dL_law_361 : decode cL_law 361 = .ok (.iload_n 3, 1) := by decide +kernel
theorem dL_law_362 : decode cL_law 362 = .ok (.iconst 1, 1) := by decide +kernel
theorem dL_law_363 : decode cL_law 363 = .ok (.iadd, 1) := by decide +kernel
theorem dL_law_364 : decode cL_law 364 = .ok (.iaload, 1) := by decide +kernel
theorem dL_law_365 : decode cL_law 365 = .ok (.aload_n 0, 1) := by decide +kernel
theorem dL_law_366 : decode cL_law 366 = .ok (.iload_n 3, 1) := by decide +kernel
theorem dL_law_367 : decode cL_law 367 = .ok (.iconst 2, 1) := by decide +kernel
theorem dL_law_368 : decode cL_law 368 = .ok (.iadd, 1) := by decide +kernel
theorem dL_law_369 : decode cL_law 369 = .ok (.iaload, 1) := by decide +kernel
theorem dL_law_370 : decode cL_law 370 = .ok (.invokevirtual 52, 3) := by decide +kernel
theorem dL_law_373 : decode cL_law 373 = .ok (.aload_n 2, 1) := by decide +kernel
theorem dL_law_374 : decode cL_law 374 = .ok (.aload_n 0, 1) := by decide +kernel
theorem dL_law_375 : decode cL_law 375 = .ok (.iload_n 3, 1) := by decide +kernel
theorem dL_law_376 : decode cL_law 376 = .ok (.iconst 1, 1) := by decide +kernel
theorem dL_law_377 : decode cL_law 377 = .ok (.iadd, 1) := by decide +kernel
theorem dL_law_378 : decode cL_law 378 = .ok (.iaload, 1) := by decide +kernel
theorem dL_law_379 : decode cL_law 379 = .ok (.aload_n 0, 1) := by decide +kernel
theorem dL_law_380 : decode cL_law 380 = .ok (.iload_n 3, 1) := by decide +kernel
theorem dL_law_381 : decode cL_law 381 = .ok (.iconst 2, 1) := by decide +kernel
theorem dL_law_382 : decode cL_law 382 = .ok (.iadd, 1) := by decide +kernel
theorem dL_law_383 : decode cL_law 383 = .ok (.iaload, 1) := by decide +kernel
theorem dL_law_384 : decode cL_law 384 = .ok (.invokevirtual 55, 3) := by decide +kernel
theorem dL_law_387 : decode cL_law 387 = .ok (.if_icmp .eq 423, 3) := by decide +kernel
theorem dL_law_390 : decode cL_law 390 = .ok (.iconst 0, 1) := by decide +kernel
theorem dL_law_391 : decode cL_law 391 = .ok (.ireturn, 1) := by decide +kernel
theorem dL_law_392 : decode cL_law 392 = .ok (.aload_n 1, 1) := by decide +kernel
theorem dL_law_393 : decode cL_law 393 = .ok (.aload_n 0, 1) := by decide +kernel
theorem dL_law_394 : decode cL_law 394 = .ok (.iload_n 3, 1) := by decide +kernel
theorem dL_law_395 : decode cL_law 395 = .ok (.iconst 1, 1) := by decide +kernel
theorem dL_law_396 : decode cL_law 396 = .ok (.iadd, 1) := by decide +kernel
theorem dL_law_397 : decode cL_law 397 = .ok (.iaload, 1) := by decide +kernel
theorem dL_law_398 : decode cL_law 398 = .ok (.invokevirtual 56, 3) := by decide +kernel
theorem dL_law_401 : decode cL_law 401 = .ok (.aload_n 2, 1) := by decide +kernel
theorem dL_law_402 : decode cL_law 402 = .ok (.aload_n 0, 1) := by decide +kernel
theorem dL_law_403 : decode cL_law 403 = .ok (.iload_n 3, 1) := by decide +kernel
theorem dL_law_404 : decode cL_law 404 = .ok (.iconst 1, 1) := by decide +kernel
theorem dL_law_405 : decode cL_law 405 = .ok (.iadd, 1) := by decide +kernel
theorem dL_law_406 : decode cL_law 406 = .ok (.iaload, 1) := by decide +kernel
theorem dL_law_407 : decode cL_law 407 = .ok (.invokevirtual 59, 3) := by decide +kernel
theorem dL_law_410 : decode cL_law 410 = .ok (.if_icmp .eq 400, 3) := by decide +kernel
theorem dL_law_413 : decode cL_law 413 = .ok (.iconst 0, 1) := by decide +kernel
theorem dL_law_414 : decode cL_law 414 = .ok (.ireturn, 1) := by decide +kernel
theorem dL_law_415 : decode cL_law 415 = .ok (.aload_n 1, 1) := by decide +kernel
theorem dL_law_416 : decode cL_law 416 = .ok (.invokevirtual 60, 3) := by decide +kernel
theorem dL_law_419 : decode cL_law 419 = .ok (.aload_n 2, 1) := by decide +kernel
theorem dL_law_420 : decode cL_law 420 = .ok (.invokevirtual 63, 3) := by decide +kernel
theorem dL_law_423 : decode cL_law 423 = .ok (.if_icmp .eq 387, 3) := by decide +kernel
theorem dL_law_426 : decode cL_law 426 = .ok (.iconst 0, 1) := by decide +kernel
theorem dL_law_427 : decode cL_law 427 = .ok (.ireturn, 1) := by decide +kernel
theorem dL_law_428 : decode cL_law 428 = .ok (.aload_n 1, 1) := by decide +kernel
theorem dL_law_429 : decode cL_law 429 = .ok (.aload_n 0, 1) := by decide +kernel
theorem dL_law_430 : decode cL_law 430 = .ok (.iload_n 3, 1) := by decide +kernel
theorem dL_law_431 : decode cL_law 431 = .ok (.iconst 1, 1) := by decide +kernel
theorem dL_law_432 : decode cL_law 432 = .ok (.iadd, 1) := by decide +kernel
theorem dL_law_433 : decode cL_law 433 = .ok (.iaload, 1) := by decide +kernel
theorem dL_law_434 : decode cL_law 434 = .ok (.invokevirtual 64, 3) := by decide +kernel
theorem dL_law_437 : decode cL_law 437 = .ok (.aload_n 2, 1) := by decide +kernel
theorem dL_law_438 : decode cL_law 438 = .ok (.aload_n 0, 1) := by decide +kernel
theorem dL_law_439 : decode cL_law 439 = .ok (.iload_n 3, 1) := by decide +kernel
theorem dL_law_440 : decode cL_law 440 = .ok (.iconst 1, 1) := by decide +kernel
theorem dL_law_441 : decode cL_law 441 = .ok (.iadd, 1) := by decide +kernel
theorem dL_law_442 : decode cL_law 442 = .ok (.iaload, 1) := by decide +kernel
theorem dL_law_443 : decode cL_law 443 = .ok (.invokevirtual 67, 3) := by decide +kernel
theorem dL_law_446 : decode cL_law 446 = .ok (.if_icmp .eq 364, 3) := by decide +kernel
theorem dL_law_449 : decode cL_law 449 = .ok (.iconst 0, 1) := by decide +kernel
theorem dL_law_450 : decode cL_law 450 = .ok (.ireturn, 1) := by decide +kernel
theorem dL_law_451 : decode cL_law 451 = .ok (.aload_n 1, 1) := by decide +kernel
theorem dL_law_452 : decode cL_law 452 = .ok (.aload_n 0, 1) := by decide +kernel
theorem dL_law_453 : decode cL_law 453 = .ok (.iload_n 3, 1) := by decide +kernel
theorem dL_law_454 : decode cL_law 454 = .ok (.iconst 1, 1) := by decide +kernel
theorem dL_law_455 : decode cL_law 455 = .ok (.iadd, 1) := by decide +kernel
theorem dL_law_456 : decode cL_law 456 = .ok (.iaload, 1) := by decide +kernel
theorem dL_law_457 : decode cL_law 457 = .ok (.aload_n 0, 1) := by decide +kernel
theorem dL_law_458 : decode cL_law 458 = .ok (.iload_n 3, 1) := by decide +kernel
theorem dL_law_459 : decode cL_law 459 = .ok (.iconst 2, 1) := by decide +kernel
theorem dL_law_460 : decode cL_law 460 = .ok (.iadd, 1) := by decide +kernel
theorem dL_law_461 : decode cL_law 461 = .ok (.iaload, 1) := by decide +kernel
theorem dL_law_462 : decode cL_law 462 = .ok (.invokevirtual 68, 3) := by decide +kernel
theorem dL_law_465 : decode cL_law 465 = .ok (.aload_n 2, 1) := by decide +kernel
theorem dL_law_466 : decode cL_law 466 = .ok (.aload_n 0, 1) := by decide +kernel
theorem dL_law_467 : decode cL_law 467 = .ok (.iload_n 3, 1) := by decide +kernel
theorem dL_law_468 : decode cL_law 468 = .ok (.iconst 1, 1) := by decide +kernel
theorem dL_law_469 : decode cL_law 469 = .ok (.iadd, 1) := by decide +kernel
theorem dL_law_470 : decode cL_law 470 = .ok (.iaload, 1) := by decide +kernel
theorem dL_law_471 : decode cL_law 471 = .ok (.aload_n 0, 1) := by decide +kernel
theorem dL_law_472 : decode cL_law 472 = .ok (.iload_n 3, 1) := by decide +kernel
theorem dL_law_473 : decode cL_law 473 = .ok (.iconst 2, 1) := by decide +kernel
theorem dL_law_474 : decode cL_law 474 = .ok (.iadd, 1) := by decide +kernel
theorem dL_law_475 : decode cL_law 475 = .ok (.iaload, 1) := by decide +kernel
theorem dL_law_476 : decode cL_law 476 = .ok (.invokevirtual 71, 3) := by decide +kernel
theorem dL_law_479 : decode cL_law 479 = .ok (.if_icmp .eq 331, 3) := by decide +kernel
theorem dL_law_482 : decode cL_law 482 = .ok (.iconst 0, 1) := by decide +kernel
theorem dL_law_483 : decode cL_law 483 = .ok (.ireturn, 1) := by decide +kernel
theorem dL_law_484 : decode cL_law 484 = .ok (.aload_n 1, 1) := by decide +kernel
theorem dL_law_485 : decode cL_law 485 = .ok (.aload_n 0, 1) := by decide +kernel
theorem dL_law_486 : decode cL_law 486 = .ok (.iload_n 3, 1) := by decide +kernel
theorem dL_law_487 : decode cL_law 487 = .ok (.iconst 1, 1) := by decide +kernel
theorem dL_law_488 : decode cL_law 488 = .ok (.iadd, 1) := by decide +kernel
theorem dL_law_489 : decode cL_law 489 = .ok (.iaload, 1) := by decide +kernel
theorem dL_law_490 : decode cL_law 490 = .ok (.aload_n 0, 1) := by decide +kernel
theorem dL_law_491 : decode cL_law 491 = .ok (.iload_n 3, 1) := by decide +kernel
theorem dL_law_492 : decode cL_law 492 = .ok (.iconst 2, 1) := by decide +kernel
theorem dL_law_493 : decode cL_law 493 = .ok (.iadd, 1) := by decide +kernel
theorem dL_law_494 : decode cL_law 494 = .ok (.iaload, 1) := by decide +kernel
theorem dL_law_495 : decode cL_law 495 = .ok (.aload_n 0, 1) := by decide +kernel
theorem dL_law_496 : decode cL_law 496 = .ok (.iload_n 3, 1) := by decide +kernel
theorem dL_law_497 : decode cL_law 497 = .ok (.iconst 3, 1) := by decide +kernel
theorem dL_law_498 : decode cL_law 498 = .ok (.iadd, 1) := by decide +kernel
theorem dL_law_499 : decode cL_law 499 = .ok (.iaload, 1) := by decide +kernel
theorem dL_law_500 : decode cL_law 500 = .ok (.invokevirtual 72, 3) := by decide +kernel
theorem dL_law_503 : decode cL_law 503 = .ok (.aload_n 2, 1) := by decide +kernel
theorem dL_law_504 : decode cL_law 504 = .ok (.aload_n 0, 1) := by decide +kernel
theorem dL_law_505 : decode cL_law 505 = .ok (.iload_n 3, 1) := by decide +kernel
theorem dL_law_506 : decode cL_law 506 = .ok (.iconst 1, 1) := by decide +kernel
theorem dL_law_507 : decode cL_law 507 = .ok (.iadd, 1) := by decide +kernel
theorem dL_law_508 : decode cL_law 508 = .ok (.iaload, 1) := by decide +kernel
theorem dL_law_509 : decode cL_law 509 = .ok (.aload_n 0, 1) := by decide +kernel
theorem dL_law_510 : decode cL_law 510 = .ok (.iload_n 3, 1) := by decide +kernel
theorem dL_law_511 : decode cL_law 511 = .ok (.iconst 2, 1) := by decide +kernel
theorem dL_law_512 : decode cL_law 512 = .ok (.iadd, 1) := by decide +kernel
theorem dL_law_513 : decode cL_law 513 = .ok (.iaload, 1) := by decide +kernel
theorem dL_law_514 : decode cL_law 514 = .ok (.aload_n 0, 1) := by decide +kernel
theorem dL_law_515 : decode cL_law 515 = .ok (.iload_n 3, 1) := by decide +kernel
theorem dL_law_516 : decode cL_law 516 = .ok (.iconst 3, 1) := by decide +kernel
theorem dL_law_517 : decode cL_law 517 = .ok (.iadd, 1) := by decide +kernel
theorem dL_law_518 : decode cL_law 518 = .ok (.iaload, 1) := by decide +kernel
theorem dL_law_519 : decode cL_law 519 = .ok (.invokevirtual 76, 3) := by decide +kernel
theorem dL_law_522 : decode cL_law 522 = .ok (.if_icmp .eq 288, 3) := by decide +kernel
theorem dL_law_525 : decode cL_law 525 = .ok (.iconst 0, 1) := by decide +kernel
theorem dL_law_526 : decode cL_law 526 = .ok (.ireturn, 1) := by decide +kernel
theorem dL_law_527 : decode cL_law 527 = .ok (.aload_n 1, 1) := by decide +kernel
theorem dL_law_528 : decode cL_law 528 = .ok (.aload_n 0, 1) := by decide +kernel
theorem dL_law_529 : decode cL_law 529 = .ok (.iload_n 3, 1) := by decide +kernel
theorem dL_law_530 : decode cL_law 530 = .ok (.iconst 1, 1) := by decide +kernel
theorem dL_law_531 : decode cL_law 531 = .ok (.iadd, 1) := by decide +kernel
theorem dL_law_532 : decode cL_law 532 = .ok (.iaload, 1) := by decide +kernel
theorem dL_law_533 : decode cL_law 533 = .ok (.invokevirtual 77, 3) := by decide +kernel
theorem dL_law_536 : decode cL_law 536 = .ok (.aload_n 2, 1) := by decide +kernel
theorem dL_law_537 : decode cL_law 537 = .ok (.aload_n 0, 1) := by decide +kernel
theorem dL_law_538 : decode cL_law 538 = .ok (.iload_n 3, 1) := by decide +kernel
theorem dL_law_539 : decode cL_law 539 = .ok (.iconst 1, 1) := by decide +kernel
theorem dL_law_540 : decode cL_law 540 = .ok (.iadd, 1) := by decide +kernel
theorem dL_law_541 : decode cL_law 541 = .ok (.iaload, 1) := by decide +kernel
theorem dL_law_542 : decode cL_law 542 = .ok (.invokevirtual 80, 3) := by decide +kernel
theorem dL_law_545 : decode cL_law 545 = .ok (.if_icmp .eq 265, 3) := by decide +kernel
theorem dL_law_548 : decode cL_law 548 = .ok (.iconst 0, 1) := by decide +kernel
theorem dL_law_549 : decode cL_law 549 = .ok (.ireturn, 1) := by decide +kernel
theorem dL_law_550 : decode cL_law 550 = .ok (.aload_n 1, 1) := by decide +kernel
theorem dL_law_551 : decode cL_law 551 = .ok (.invokevirtual 81, 3) := by decide +kernel
theorem dL_law_554 : decode cL_law 554 = .ok (.aload_n 2, 1) := by decide +kernel
theorem dL_law_555 : decode cL_law 555 = .ok (.invokevirtual 84, 3) := by decide +kernel
theorem dL_law_558 : decode cL_law 558 = .ok (.if_icmp .eq 252, 3) := by decide +kernel
theorem dL_law_561 : decode cL_law 561 = .ok (.iconst 0, 1) := by decide +kernel
theorem dL_law_562 : decode cL_law 562 = .ok (.ireturn, 1) := by decide +kernel
theorem dL_law_563 : decode cL_law 563 = .ok (.aload_n 1, 1) := by decide +kernel
theorem dL_law_564 : decode cL_law 564 = .ok (.aload_n 0, 1) := by decide +kernel
theorem dL_law_565 : decode cL_law 565 = .ok (.iload_n 3, 1) := by decide +kernel
theorem dL_law_566 : decode cL_law 566 = .ok (.iconst 1, 1) := by decide +kernel
theorem dL_law_567 : decode cL_law 567 = .ok (.iadd, 1) := by decide +kernel
theorem dL_law_568 : decode cL_law 568 = .ok (.iaload, 1) := by decide +kernel
theorem dL_law_569 : decode cL_law 569 = .ok (.aload_n 0, 1) := by decide +kernel
theorem dL_law_570 : decode cL_law 570 = .ok (.iload_n 3, 1) := by decide +kernel
theorem dL_law_571 : decode cL_law 571 = .ok (.iconst 2, 1) := by decide +kernel
theorem dL_law_572 : decode cL_law 572 = .ok (.iadd, 1) := by decide +kernel
theorem dL_law_573 : decode cL_law 573 = .ok (.iaload, 1) := by decide +kernel
theorem dL_law_574 : decode cL_law 574 = .ok (.invokevirtual 85, 3) := by decide +kernel
theorem dL_law_577 : decode cL_law 577 = .ok (.aload_n 2, 1) := by decide +kernel
theorem dL_law_578 : decode cL_law 578 = .ok (.aload_n 0, 1) := by decide +kernel
theorem dL_law_579 : decode cL_law 579 = .ok (.iload_n 3, 1) := by decide +kernel
theorem dL_law_580 : decode cL_law 580 = .ok (.iconst 1, 1) := by decide +kernel
theorem dL_law_581 : decode cL_law 581 = .ok (.iadd, 1) := by decide +kernel
theorem dL_law_582 : decode cL_law 582 = .ok (.iaload, 1) := by decide +kernel
theorem dL_law_583 : decode cL_law 583 = .ok (.aload_n 0, 1) := by decide +kernel
theorem dL_law_584 : decode cL_law 584 = .ok (.iload_n 3, 1) := by decide +kernel
theorem dL_law_585 : decode cL_law 585 = .ok (.iconst 2, 1) := by decide +kernel
theorem dL_law_586 : decode cL_law 586 = .ok (.iadd, 1) := by decide +kernel
theorem dL_law_587 : decode cL_law 587 = .ok (.iaload, 1) := by decide +kernel
theorem dL_law_588 : decode cL_law 588 = .ok (.invokevirtual 88, 3) := by decide +kernel
theorem dL_law_591 : decode cL_law 591 = .ok (.if_icmp .eq 219, 3) := by decide +kernel
theorem dL_law_594 : decode cL_law 594 = .ok (.iconst 0, 1) := by decide +kernel
theorem dL_law_595 : decode cL_law 595 = .ok (.ireturn, 1) := by decide +kernel
theorem dL_law_596 : decode cL_law 596 = .ok (.aload_n 1, 1) := by decide +kernel
theorem dL_law_597 : decode cL_law 597 = .ok (.aload_n 0, 1) := by decide +kernel
theorem dL_law_598 : decode cL_law 598 = .ok (.iload_n 3, 1) := by decide +kernel
theorem dL_law_599 : decode cL_law 599 = .ok (.iconst 1, 1) := by decide +kernel
theorem dL_law_600 : decode cL_law 600 = .ok (.iadd, 1) := by decide +kernel
theorem dL_law_601 : decode cL_law 601 = .ok (.iaload, 1) := by decide +kernel
theorem dL_law_602 : decode cL_law 602 = .ok (.aload_n 0, 1) := by decide +kernel
theorem dL_law_603 : decode cL_law 603 = .ok (.iload_n 3, 1) := by decide +kernel
theorem dL_law_604 : decode cL_law 604 = .ok (.iconst 2, 1) := by decide +kernel
theorem dL_law_605 : decode cL_law 605 = .ok (.iadd, 1) := by decide +kernel
theorem dL_law_606 : decode cL_law 606 = .ok (.iaload, 1) := by decide +kernel
theorem dL_law_607 : decode cL_law 607 = .ok (.invokevirtual 89, 3) := by decide +kernel
theorem dL_law_610 : decode cL_law 610 = .ok (.aload_n 2, 1) := by decide +kernel
theorem dL_law_611 : decode cL_law 611 = .ok (.aload_n 0, 1) := by decide +kernel
theorem dL_law_612 : decode cL_law 612 = .ok (.iload_n 3, 1) := by decide +kernel
theorem dL_law_613 : decode cL_law 613 = .ok (.iconst 1, 1) := by decide +kernel
theorem dL_law_614 : decode cL_law 614 = .ok (.iadd, 1) := by decide +kernel
theorem dL_law_615 : decode cL_law 615 = .ok (.iaload, 1) := by decide +kernel
theorem dL_law_616 : decode cL_law 616 = .ok (.aload_n 0, 1) := by decide +kernel
theorem dL_law_617 : decode cL_law 617 = .ok (.iload_n 3, 1) := by decide +kernel
theorem dL_law_618 : decode cL_law 618 = .ok (.iconst 2, 1) := by decide +kernel
theorem dL_law_619 : decode cL_law 619 = .ok (.iadd, 1) := by decide +kernel
theorem dL_law_620 : decode cL_law 620 = .ok (.iaload, 1) := by decide +kernel
theorem dL_law_621 : decode cL_law 621 = .ok (.invokevirtual 92, 3) := by decide +kernel
theorem dL_law_624 : decode cL_law 624 = .ok (.if_icmp .eq 186, 3) := by decide +kernel
theorem dL_law_627 : decode cL_law 627 = .ok (.iconst 0, 1) := by decide +kernel
theorem dL_law_628 : decode cL_law 628 = .ok (.ireturn, 1) := by decide +kernel
theorem dL_law_629 : decode cL_law 629 = .ok (.aload_n 1, 1) := by decide +kernel
theorem dL_law_630 : decode cL_law 630 = .ok (.aload_n 0, 1) := by decide +kernel
theorem dL_law_631 : decode cL_law 631 = .ok (.iload_n 3, 1) := by decide +kernel
theorem dL_law_632 : decode cL_law 632 = .ok (.iconst 1, 1) := by decide +kernel
theorem dL_law_633 : decode cL_law 633 = .ok (.iadd, 1) := by decide +kernel
theorem dL_law_634 : decode cL_law 634 = .ok (.iaload, 1) := by decide +kernel
theorem dL_law_635 : decode cL_law 635 = .ok (.aload_n 0, 1) := by decide +kernel
theorem dL_law_636 : decode cL_law 636 = .ok (.iload_n 3, 1) := by decide +kernel
theorem dL_law_637 : decode cL_law 637 = .ok (.iconst 2, 1) := by decide +kernel
theorem dL_law_638 : decode cL_law 638 = .ok (.iadd, 1) := by decide +kernel
