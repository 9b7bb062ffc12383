theorem dX9_near_0 : decode cX9_near 0 = .ok (.iload_n 0, 1) := by decide +kernel
theorem dX9_near_1 : decode cX9_near 1 = .ok (.iload_n 1, 1) := by decide +kernel
theorem dX9_near_2 : decode cX9_near 2 = .ok (.if_icmp .ge 7, 3) := by decide +kernel
theorem dX9_near_5 : decode cX9_near 5 = .ok (.iload_n 1, 1) := by decide +kernel
theorem dX9_near_6 : decode cX9_near 6 = .ok (.goto 13, 3) := by decide +kernel
theorem dX9_near_9 : decode cX9_near 9 = .ok (.iload_n 0, 1) := by decide +kernel
theorem dX9_near_10 : decode cX9_near 10 = .ok (.iload_n 2, 1) := by decide +kernel
theorem dX9_near_11 : decode cX9_near 11 = .ok (.if_icmp .le 7, 3) := by decide +kernel
theorem dX9_near_14 : decode cX9_near 14 = .ok (.iload_n 2, 1) := by decide +kernel
theorem dX9_near_15 : decode cX9_near 15 = .ok (.goto 4, 3) := by decide +kernel
theorem dX9_near_18 : decode cX9_near 18 = .ok (.iload_n 0, 1) := by decide +kernel
theorem dX9_near_19 : decode cX9_near 19 = .ok (.ireturn, 1) := by decide +kernel
theorem dX9_init_0 : decode cX9_init 0 = .ok (.aload_n 0, 1) := by decide +kernel
theorem dX9_init_1 : decode cX9_init 1 = .ok (.invokespecial 1, 3) := by decide +kernel
theorem dX9_init_4 : decode cX9_init 4 = .ok (.aload_n 0, 1) := by decide +kernel
theorem dX9_init_5 : decode cX9_init 5 = .ok (.sipush 3001, 3) := by decide +kernel
theorem dX9_init_8 : decode cX9_init 8 = .ok (.newarray .int, 2) := by decide +kernel
theorem dX9_init_10 : decode cX9_init 10 = .ok (.putfield 7, 3) := by decide +kernel
theorem dX9_init_13 : decode cX9_init 13 = .ok (.aload_n 0, 1) := by decide +kernel
theorem dX9_init_14 : decode cX9_init 14 = .ok (.iconst 1, 1) := by decide +kernel
theorem dX9_init_15 : decode cX9_init 15 = .ok (.putfield 13, 3) := by decide +kernel
theorem dX9_init_18 : decode cX9_init 18 = .ok (.aload_n 0, 1) := by decide +kernel
theorem dX9_init_19 : decode cX9_init 19 = .ok (.iconst 1, 1) := by decide +kernel
theorem dX9_init_20 : decode cX9_init 20 = .ok (.putfield 17, 3) := by decide +kernel
theorem dX9_init_23 : decode cX9_init 23 = .ok (.aload_n 0, 1) := by decide +kernel
theorem dX9_init_24 : decode cX9_init 24 = .ok (.sipush 800, 3) := by decide +kernel
theorem dX9_init_27 : decode cX9_init 27 = .ok (.newarray .int, 2) := by decide +kernel
theorem dX9_init_29 : decode cX9_init 29 = .ok (.putfield 20, 3) := by decide +kernel
theorem dX9_init_32 : decode cX9_init 32 = .ok (.aload_n 0, 1) := by decide +kernel
theorem dX9_init_33 : decode cX9_init 33 = .ok (.sipush 800, 3) := by decide +kernel
theorem dX9_init_36 : decode cX9_init 36 = .ok (.newarray .int, 2) := by decide +kernel
theorem dX9_init_38 : decode cX9_init 38 = .ok (.putfield 23, 3) := by decide +kernel
theorem dX9_init_41 : decode cX9_init 41 = .ok (.aload_n 0, 1) := by decide +kernel
theorem dX9_init_42 : decode cX9_init 42 = .ok (.sipush 800, 3) := by decide +kernel
theorem dX9_init_45 : decode cX9_init 45 = .ok (.newarray .int, 2) := by decide +kernel
theorem dX9_init_47 : decode cX9_init 47 = .ok (.putfield 26, 3) := by decide +kernel
theorem dX9_init_50 : decode cX9_init 50 = .ok (.aload_n 0, 1) := by decide +kernel
theorem dX9_init_51 : decode cX9_init 51 = .ok (.sipush 800, 3) := by decide +kernel
theorem dX9_init_54 : decode cX9_init 54 = .ok (.newarray .int, 2) := by decide +kernel
theorem dX9_init_56 : decode cX9_init 56 = .ok (.putfield 29, 3) := by decide +kernel
theorem dX9_init_59 : decode cX9_init 59 = .ok (.aload_n 0, 1) := by decide +kernel
theorem dX9_init_60 : decode cX9_init 60 = .ok (.sipush 800, 3) := by decide +kernel
theorem dX9_init_63 : decode cX9_init 63 = .ok (.newarray .int, 2) := by decide +kernel
theorem dX9_init_65 : decode cX9_init 65 = .ok (.putfield 32, 3) := by decide +kernel
theorem dX9_init_68 : decode cX9_init 68 = .ok (.aload_n 0, 1) := by decide +kernel
theorem dX9_init_69 : decode cX9_init 69 = .ok (.sipush 800, 3) := by decide +kernel
theorem dX9_init_72 : decode cX9_init 72 = .ok (.newarray .int, 2) := by decide +kernel
theorem dX9_init_74 : decode cX9_init 74 = .ok (.putfield 35, 3) := by decide +kernel
theorem dX9_init_77 : decode cX9_init 77 = .ok (.aload_n 0, 1) := by decide +kernel
theorem dX9_init_78 : decode cX9_init 78 = .ok (.sipush 800, 3) := by decide +kernel
theorem dX9_init_81 : decode cX9_init 81 = .ok (.newarray .int, 2) := by decide +kernel
theorem dX9_init_83 : decode cX9_init 83 = .ok (.putfield 38, 3) := by decide +kernel
theorem dX9_init_86 : decode cX9_init 86 = .ok (.aload_n 0, 1) := by decide +kernel
theorem dX9_init_87 : decode cX9_init 87 = .ok (.bipush 16, 2) := by decide +kernel
theorem dX9_init_89 : decode cX9_init 89 = .ok (.newarray .int, 2) := by decide +kernel
theorem dX9_init_91 : decode cX9_init 91 = .ok (.putfield 41, 3) := by decide +kernel
theorem dX9_init_94 : decode cX9_init 94 = .ok (.aload_n 0, 1) := by decide +kernel
theorem dX9_init_95 : decode cX9_init 95 = .ok (.bipush 32, 2) := by decide +kernel
theorem dX9_init_97 : decode cX9_init 97 = .ok (.newarray .int, 2) := by decide +kernel
theorem dX9_init_99 : decode cX9_init 99 = .ok (.putfield 44, 3) := by decide +kernel
theorem dX9_init_102 : decode cX9_init 102 = .ok (.aload_n 0, 1) := by decide +kernel
theorem dX9_init_103 : decode cX9_init 103 = .ok (.bipush 32, 2) := by decide +kernel
theorem dX9_init_105 : decode cX9_init 105 = .ok (.newarray .int, 2) := by decide +kernel
theorem dX9_init_107 : decode cX9_init 107 = .ok (.putfield 47, 3) := by decide +kernel
theorem dX9_init_110 : decode cX9_init 110 = .ok (.aload_n 0, 1) := by decide +kernel
theorem dX9_init_111 : decode cX9_init 111 = .ok (.sipush 3001, 3) := by decide +kernel
theorem dX9_init_114 : decode cX9_init 114 = .ok (.newarray .int, 2) := by decide +kernel
theorem dX9_init_116 : decode cX9_init 116 = .ok (.putfield 50, 3) := by decide +kernel
theorem dX9_init_119 : decode cX9_init 119 = .ok (.aload_n 0, 1) := by decide +kernel
theorem dX9_init_120 : decode cX9_init 120 = .ok (.sipush 800, 3) := by decide +kernel
theorem dX9_init_123 : decode cX9_init 123 = .ok (.newarray .boolean, 2) := by decide +kernel
theorem dX9_init_125 : decode cX9_init 125 = .ok (.putfield 53, 3) := by decide +kernel
theorem dX9_init_128 : decode cX9_init 128 = .ok (.aload_n 0, 1) := by decide +kernel
theorem dX9_init_129 : decode cX9_init 129 = .ok (.sipush 800, 3) := by decide +kernel
theorem dX9_init_132 : decode cX9_init 132 = .ok (.newarray .int, 2) := by decide +kernel
theorem dX9_init_134 : decode cX9_init 134 = .ok (.putfield 57, 3) := by decide +kernel
theorem dX9_init_137 : decode cX9_init 137 = .ok (.aload_n 0, 1) := by decide +kernel
theorem dX9_init_138 : decode cX9_init 138 = .ok (.sipush 800, 3) := by decide +kernel
theorem dX9_init_141 : decode cX9_init 141 = .ok (.newarray .int, 2) := by decide +kernel
theorem dX9_init_143 : decode cX9_init 143 = .ok (.putfield 60, 3) := by decide +kernel
theorem dX9_init_146 : decode cX9_init 146 = .ok (.aload_n 0, 1) := by decide +kernel
theorem dX9_init_147 : decode cX9_init 147 = .ok (.sipush 800, 3) := by decide +kernel
theorem dX9_init_150 : decode cX9_init 150 = .ok (.newarray .int, 2) := by decide +kernel
theorem dX9_init_152 : decode cX9_init 152 = .ok (.putfield 63, 3) := by decide +kernel
theorem dX9_init_155 : decode cX9_init 155 = .ok (.aload_n 0, 1) := by decide +kernel
theorem dX9_init_156 : decode cX9_init 156 = .ok (.sipush 800, 3) := by decide +kernel
theorem dX9_init_159 : decode cX9_init 159 = .ok (.newarray .int, 2) := by decide +kernel
theorem dX9_init_161 : decode cX9_init 161 = .ok (.putfield 66, 3) := by decide +kernel
theorem dX9_init_164 : decode cX9_init 164 = .ok (.aload_n 0, 1) := by decide +kernel
theorem dX9_init_165 : decode cX9_init 165 = .ok (.sipush 800, 3) := by decide +kernel
theorem dX9_init_168 : decode cX9_init 168 = .ok (.newarray .boolean, 2) := by decide +kernel
theorem dX9_init_170 : decode cX9_init 170 = .ok (.putfield 69, 3) := by decide +kernel
theorem dX9_init_173 : decode cX9_init 173 = .ok (.aload_n 0, 1) := by decide +kernel
theorem dX9_init_174 : decode cX9_init 174 = .ok (.iload_n 1, 1) := by decide +kernel
theorem dX9_init_175 : decode cX9_init 175 = .ok (.bipush 64, 2) := by decide +kernel
theorem dX9_init_177 : decode cX9_init 177 = .ok (.sipush 3000, 3) := by decide +kernel
theorem dX9_init_180 : decode cX9_init 180 = .ok (.invokestatic 72, 3) := by decide +kernel
theorem dX9_init_183 : decode cX9_init 183 = .ok (.putfield 76, 3) := by decide +kernel
theorem dX9_init_186 : decode cX9_init 186 = .ok (.aload_n 0, 1) := by decide +kernel
theorem dX9_init_187 : decode cX9_init 187 = .ok (.iload_n 2, 1) := by decide +kernel
theorem dX9_init_188 : decode cX9_init 188 = .ok (.iconst 1, 1) := by decide +kernel
theorem dX9_init_189 : decode cX9_init 189 = .ok (.bipush 8, 2) := by decide +kernel
theorem dX9_init_191 : decode cX9_init 191 = .ok (.invokestatic 72, 3) := by decide +kernel
theorem dX9_init_194 : decode cX9_init 194 = .ok (.putfield 79, 3) := by decide +kernel
theorem dX9_init_197 : decode cX9_init 197 = .ok (.aload_n 0, 1) := by decide +kernel
theorem dX9_init_198 : decode cX9_init 198 = .ok (.iload_n 3, 1) := by decide +kernel
theorem dX9_init_199 : decode cX9_init 199 = .ok (.iconst 0, 1) := by decide +kernel
theorem dX9_init_200 : decode cX9_init 200 = .ok (.sipush 3000, 3) := by decide +kernel
theorem dX9_init_203 : decode cX9_init 203 = .ok (.invokestatic 72, 3) := by decide +kernel
theorem dX9_init_206 : decode cX9_init 206 = .ok (.putfield 82, 3) := by decide +kernel
theorem dX9_init_209 : decode cX9_init 209 = .ok (.return_, 1) := by decide +kernel
theorem dX9_thrown_0 : decode cX9_thrown 0 = .ok (.aload_n 0, 1) := by decide +kernel
theorem dX9_thrown_1 : decode cX9_thrown 1 = .ok (.getfield 85, 3) := by decide +kernel
theorem dX9_thrown_4 : decode cX9_thrown 4 = .ok (.ireturn, 1) := by decide +kernel
theorem dX9_start_0 : decode cX9_start 0 = .ok (.aload_n 0, 1) := by decide +kernel
theorem dX9_start_1 : decode cX9_start 1 = .ok (.getfield 20, 3) := by decide +kernel
theorem dX9_start_4 : decode cX9_start 4 = .ok (.iload_n 1, 1) := by decide +kernel
theorem dX9_start_5 : decode cX9_start 5 = .ok (.iaload, 1) := by decide +kernel
theorem dX9_start_6 : decode cX9_start 6 = .ok (.aload_n 0, 1) := by decide +kernel
theorem dX9_start_7 : decode cX9_start 7 = .ok (.getfield 79, 3) := by decide +kernel
theorem dX9_start_10 : decode cX9_start 10 = .ok (.iadd, 1) := by decide +kernel
theorem dX9_start_11 : decode cX9_start 11 = .ok (.ireturn, 1) := by decide +kernel
theorem dX9_isLive_0 : decode cX9_isLive 0 = .ok (.aload_n 0, 1) := by decide +kernel
theorem dX9_isLive_1 : decode cX9_isLive 1 = .ok (.getfield 32, 3) := by decide +kernel
theorem dX9_isLive_4 : decode cX9_isLive 4 = .ok (.iload_n 1, 1) := by decide +kernel
theorem dX9_isLive_5 : decode cX9_isLive 5 = .ok (.iaload, 1) := by decide +kernel
theorem dX9_isLive_6 : decode cX9_isLive 6 = .ok (.ifCond .ne 7, 3) := by decide +kernel
theorem dX9_isLive_9 : decode cX9_isLive 9 = .ok (.iconst 1, 1) := by decide +kernel
theorem dX9_isLive_10 : decode cX9_isLive 10 = .ok (.goto 4, 3) := by decide +kernel
theorem dX9_isLive_13 : decode cX9_isLive 13 = .ok (.iconst 0, 1) := by decide +kernel
theorem dX9_isLive_14 : decode cX9_isLive 14 = .ok (.ireturn, 1) := by decide +kernel
theorem dX9_blockOf_0 : decode cX9_blockOf 0 = .ok (.iconst 0, 1) := by decide +kernel
theorem dX9_blockOf_1 : decode cX9_blockOf 1 = .ok (.istore_n 2, 1) := by decide +kernel
theorem dX9_blockOf_2 : decode cX9_blockOf 2 = .ok (.iload_n 2, 1) := by decide +kernel
theorem dX9_blockOf_3 : decode cX9_blockOf 3 = .ok (.aload_n 0, 1) := by decide +kernel
theorem dX9_blockOf_4 : decode cX9_blockOf 4 = .ok (.getfield 88, 3) := by decide +kernel
theorem dX9_blockOf_7 : decode cX9_blockOf 7 = .ok (.if_icmp .ge 38, 3) := by decide +kernel
theorem dX9_blockOf_10 : decode cX9_blockOf 10 = .ok (.iload_n 1, 1) := by decide +kernel
theorem dX9_blockOf_11 : decode cX9_blockOf 11 = .ok (.aload_n 0, 1) := by decide +kernel
theorem dX9_blockOf_12 : decode cX9_blockOf 12 = .ok (.getfield 20, 3) := by decide +kernel
theorem dX9_blockOf_15 : decode cX9_blockOf 15 = .ok (.iload_n 2, 1) := by decide +kernel
theorem dX9_blockOf_16 : decode cX9_blockOf 16 = .ok (.iaload, 1) := by decide +kernel
theorem dX9_blockOf_17 : decode cX9_blockOf 17 = .ok (.if_icmp .lt 22, 3) := by decide +kernel
theorem dX9_blockOf_20 : decode cX9_blockOf 20 = .ok (.iload_n 1, 1) := by decide +kernel
theorem dX9_blockOf_21 : decode cX9_blockOf 21 = .ok (.aload_n 0, 1) := by decide +kernel
theorem dX9_blockOf_22 : decode cX9_blockOf 22 = .ok (.getfield 20, 3) := by decide +kernel
theorem dX9_blockOf_25 : decode cX9_blockOf 25 = .ok (.iload_n 2, 1) := by decide +kernel
theorem dX9_blockOf_26 : decode cX9_blockOf 26 = .ok (.iaload, 1) := by decide +kernel
theorem dX9_blockOf_27 : decode cX9_blockOf 27 = .ok (.isub, 1) := by decide +kernel
theorem dX9_blockOf_28 : decode cX9_blockOf 28 = .ok (.aload_n 0, 1) := by decide +kernel
theorem dX9_blockOf_29 : decode cX9_blockOf 29 = .ok (.getfield 23, 3) := by decide +kernel
theorem dX9_blockOf_32 : decode cX9_blockOf 32 = .ok (.iload_n 2, 1) := by decide +kernel
theorem dX9_blockOf_33 : decode cX9_blockOf 33 = .ok (.iaload, 1) := by decide +kernel
theorem dX9_blockOf_34 : decode cX9_blockOf 34 = .ok (.if_icmp .ge 5, 3) := by decide +kernel
theorem dX9_blockOf_37 : decode cX9_blockOf 37 = .ok (.iload_n 2, 1) := by decide +kernel
theorem dX9_blockOf_38 : decode cX9_blockOf 38 = .ok (.ireturn, 1) := by decide +kernel
theorem dX9_blockOf_39 : decode cX9_blockOf 39 = .ok (.iinc 2 1, 3) := by decide +kernel
theorem dX9_blockOf_42 : decode cX9_blockOf 42 = .ok (.goto (-40), 3) := by decide +kernel
theorem dX9_blockOf_45 : decode cX9_blockOf 45 = .ok (.iconst (-1), 1) := by decide +kernel
theorem dX9_blockOf_46 : decode cX9_blockOf 46 = .ok (.ireturn, 1) := by decide +kernel
theorem dX9_startsAt_0 : decode cX9_startsAt 0 = .ok (.iconst 0, 1) := by decide +kernel
theorem dX9_startsAt_1 : decode cX9_startsAt 1 = .ok (.istore_n 2, 1) := by decide +kernel
theorem dX9_startsAt_2 : decode cX9_startsAt 2 = .ok (.iload_n 2, 1) := by decide +kernel
theorem dX9_startsAt_3 : decode cX9_startsAt 3 = .ok (.aload_n 0, 1) := by decide +kernel
theorem dX9_startsAt_4 : decode cX9_startsAt 4 = .ok (.getfield 88, 3) := by decide +kernel
theorem dX9_startsAt_7 : decode cX9_startsAt 7 = .ok (.if_icmp .ge 20, 3) := by decide +kernel
theorem dX9_startsAt_10 : decode cX9_startsAt 10 = .ok (.aload_n 0, 1) := by decide +kernel
theorem dX9_startsAt_11 : decode cX9_startsAt 11 = .ok (.iload_n 2, 1) := by decide +kernel
theorem dX9_startsAt_12 : decode cX9_startsAt 12 = .ok (.invokevirtual 91, 3) := by decide +kernel
theorem dX9_startsAt_15 : decode cX9_startsAt 15 = .ok (.iload_n 1, 1) := by decide +kernel
theorem dX9_startsAt_16 : decode cX9_startsAt 16 = .ok (.if_icmp .ne 5, 3) := by decide +kernel
theorem dX9_startsAt_19 : decode cX9_startsAt 19 = .ok (.iload_n 2, 1) := by decide +kernel
theorem dX9_startsAt_20 : decode cX9_startsAt 20 = .ok (.ireturn, 1) := by decide +kernel
theorem dX9_startsAt_21 : decode cX9_startsAt 21 = .ok (.iinc 2 1, 3) := by decide +kernel
theorem dX9_startsAt_24 : decode cX9_startsAt 24 = .ok (.goto (-22), 3) := by decide +kernel
theorem dX9_startsAt_27 : decode cX9_startsAt 27 = .ok (.iconst (-1), 1) := by decide +kernel
theorem dX9_startsAt_28 : decode cX9_startsAt 28 = .ok (.ireturn, 1) := by decide +kernel
theorem dX9_sortOf_0 : decode cX9_sortOf 0 = .ok (.aload_n 0, 1) := by decide +kernel
theorem dX9_sortOf_1 : decode cX9_sortOf 1 = .ok (.iload_n 1, 1) := by decide +kernel
theorem dX9_sortOf_2 : decode cX9_sortOf 2 = .ok (.invokevirtual 95, 3) := by decide +kernel
theorem dX9_sortOf_5 : decode cX9_sortOf 5 = .ok (.istore_n 2, 1) := by decide +kernel
theorem dX9_sortOf_6 : decode cX9_sortOf 6 = .ok (.iload_n 2, 1) := by decide +kernel
theorem dX9_sortOf_7 : decode cX9_sortOf 7 = .ok (.iconst (-1), 1) := by decide +kernel
theorem dX9_sortOf_8 : decode cX9_sortOf 8 = .ok (.if_icmp .ne 5, 3) := by decide +kernel
theorem dX9_sortOf_11 : decode cX9_sortOf 11 = .ok (.iconst 3, 1) := by decide +kernel
theorem dX9_sortOf_12 : decode cX9_sortOf 12 = .ok (.ireturn, 1) := by decide +kernel
theorem dX9_sortOf_13 : decode cX9_sortOf 13 = .ok (.iload_n 1, 1) := by decide +kernel
theorem dX9_sortOf_14 : decode cX9_sortOf 14 = .ok (.aload_n 0, 1) := by decide +kernel
theorem dX9_sortOf_15 : decode cX9_sortOf 15 = .ok (.iload_n 2, 1) := by decide +kernel
theorem dX9_sortOf_16 : decode cX9_sortOf 16 = .ok (.invokevirtual 91, 3) := by decide +kernel
theorem dX9_sortOf_19 : decode cX9_sortOf 19 = .ok (.if_icmp .lt 19, 3) := by decide +kernel
theorem dX9_sortOf_22 : decode cX9_sortOf 22 = .ok (.iload_n 1, 1) := by decide +kernel
theorem dX9_sortOf_23 : decode cX9_sortOf 23 = .ok (.aload_n 0, 1) := by decide +kernel
theorem dX9_sortOf_24 : decode cX9_sortOf 24 = .ok (.iload_n 2, 1) := by decide +kernel
theorem dX9_sortOf_25 : decode cX9_sortOf 25 = .ok (.invokevirtual 91, 3) := by decide +kernel
theorem dX9_sortOf_28 : decode cX9_sortOf 28 = .ok (.aload_n 0, 1) := by decide +kernel
theorem dX9_sortOf_29 : decode cX9_sortOf 29 = .ok (.getfield 26, 3) := by decide +kernel
theorem dX9_sortOf_32 : decode cX9_sortOf 32 = .ok (.iload_n 2, 1) := by decide +kernel
theorem dX9_sortOf_33 : decode cX9_sortOf 33 = .ok (.iaload, 1) := by decide +kernel
theorem dX9_sortOf_34 : decode cX9_sortOf 34 = .ok (.iadd, 1) := by decide +kernel
theorem dX9_sortOf_35 : decode cX9_sortOf 35 = .ok (.if_icmp .lt 5, 3) := by decide +kernel
theorem dX9_sortOf_38 : decode cX9_sortOf 38 = .ok (.iconst 2, 1) := by decide +kernel
theorem dX9_sortOf_39 : decode cX9_sortOf 39 = .ok (.ireturn, 1) := by decide +kernel
theorem dX9_sortOf_40 : decode cX9_sortOf 40 = .ok (.aload_n 0, 1) := by decide +kernel
theorem dX9_sortOf_41 : decode cX9_sortOf 41 = .ok (.iload_n 2, 1) := by decide +kernel
theorem dX9_sortOf_42 : decode cX9_sortOf 42 = .ok (.invokevirtual 98, 3) := by decide +kernel
theorem dX9_sortOf_45 : decode cX9_sortOf 45 = .ok (.ifCond .eq 7, 3) := by decide +kernel
theorem dX9_sortOf_48 : decode cX9_sortOf 48 = .ok (.iconst 0, 1) := by decide +kernel
theorem dX9_sortOf_49 : decode cX9_sortOf 49 = .ok (.goto 4, 3) := by decide +kernel
theorem dX9_sortOf_52 : decode cX9_sortOf 52 = .ok (.iconst 1, 1) := by decide +kernel
theorem dX9_sortOf_53 : decode cX9_sortOf 53 = .ok (.ireturn, 1) := by decide +kernel
theorem dX9_drop_0 : decode cX9_drop 0 = .ok (.aload_n 0, 1) := by decide +kernel
theorem dX9_drop_1 : decode cX9_drop 1 = .ok (.dup, 1) := by decide +kernel
theorem dX9_drop_2 : decode cX9_drop 2 = .ok (.getfield 88, 3) := by decide +kernel
theorem dX9_drop_5 : decode cX9_drop 5 = .ok (.iconst 1, 1) := by decide +kernel
theorem dX9_drop_6 : decode cX9_drop 6 = .ok (.isub, 1) := by decide +kernel
theorem dX9_drop_7 : decode cX9_drop 7 = .ok (.putfield 88, 3) := by decide +kernel
theorem dX9_drop_10 : decode cX9_drop 10 = .ok (.aload_n 0, 1) := by decide +kernel
theorem dX9_drop_11 : decode cX9_drop 11 = .ok (.getfield 20, 3) := by decide +kernel
theorem dX9_drop_14 : decode cX9_drop 14 = .ok (.iload_n 1, 1) := by decide +kernel
theorem dX9_drop_15 : decode cX9_drop 15 = .ok (.aload_n 0, 1) := by decide +kernel
theorem dX9_drop_16 : decode cX9_drop 16 = .ok (.getfield 20, 3) := by decide +kernel
theorem dX9_drop_19 : decode cX9_drop 19 = .ok (.aload_n 0, 1) := by decide +kernel
theorem dX9_drop_20 : decode cX9_drop 20 = .ok (.getfield 88, 3) := by decide +kernel
theorem dX9_drop_23 : decode cX9_drop 23 = .ok (.iaload, 1) := by decide +kernel
theorem dX9_drop_24 : decode cX9_drop 24 = .ok (.iastore, 1) := by decide +kernel
theorem dX9_drop_25 : decode cX9_drop 25 = .ok (.aload_n 0, 1) := by decide +kernel
theorem dX9_drop_26 : decode cX9_drop 26 = .ok (.getfield 23, 3) := by decide +kernel
theorem dX9_drop_29 : decode cX9_drop 29 = .ok (.iload_n 1, 1) := by decide +kernel
theorem dX9_drop_30 : decode cX9_drop 30 = .ok (.aload_n 0, 1) := by decide +kernel
theorem dX9_drop_31 : decode cX9_drop 31 = .ok (.getfield 23, 3) := by decide +kernel
theorem dX9_drop_34 : decode cX9_drop 34 = .ok (.aload_n 0, 1) := by decide +kernel
theorem dX9_drop_35 : decode cX9_drop 35 = .ok (.getfield 88, 3) := by decide +kernel
theorem dX9_drop_38 : decode cX9_drop 38 = .ok (.iaload, 1) := by decide +kernel
theorem dX9_drop_39 : decode cX9_drop 39 = .ok (.iastore, 1) := by decide +kernel
theorem dX9_drop_40 : decode cX9_drop 40 = .ok (.aload_n 0, 1) := by decide +kernel
theorem dX9_drop_41 : decode cX9_drop 41 = .ok (.getfield 26, 3) := by decide +kernel
theorem dX9_drop_44 : decode cX9_drop 44 = .ok (.iload_n 1, 1) := by decide +kernel
theorem dX9_drop_45 : decode cX9_drop 45 = .ok (.aload_n 0, 1) := by decide +kernel
theorem dX9_drop_46 : decode cX9_drop 46 = .ok (.getfield 26, 3) := by decide +kernel
theorem dX9_drop_49 : decode cX9_drop 49 = .ok (.aload_n 0, 1) := by decide +kernel
theorem dX9_drop_50 : decode cX9_drop 50 = .ok (.getfield 88, 3) := by decide +kernel
theorem dX9_drop_53 : decode cX9_drop 53 = .ok (.iaload, 1) := by decide +kernel
theorem dX9_drop_54 : decode cX9_drop 54 = .ok (.iastore, 1) := by decide +kernel
theorem dX9_drop_55 : decode cX9_drop 55 = .ok (.aload_n 0, 1) := by decide +kernel
theorem dX9_drop_56 : decode cX9_drop 56 = .ok (.getfield 29, 3) := by decide +kernel
theorem dX9_drop_59 : decode cX9_drop 59 = .ok (.iload_n 1, 1) := by decide +kernel
theorem dX9_drop_60 : decode cX9_drop 60 = .ok (.aload_n 0, 1) := by decide +kernel
theorem dX9_drop_61 : decode cX9_drop 61 = .ok (.getfield 29, 3) := by decide +kernel
theorem dX9_drop_64 : decode cX9_drop 64 = .ok (.aload_n 0, 1) := by decide +kernel
theorem dX9_drop_65 : decode cX9_drop 65 = .ok (.getfield 88, 3) := by decide +kernel
theorem dX9_drop_68 : decode cX9_drop 68 = .ok (.iaload, 1) := by decide +kernel
theorem dX9_drop_69 : decode cX9_drop 69 = .ok (.iastore, 1) := by decide +kernel
theorem dX9_drop_70 : decode cX9_drop 70 = .ok (.aload_n 0, 1) := by decide +kernel
theorem dX9_drop_71 : decode cX9_drop 71 = .ok (.getfield 32, 3) := by decide +kernel
theorem dX9_drop_74 : decode cX9_drop 74 = .ok (.iload_n 1, 1) := by decide +kernel
theorem dX9_drop_75 : decode cX9_drop 75 = .ok (.aload_n 0, 1) := by decide +kernel
theorem dX9_drop_76 : decode cX9_drop 76 = .ok (.getfield 32, 3) := by decide +kernel
theorem dX9_drop_79 : decode cX9_drop 79 = .ok (.aload_n 0, 1) := by decide +kernel
theorem dX9_drop_80 : decode cX9_drop 80 = .ok (.getfield 88, 3) := by decide +kernel
theorem dX9_drop_83 : decode cX9_drop 83 = .ok (.iaload, 1) := by decide +kernel
theorem dX9_drop_84 : decode cX9_drop 84 = .ok (.iastore, 1) := by decide +kernel
theorem dX9_drop_85 : decode cX9_drop 85 = .ok (.return_, 1) := by decide +kernel
theorem dX9_faulty_0 : decode cX9_faulty 0 = .ok (.aload_n 0, 1) := by decide +kernel
theorem dX9_faulty_1 : decode cX9_faulty 1 = .ok (.getfield 44, 3) := by decide +kernel
theorem dX9_faulty_4 : decode cX9_faulty 4 = .ok (.aload_n 0, 1) := by decide +kernel
theorem dX9_faulty_5 : decode cX9_faulty 5 = .ok (.getfield 102, 3) := by decide +kernel
theorem dX9_faulty_8 : decode cX9_faulty 8 = .ok (.bipush 32, 2) := by decide +kernel
theorem dX9_faulty_10 : decode cX9_faulty 10 = .ok (.irem, 1) := by decide +kernel
theorem dX9_faulty_11 : decode cX9_faulty 11 = .ok (.iload_n 1, 1) := by decide +kernel
theorem dX9_faulty_12 : decode cX9_faulty 12 = .ok (.iastore, 1) := by decide +kernel
theorem dX9_faulty_13 : decode cX9_faulty 13 = .ok (.aload_n 0, 1) := by decide +kernel
theorem dX9_faulty_14 : decode cX9_faulty 14 = .ok (.getfield 47, 3) := by decide +kernel
theorem dX9_faulty_17 : decode cX9_faulty 17 = .ok (.aload_n 0, 1) := by decide +kernel
theorem dX9_faulty_18 : decode cX9_faulty 18 = .ok (.getfield 102, 3) := by decide +kernel
theorem dX9_faulty_21 : decode cX9_faulty 21 = .ok (.bipush 32, 2) := by decide +kernel
theorem dX9_faulty_23 : decode cX9_faulty 23 = .ok (.irem, 1) := by decide +kernel
theorem dX9_faulty_24 : decode cX9_faulty 24 = .ok (.iload_n 2, 1) := by decide +kernel
theorem dX9_faulty_25 : decode cX9_faulty 25 = .ok (.iastore, 1) := by decide +kernel
theorem dX9_faulty_26 : decode cX9_faulty 26 = .ok (.aload_n 0, 1) := by decide +kernel
theorem dX9_faulty_27 : decode cX9_faulty 27 = .ok (.dup, 1) := by decide +kernel
theorem dX9_faulty_28 : decode cX9_faulty 28 = .ok (.getfield 102, 3) := by decide +kernel
theorem dX9_faulty_31 : decode cX9_faulty 31 = .ok (.iconst 1, 1) := by decide +kernel
theorem dX9_faulty_32 : decode cX9_faulty 32 = .ok (.iadd, 1) := by decide +kernel
theorem dX9_faulty_33 : decode cX9_faulty 33 = .ok (.putfield 102, 3) := by decide +kernel
theorem dX9_faulty_36 : decode cX9_faulty 36 = .ok (.return_, 1) := by decide +kernel
theorem dX9_takeFree_0 : decode cX9_takeFree 0 = .ok (.aload_n 0, 1) := by decide +kernel
theorem dX9_takeFree_1 : decode cX9_takeFree 1 = .ok (.dup, 1) := by decide +kernel
theorem dX9_takeFree_2 : decode cX9_takeFree 2 = .ok (.getfield 105, 3) := by decide +kernel
theorem dX9_takeFree_5 : decode cX9_takeFree 5 = .ok (.iconst 1, 1) := by decide +kernel
theorem dX9_takeFree_6 : decode cX9_takeFree 6 = .ok (.isub, 1) := by decide +kernel
theorem dX9_takeFree_7 : decode cX9_takeFree 7 = .ok (.putfield 105, 3) := by decide +kernel
theorem dX9_takeFree_10 : decode cX9_takeFree 10 = .ok (.iload_n 1, 1) := by decide +kernel
theorem dX9_takeFree_11 : decode cX9_takeFree 11 = .ok (.istore_n 2, 1) := by decide +kernel
theorem dX9_takeFree_12 : decode cX9_takeFree 12 = .ok (.iload_n 2, 1) := by decide +kernel
theorem dX9_takeFree_13 : decode cX9_takeFree 13 = .ok (.aload_n 0, 1) := by decide +kernel
theorem dX9_takeFree_14 : decode cX9_takeFree 14 = .ok (.getfield 105, 3) := by decide +kernel
theorem dX9_takeFree_17 : decode cX9_takeFree 17 = .ok (.if_icmp .ge 37, 3) := by decide +kernel
theorem dX9_takeFree_20 : decode cX9_takeFree 20 = .ok (.aload_n 0, 1) := by decide +kernel
theorem dX9_takeFree_21 : decode cX9_takeFree 21 = .ok (.getfield 35, 3) := by decide +kernel
theorem dX9_takeFree_24 : decode cX9_takeFree 24 = .ok (.iload_n 2, 1) := by decide +kernel
theorem dX9_takeFree_25 : decode cX9_takeFree 25 = .ok (.aload_n 0, 1) := by decide +kernel
theorem dX9_takeFree_26 : decode cX9_takeFree 26 = .ok (.getfield 35, 3) := by decide +kernel
theorem dX9_takeFree_29 : decode cX9_takeFree 29 = .ok (.iload_n 2, 1) := by decide +kernel
theorem dX9_takeFree_30 : decode cX9_takeFree 30 = .ok (.iconst 1, 1) := by decide +kernel
theorem dX9_takeFree_31 : decode cX9_takeFree 31 = .ok (.iadd, 1) := by decide +kernel
theorem dX9_takeFree_32 : decode cX9_takeFree 32 = .ok (.iaload, 1) := by decide +kernel
theorem dX9_takeFree_33 : decode cX9_takeFree 33 = .ok (.iastore, 1) := by decide +kernel
theorem dX9_takeFree_34 : decode cX9_takeFree 34 = .ok (.aload_n 0, 1) := by decide +kernel
theorem dX9_takeFree_35 : decode cX9_takeFree 35 = .ok (.getfield 38, 3) := by decide +kernel
theorem dX9_takeFree_38 : decode cX9_takeFree 38 = .ok (.iload_n 2, 1) := by decide +kernel
theorem dX9_takeFree_39 : decode cX9_takeFree 39 = .ok (.aload_n 0, 1) := by decide +kernel
theorem dX9_takeFree_40 : decode cX9_takeFree 40 = .ok (.getfield 38, 3) := by decide +kernel
theorem dX9_takeFree_43 : decode cX9_takeFree 43 = .ok (.iload_n 2, 1) := by decide +kernel
theorem dX9_takeFree_44 : decode cX9_takeFree 44 = .ok (.iconst 1, 1) := by decide +kernel
theorem dX9_takeFree_45 : decode cX9_takeFree 45 = .ok (.iadd, 1) := by decide +kernel
theorem dX9_takeFree_46 : decode cX9_takeFree 46 = .ok (.iaload, 1) := by decide +kernel
theorem dX9_takeFree_47 : decode cX9_takeFree 47 = .ok (.iastore, 1) := by decide +kernel
theorem dX9_takeFree_48 : decode cX9_takeFree 48 = .ok (.iinc 2 1, 3) := by decide +kernel
theorem dX9_takeFree_51 : decode cX9_takeFree 51 = .ok (.goto (-39), 3) := by decide +kernel
theorem dX9_takeFree_54 : decode cX9_takeFree 54 = .ok (.return_, 1) := by decide +kernel
theorem dX9_addFree_0 : decode cX9_addFree 0 = .ok (.aload_n 0, 1) := by decide +kernel
theorem dX9_addFree_1 : decode cX9_addFree 1 = .ok (.getfield 35, 3) := by decide +kernel
theorem dX9_addFree_4 : decode cX9_addFree 4 = .ok (.aload_n 0, 1) := by decide +kernel
theorem dX9_addFree_5 : decode cX9_addFree 5 = .ok (.getfield 105, 3) := by decide +kernel
theorem dX9_addFree_8 : decode cX9_addFree 8 = .ok (.iload_n 1, 1) := by decide +kernel
theorem dX9_addFree_9 : decode cX9_addFree 9 = .ok (.iastore, 1) := by decide +kernel
theorem dX9_addFree_10 : decode cX9_addFree 10 = .ok (.aload_n 0, 1) := by decide +kernel
theorem dX9_addFree_11 : decode cX9_addFree 11 = .ok (.getfield 38, 3) := by decide +kernel
theorem dX9_addFree_14 : decode cX9_addFree 14 = .ok (.aload_n 0, 1) := by decide +kernel
theorem dX9_addFree_15 : decode cX9_addFree 15 = .ok (.getfield 105, 3) := by decide +kernel
theorem dX9_addFree_18 : decode cX9_addFree 18 = .ok (.iload_n 2, 1) := by decide +kernel
theorem dX9_addFree_19 : decode cX9_addFree 19 = .ok (.iastore, 1) := by decide +kernel
theorem dX9_addFree_20 : decode cX9_addFree 20 = .ok (.aload_n 0, 1) := by decide +kernel
theorem dX9_addFree_21 : decode cX9_addFree 21 = .ok (.dup, 1) := by decide +kernel
theorem dX9_addFree_22 : decode cX9_addFree 22 = .ok (.getfield 105, 3) := by decide +kernel
theorem dX9_addFree_25 : decode cX9_addFree 25 = .ok (.iconst 1, 1) := by decide +kernel
theorem dX9_addFree_26 : decode cX9_addFree 26 = .ok (.iadd, 1) := by decide +kernel
theorem dX9_addFree_27 : decode cX9_addFree 27 = .ok (.putfield 105, 3) := by decide +kernel
theorem dX9_addFree_30 : decode cX9_addFree 30 = .ok (.return_, 1) := by decide +kernel
theorem dX9_greatBeside_0 : decode cX9_greatBeside 0 = .ok (.iconst 0, 1) := by decide +kernel
theorem dX9_greatBeside_1 : decode cX9_greatBeside 1 = .ok (.istore_n 3, 1) := by decide +kernel
theorem dX9_greatBeside_2 : decode cX9_greatBeside 2 = .ok (.iload_n 3, 1) := by decide +kernel
theorem dX9_greatBeside_3 : decode cX9_greatBeside 3 = .ok (.aload_n 0, 1) := by decide +kernel
theorem dX9_greatBeside_4 : decode cX9_greatBeside 4 = .ok (.getfield 105, 3) := by decide +kernel
theorem dX9_greatBeside_7 : decode cX9_greatBeside 7 = .ok (.if_icmp .ge 47, 3) := by decide +kernel
theorem dX9_greatBeside_10 : decode cX9_greatBeside 10 = .ok (.aload_n 0, 1) := by decide +kernel
theorem dX9_greatBeside_11 : decode cX9_greatBeside 11 = .ok (.getfield 38, 3) := by decide +kernel
theorem dX9_greatBeside_14 : decode cX9_greatBeside 14 = .ok (.iload_n 3, 1) := by decide +kernel
theorem dX9_greatBeside_15 : decode cX9_greatBeside 15 = .ok (.iaload, 1) := by decide +kernel
theorem dX9_greatBeside_16 : decode cX9_greatBeside 16 = .ok (.bipush 64, 2) := by decide +kernel
theorem dX9_greatBeside_18 : decode cX9_greatBeside 18 = .ok (.if_icmp .le 30, 3) := by decide +kernel
theorem dX9_greatBeside_21 : decode cX9_greatBeside 21 = .ok (.aload_n 0, 1) := by decide +kernel
theorem dX9_greatBeside_22 : decode cX9_greatBeside 22 = .ok (.getfield 35, 3) := by decide +kernel
theorem dX9_greatBeside_25 : decode cX9_greatBeside 25 = .ok (.iload_n 3, 1) := by decide +kernel
theorem dX9_greatBeside_26 : decode cX9_greatBeside 26 = .ok (.iaload, 1) := by decide +kernel
theorem dX9_greatBeside_27 : decode cX9_greatBeside 27 = .ok (.iload_n 2, 1) := by decide +kernel
theorem dX9_greatBeside_28 : decode cX9_greatBeside 28 = .ok (.ifCond .eq 12, 3) := by decide +kernel
theorem dX9_greatBeside_31 : decode cX9_greatBeside 31 = .ok (.aload_n 0, 1) := by decide +kernel
theorem dX9_greatBeside_32 : decode cX9_greatBeside 32 = .ok (.getfield 38, 3) := by decide +kernel
theorem dX9_greatBeside_35 : decode cX9_greatBeside 35 = .ok (.iload_n 3, 1) := by decide +kernel
theorem dX9_greatBeside_36 : decode cX9_greatBeside 36 = .ok (.iaload, 1) := by decide +kernel
theorem dX9_greatBeside_37 : decode cX9_greatBeside 37 = .ok (.goto 4, 3) := by decide +kernel
theorem dX9_greatBeside_40 : decode cX9_greatBeside 40 = .ok (.iconst 0, 1) := by decide +kernel
theorem dX9_greatBeside_41 : decode cX9_greatBeside 41 = .ok (.iadd, 1) := by decide +kernel
theorem dX9_greatBeside_42 : decode cX9_greatBeside 42 = .ok (.iload_n 1, 1) := by decide +kernel
theorem dX9_greatBeside_43 : decode cX9_greatBeside 43 = .ok (.if_icmp .ne 5, 3) := by decide +kernel
theorem dX9_greatBeside_46 : decode cX9_greatBeside 46 = .ok (.iload_n 3, 1) := by decide +kernel
theorem dX9_greatBeside_47 : decode cX9_greatBeside 47 = .ok (.ireturn, 1) := by decide +kernel
theorem dX9_greatBeside_48 : decode cX9_greatBeside 48 = .ok (.iinc 3 1, 3) := by decide +kernel
theorem dX9_greatBeside_51 : decode cX9_greatBeside 51 = .ok (.goto (-49), 3) := by decide +kernel
theorem dX9_greatBeside_54 : decode cX9_greatBeside 54 = .ok (.iconst (-1), 1) := by decide +kernel
theorem dX9_greatBeside_55 : decode cX9_greatBeside 55 = .ok (.ireturn, 1) := by decide +kernel
theorem dX9_release_0 : decode cX9_release 0 = .ok (.iload_n 1, 1) := by decide +kernel
theorem dX9_release_1 : decode cX9_release 1 = .ok (.istore_n 3, 1) := by decide +kernel
theorem dX9_release_2 : decode cX9_release 2 = .ok (.iload_n 2, 1) := by decide +kernel
theorem dX9_release_3 : decode cX9_release 3 = .ok (.istore 4, 2) := by decide +kernel
theorem dX9_release_5 : decode cX9_release 5 = .ok (.iload 4, 2) := by decide +kernel
theorem dX9_release_7 : decode cX9_release 7 = .ok (.bipush 64, 2) := by decide +kernel
theorem dX9_release_9 : decode cX9_release 9 = .ok (.if_icmp .gt 11, 3) := by decide +kernel
theorem dX9_release_12 : decode cX9_release 12 = .ok (.aload_n 0, 1) := by decide +kernel
theorem dX9_release_13 : decode cX9_release 13 = .ok (.iload_n 3, 1) := by decide +kernel
theorem dX9_release_14 : decode cX9_release 14 = .ok (.iload 4, 2) := by decide +kernel
theorem dX9_release_16 : decode cX9_release 16 = .ok (.invokevirtual 108, 3) := by decide +kernel
theorem dX9_release_19 : decode cX9_release 19 = .ok (.return_, 1) := by decide +kernel
theorem dX9_release_20 : decode cX9_release 20 = .ok (.aload_n 0, 1) := by decide +kernel
theorem dX9_release_21 : decode cX9_release 21 = .ok (.iload_n 3, 1) := by decide +kernel
theorem dX9_release_22 : decode cX9_release 22 = .ok (.iconst 1, 1) := by decide +kernel
theorem dX9_release_23 : decode cX9_release 23 = .ok (.invokevirtual 112, 3) := by decide +kernel
theorem dX9_release_26 : decode cX9_release 26 = .ok (.istore 5, 2) := by decide +kernel
theorem dX9_release_28 : decode cX9_release 28 = .ok (.iload 5, 2) := by decide +kernel
theorem dX9_release_30 : decode cX9_release 30 = .ok (.iconst (-1), 1) := by decide +kernel
theorem dX9_release_31 : decode cX9_release 31 = .ok (.if_icmp .eq 39, 3) := by decide +kernel
theorem dX9_release_34 : decode cX9_release 34 = .ok (.aload_n 0, 1) := by decide +kernel
theorem dX9_release_35 : decode cX9_release 35 = .ok (.getfield 35, 3) := by decide +kernel
theorem dX9_release_38 : decode cX9_release 38 = .ok (.iload 5, 2) := by decide +kernel
theorem dX9_release_40 : decode cX9_release 40 = .ok (.iaload, 1) := by decide +kernel
theorem dX9_release_41 : decode cX9_release 41 = .ok (.istore_n 3, 1) := by decide +kernel
theorem dX9_release_42 : decode cX9_release 42 = .ok (.iload 4, 2) := by decide +kernel
theorem dX9_release_44 : decode cX9_release 44 = .ok (.aload_n 0, 1) := by decide +kernel
theorem dX9_release_45 : decode cX9_release 45 = .ok (.getfield 38, 3) := by decide +kernel
theorem dX9_release_48 : decode cX9_release 48 = .ok (.iload 5, 2) := by decide +kernel
theorem dX9_release_50 : decode cX9_release 50 = .ok (.iaload, 1) := by decide +kernel
theorem dX9_release_51 : decode cX9_release 51 = .ok (.iadd, 1) := by decide +kernel
theorem dX9_release_52 : decode cX9_release 52 = .ok (.istore 4, 2) := by decide +kernel
theorem dX9_release_54 : decode cX9_release 54 = .ok (.aload_n 0, 1) := by decide +kernel
theorem dX9_release_55 : decode cX9_release 55 = .ok (.iload 5, 2) := by decide +kernel
theorem dX9_release_57 : decode cX9_release 57 = .ok (.invokevirtual 116, 3) := by decide +kernel
theorem dX9_release_60 : decode cX9_release 60 = .ok (.aload_n 0, 1) := by decide +kernel
theorem dX9_release_61 : decode cX9_release 61 = .ok (.dup, 1) := by decide +kernel
theorem dX9_release_62 : decode cX9_release 62 = .ok (.getfield 120, 3) := by decide +kernel
theorem dX9_release_65 : decode cX9_release 65 = .ok (.iconst 1, 1) := by decide +kernel
theorem dX9_release_66 : decode cX9_release 66 = .ok (.iadd, 1) := by decide +kernel
theorem dX9_release_67 : decode cX9_release 67 = .ok (.putfield 120, 3) := by decide +kernel
theorem dX9_release_70 : decode cX9_release 70 = .ok (.aload_n 0, 1) := by decide +kernel
theorem dX9_release_71 : decode cX9_release 71 = .ok (.iload_n 3, 1) := by decide +kernel
theorem dX9_release_72 : decode cX9_release 72 = .ok (.iload 4, 2) := by decide +kernel
theorem dX9_release_74 : decode cX9_release 74 = .ok (.iadd, 1) := by decide +kernel
theorem dX9_release_75 : decode cX9_release 75 = .ok (.iconst 0, 1) := by decide +kernel
theorem dX9_release_76 : decode cX9_release 76 = .ok (.invokevirtual 112, 3) := by decide +kernel
theorem dX9_release_79 : decode cX9_release 79 = .ok (.istore 5, 2) := by decide +kernel
theorem dX9_release_81 : decode cX9_release 81 = .ok (.iload 5, 2) := by decide +kernel
theorem dX9_release_83 : decode cX9_release 83 = .ok (.iconst (-1), 1) := by decide +kernel
theorem dX9_release_84 : decode cX9_release 84 = .ok (.if_icmp .eq 31, 3) := by decide +kernel
theorem dX9_release_87 : decode cX9_release 87 = .ok (.iload 4, 2) := by decide +kernel
theorem dX9_release_89 : decode cX9_release 89 = .ok (.aload_n 0, 1) := by decide +kernel
theorem dX9_release_90 : decode cX9_release 90 = .ok (.getfield 38, 3) := by decide +kernel
theorem dX9_release_93 : decode cX9_release 93 = .ok (.iload 5, 2) := by decide +kernel
theorem dX9_release_95 : decode cX9_release 95 = .ok (.iaload, 1) := by decide +kernel
theorem dX9_release_96 : decode cX9_release 96 = .ok (.iadd, 1) := by decide +kernel
theorem dX9_release_97 : decode cX9_release 97 = .ok (.istore 4, 2) := by decide +kernel
theorem dX9_release_99 : decode cX9_release 99 = .ok (.aload_n 0, 1) := by decide +kernel
theorem dX9_release_100 : decode cX9_release 100 = .ok (.iload 5, 2) := by decide +kernel
theorem dX9_release_102 : decode cX9_release 102 = .ok (.invokevirtual 116, 3) := by decide +kernel
theorem dX9_release_105 : decode cX9_release 105 = .ok (.aload_n 0, 1) := by decide +kernel
theorem dX9_release_106 : decode cX9_release 106 = .ok (.dup, 1) := by decide +kernel
theorem dX9_release_107 : decode cX9_release 107 = .ok (.getfield 120, 3) := by decide +kernel
theorem dX9_release_110 : decode cX9_release 110 = .ok (.iconst 1, 1) := by decide +kernel
theorem dX9_release_111 : decode cX9_release 111 = .ok (.iadd, 1) := by decide +kernel
theorem dX9_release_112 : decode cX9_release 112 = .ok (.putfield 120, 3) := by decide +kernel
theorem dX9_release_115 : decode cX9_release 115 = .ok (.iload_n 3, 1) := by decide +kernel
theorem dX9_release_116 : decode cX9_release 116 = .ok (.iload 4, 2) := by decide +kernel
theorem dX9_release_118 : decode cX9_release 118 = .ok (.iadd, 1) := by decide +kernel
theorem dX9_release_119 : decode cX9_release 119 = .ok (.aload_n 0, 1) := by decide +kernel
theorem dX9_release_120 : decode cX9_release 120 = .ok (.getfield 13, 3) := by decide +kernel
theorem dX9_release_123 : decode cX9_release 123 = .ok (.if_icmp .ne 11, 3) := by decide +kernel
theorem dX9_release_126 : decode cX9_release 126 = .ok (.aload_n 0, 1) := by decide +kernel
theorem dX9_release_127 : decode cX9_release 127 = .ok (.iload_n 3, 1) := by decide +kernel
theorem dX9_release_128 : decode cX9_release 128 = .ok (.putfield 13, 3) := by decide +kernel
theorem dX9_release_131 : decode cX9_release 131 = .ok (.goto 10, 3) := by decide +kernel
theorem dX9_release_134 : decode cX9_release 134 = .ok (.aload_n 0, 1) := by decide +kernel
theorem dX9_release_135 : decode cX9_release 135 = .ok (.iload_n 3, 1) := by decide +kernel
theorem dX9_release_136 : decode cX9_release 136 = .ok (.iload 4, 2) := by decide +kernel
theorem dX9_release_138 : decode cX9_release 138 = .ok (.invokevirtual 108, 3) := by decide +kernel
theorem dX9_release_141 : decode cX9_release 141 = .ok (.return_, 1) := by decide +kernel
theorem dX9_fits_0 : decode cX9_fits 0 = .ok (.iconst (-1), 1) := by decide +kernel
theorem dX9_fits_1 : decode cX9_fits 1 = .ok (.istore_n 2, 1) := by decide +kernel
theorem dX9_fits_2 : decode cX9_fits 2 = .ok (.iconst 0, 1) := by decide +kernel
theorem dX9_fits_3 : decode cX9_fits 3 = .ok (.istore_n 3, 1) := by decide +kernel
theorem dX9_fits_4 : decode cX9_fits 4 = .ok (.iload_n 3, 1) := by decide +kernel
theorem dX9_fits_5 : decode cX9_fits 5 = .ok (.aload_n 0, 1) := by decide +kernel
theorem dX9_fits_6 : decode cX9_fits 6 = .ok (.getfield 105, 3) := by decide +kernel
theorem dX9_fits_9 : decode cX9_fits 9 = .ok (.if_icmp .ge 55, 3) := by decide +kernel
theorem dX9_fits_12 : decode cX9_fits 12 = .ok (.aload_n 0, 1) := by decide +kernel
theorem dX9_fits_13 : decode cX9_fits 13 = .ok (.getfield 38, 3) := by decide +kernel
theorem dX9_fits_16 : decode cX9_fits 16 = .ok (.iload_n 3, 1) := by decide +kernel
theorem dX9_fits_17 : decode cX9_fits 17 = .ok (.iaload, 1) := by decide +kernel
theorem dX9_fits_18 : decode cX9_fits 18 = .ok (.iload_n 1, 1) := by decide +kernel
theorem dX9_fits_19 : decode cX9_fits 19 = .ok (.if_icmp .lt 39, 3) := by decide +kernel
theorem dX9_fits_22 : decode cX9_fits 22 = .ok (.aload_n 0, 1) := by decide +kernel
theorem dX9_fits_23 : decode cX9_fits 23 = .ok (.getfield 38, 3) := by decide +kernel
theorem dX9_fits_26 : decode cX9_fits 26 = .ok (.iload_n 3, 1) := by decide +kernel
theorem dX9_fits_27 : decode cX9_fits 27 = .ok (.iaload, 1) := by decide +kernel
theorem dX9_fits_28 : decode cX9_fits 28 = .ok (.bipush 64, 2) := by decide +kernel
theorem dX9_fits_30 : decode cX9_fits 30 = .ok (.if_icmp .le 6, 3) := by decide +kernel
theorem dX9_fits_33 : decode cX9_fits 33 = .ok (.goto 25, 3) := by decide +kernel
theorem dX9_fits_36 : decode cX9_fits 36 = .ok (.iload_n 2, 1) := by decide +kernel
theorem dX9_fits_37 : decode cX9_fits 37 = .ok (.iconst (-1), 1) := by decide +kernel
theorem dX9_fits_38 : decode cX9_fits 38 = .ok (.if_icmp .eq 18, 3) := by decide +kernel
theorem dX9_fits_41 : decode cX9_fits 41 = .ok (.aload_n 0, 1) := by decide +kernel
theorem dX9_fits_42 : decode cX9_fits 42 = .ok (.getfield 38, 3) := by decide +kernel
theorem dX9_fits_45 : decode cX9_fits 45 = .ok (.iload_n 3, 1) := by decide +kernel
theorem dX9_fits_46 : decode cX9_fits 46 = .ok (.iaload, 1) := by decide +kernel
theorem dX9_fits_47 : decode cX9_fits 47 = .ok (.aload_n 0, 1) := by decide +kernel
theorem dX9_fits_48 : decode cX9_fits 48 = .ok (.getfield 38, 3) := by decide +kernel
theorem dX9_fits_51 : decode cX9_fits 51 = .ok (.iload_n 2, 1) := by decide +kernel
theorem dX9_fits_52 : decode cX9_fits 52 = .ok (.iaload, 1) := by decide +kernel
theorem dX9_fits_53 : decode cX9_fits 53 = .ok (.if_icmp .gt 5, 3) := by decide +kernel
theorem dX9_fits_56 : decode cX9_fits 56 = .ok (.iload_n 3, 1) := by decide +kernel
theorem dX9_fits_57 : decode cX9_fits 57 = .ok (.istore_n 2, 1) := by decide +kernel
theorem dX9_fits_58 : decode cX9_fits 58 = .ok (.iinc 3 1, 3) := by decide +kernel
theorem dX9_fits_61 : decode cX9_fits 61 = .ok (.goto (-57), 3) := by decide +kernel
theorem dX9_fits_64 : decode cX9_fits 64 = .ok (.iload_n 2, 1) := by decide +kernel
theorem dX9_fits_65 : decode cX9_fits 65 = .ok (.iconst (-1), 1) := by decide +kernel
theorem dX9_fits_66 : decode cX9_fits 66 = .ok (.if_icmp .eq 5, 3) := by decide +kernel
theorem dX9_fits_69 : decode cX9_fits 69 = .ok (.iload_n 2, 1) := by decide +kernel
theorem dX9_fits_70 : decode cX9_fits 70 = .ok (.ireturn, 1) := by decide +kernel
theorem dX9_fits_71 : decode cX9_fits 71 = .ok (.iconst 0, 1) := by decide +kernel
theorem dX9_fits_72 : decode cX9_fits 72 = .ok (.istore_n 3, 1) := by decide +kernel
theorem dX9_fits_73 : decode cX9_fits 73 = .ok (.iload_n 3, 1) := by decide +kernel
theorem dX9_fits_74 : decode cX9_fits 74 = .ok (.aload_n 0, 1) := by decide +kernel
theorem dX9_fits_75 : decode cX9_fits 75 = .ok (.getfield 105, 3) := by decide +kernel
theorem dX9_fits_78 : decode cX9_fits 78 = .ok (.if_icmp .ge 85, 3) := by decide +kernel
theorem dX9_fits_81 : decode cX9_fits 81 = .ok (.aload_n 0, 1) := by decide +kernel
theorem dX9_fits_82 : decode cX9_fits 82 = .ok (.getfield 38, 3) := by decide +kernel
theorem dX9_fits_85 : decode cX9_fits 85 = .ok (.iload_n 3, 1) := by decide +kernel
theorem dX9_fits_86 : decode cX9_fits 86 = .ok (.iaload, 1) := by decide +kernel
theorem dX9_fits_87 : decode cX9_fits 87 = .ok (.iload_n 1, 1) := by decide +kernel
theorem dX9_fits_88 : decode cX9_fits 88 = .ok (.if_icmp .lt 69, 3) := by decide +kernel
theorem dX9_fits_91 : decode cX9_fits 91 = .ok (.aload_n 0, 1) := by decide +kernel
theorem dX9_fits_92 : decode cX9_fits 92 = .ok (.getfield 38, 3) := by decide +kernel
theorem dX9_fits_95 : decode cX9_fits 95 = .ok (.iload_n 3, 1) := by decide +kernel
theorem dX9_fits_96 : decode cX9_fits 96 = .ok (.iaload, 1) := by decide +kernel
theorem dX9_fits_97 : decode cX9_fits 97 = .ok (.bipush 64, 2) := by decide +kernel
theorem dX9_fits_99 : decode cX9_fits 99 = .ok (.if_icmp .gt 6, 3) := by decide +kernel
theorem dX9_fits_102 : decode cX9_fits 102 = .ok (.goto 55, 3) := by decide +kernel
theorem dX9_fits_105 : decode cX9_fits 105 = .ok (.iload_n 2, 1) := by decide +kernel
theorem dX9_fits_106 : decode cX9_fits 106 = .ok (.iconst (-1), 1) := by decide +kernel
theorem dX9_fits_107 : decode cX9_fits 107 = .ok (.if_icmp .eq 48, 3) := by decide +kernel
theorem dX9_fits_110 : decode cX9_fits 110 = .ok (.aload_n 0, 1) := by decide +kernel
theorem dX9_fits_111 : decode cX9_fits 111 = .ok (.getfield 38, 3) := by decide +kernel
theorem dX9_fits_114 : decode cX9_fits 114 = .ok (.iload_n 3, 1) := by decide +kernel
theorem dX9_fits_115 : decode cX9_fits 115 = .ok (.iaload, 1) := by decide +kernel
theorem dX9_fits_116 : decode cX9_fits 116 = .ok (.aload_n 0, 1) := by decide +kernel
theorem dX9_fits_117 : decode cX9_fits 117 = .ok (.getfield 38, 3) := by decide +kernel
theorem dX9_fits_120 : decode cX9_fits 120 = .ok (.iload_n 2, 1) := by decide +kernel
theorem dX9_fits_121 : decode cX9_fits 121 = .ok (.iaload, 1) := by decide +kernel
theorem dX9_fits_122 : decode cX9_fits 122 = .ok (.if_icmp .lt 33, 3) := by decide +kernel
theorem dX9_fits_125 : decode cX9_fits 125 = .ok (.aload_n 0, 1) := by decide +kernel
theorem dX9_fits_126 : decode cX9_fits 126 = .ok (.getfield 38, 3) := by decide +kernel
theorem dX9_fits_129 : decode cX9_fits 129 = .ok (.iload_n 3, 1) := by decide +kernel
theorem dX9_fits_130 : decode cX9_fits 130 = .ok (.iaload, 1) := by decide +kernel
theorem dX9_fits_131 : decode cX9_fits 131 = .ok (.aload_n 0, 1) := by decide +kernel
theorem dX9_fits_132 : decode cX9_fits 132 = .ok (.getfield 38, 3) := by decide +kernel
theorem dX9_fits_135 : decode cX9_fits 135 = .ok (.iload_n 2, 1) := by decide +kernel
theorem dX9_fits_136 : decode cX9_fits 136 = .ok (.iaload, 1) := by decide +kernel
theorem dX9_fits_137 : decode cX9_fits 137 = .ok (.if_icmp .ne 20, 3) := by decide +kernel
theorem dX9_fits_140 : decode cX9_fits 140 = .ok (.aload_n 0, 1) := by decide +kernel
theorem dX9_fits_141 : decode cX9_fits 141 = .ok (.getfield 35, 3) := by decide +kernel
theorem dX9_fits_144 : decode cX9_fits 144 = .ok (.iload_n 3, 1) := by decide +kernel
theorem dX9_fits_145 : decode cX9_fits 145 = .ok (.iaload, 1) := by decide +kernel
theorem dX9_fits_146 : decode cX9_fits 146 = .ok (.aload_n 0, 1) := by decide +kernel
theorem dX9_fits_147 : decode cX9_fits 147 = .ok (.getfield 35, 3) := by decide +kernel
theorem dX9_fits_150 : decode cX9_fits 150 = .ok (.iload_n 2, 1) := by decide +kernel
theorem dX9_fits_151 : decode cX9_fits 151 = .ok (.iaload, 1) := by decide +kernel
theorem dX9_fits_152 : decode cX9_fits 152 = .ok (.if_icmp .ge 5, 3) := by decide +kernel
theorem dX9_fits_155 : decode cX9_fits 155 = .ok (.iload_n 3, 1) := by decide +kernel
theorem dX9_fits_156 : decode cX9_fits 156 = .ok (.istore_n 2, 1) := by decide +kernel
theorem dX9_fits_157 : decode cX9_fits 157 = .ok (.iinc 3 1, 3) := by decide +kernel
theorem dX9_fits_160 : decode cX9_fits 160 = .ok (.goto (-87), 3) := by decide +kernel
theorem dX9_fits_163 : decode cX9_fits 163 = .ok (.iload_n 2, 1) := by decide +kernel
theorem dX9_fits_164 : decode cX9_fits 164 = .ok (.ireturn, 1) := by decide +kernel
theorem dX9_find_0 : decode cX9_find 0 = .ok (.aload_n 0, 1) := by decide +kernel
theorem dX9_find_1 : decode cX9_find 1 = .ok (.iload_n 1, 1) := by decide +kernel
theorem dX9_find_2 : decode cX9_find 2 = .ok (.invokevirtual 123, 3) := by decide +kernel
theorem dX9_find_5 : decode cX9_find 5 = .ok (.istore_n 2, 1) := by decide +kernel
theorem dX9_find_6 : decode cX9_find 6 = .ok (.iload_n 2, 1) := by decide +kernel
theorem dX9_find_7 : decode cX9_find 7 = .ok (.iconst (-1), 1) := by decide +kernel
theorem dX9_find_8 : decode cX9_find 8 = .ok (.if_icmp .ne 61, 3) := by decide +kernel
theorem dX9_find_11 : decode cX9_find 11 = .ok (.iload_n 1, 1) := by decide +kernel
theorem dX9_find_12 : decode cX9_find 12 = .ok (.aload_n 0, 1) := by decide +kernel
theorem dX9_find_13 : decode cX9_find 13 = .ok (.getfield 76, 3) := by decide +kernel
theorem dX9_find_16 : decode cX9_find 16 = .ok (.aload_n 0, 1) := by decide +kernel
theorem dX9_find_17 : decode cX9_find 17 = .ok (.getfield 13, 3) := by decide +kernel
theorem dX9_find_20 : decode cX9_find 20 = .ok (.isub, 1) := by decide +kernel
theorem dX9_find_21 : decode cX9_find 21 = .ok (.if_icmp .le 5, 3) := by decide +kernel
theorem dX9_find_24 : decode cX9_find 24 = .ok (.iconst (-1), 1) := by decide +kernel
theorem dX9_find_25 : decode cX9_find 25 = .ok (.ireturn, 1) := by decide +kernel
theorem dX9_find_26 : decode cX9_find 26 = .ok (.aload_n 0, 1) := by decide +kernel
theorem dX9_find_27 : decode cX9_find 27 = .ok (.getfield 13, 3) := by decide +kernel
theorem dX9_find_30 : decode cX9_find 30 = .ok (.istore_n 3, 1) := by decide +kernel
theorem dX9_find_31 : decode cX9_find 31 = .ok (.aload_n 0, 1) := by decide +kernel
theorem dX9_find_32 : decode cX9_find 32 = .ok (.dup, 1) := by decide +kernel
theorem dX9_find_33 : decode cX9_find 33 = .ok (.getfield 13, 3) := by decide +kernel
theorem dX9_find_36 : decode cX9_find 36 = .ok (.iload_n 1, 1) := by decide +kernel
theorem dX9_find_37 : decode cX9_find 37 = .ok (.iadd, 1) := by decide +kernel
theorem dX9_find_38 : decode cX9_find 38 = .ok (.putfield 13, 3) := by decide +kernel
theorem dX9_find_41 : decode cX9_find 41 = .ok (.aload_n 0, 1) := by decide +kernel
theorem dX9_find_42 : decode cX9_find 42 = .ok (.aload_n 0, 1) := by decide +kernel
theorem dX9_find_43 : decode cX9_find 43 = .ok (.getfield 13, 3) := by decide +kernel
theorem dX9_find_46 : decode cX9_find 46 = .ok (.aload_n 0, 1) := by decide +kernel
theorem dX9_find_47 : decode cX9_find 47 = .ok (.getfield 17, 3) := by decide +kernel
theorem dX9_find_50 : decode cX9_find 50 = .ok (.if_icmp .le 10, 3) := by decide +kernel
theorem dX9_find_53 : decode cX9_find 53 = .ok (.aload_n 0, 1) := by decide +kernel
theorem dX9_find_54 : decode cX9_find 54 = .ok (.getfield 13, 3) := by decide +kernel
theorem dX9_find_57 : decode cX9_find 57 = .ok (.goto 7, 3) := by decide +kernel
theorem dX9_find_60 : decode cX9_find 60 = .ok (.aload_n 0, 1) := by decide +kernel
theorem dX9_find_61 : decode cX9_find 61 = .ok (.getfield 17, 3) := by decide +kernel
theorem dX9_find_64 : decode cX9_find 64 = .ok (.putfield 17, 3) := by decide +kernel
theorem dX9_find_67 : decode cX9_find 67 = .ok (.iload_n 3, 1) := by decide +kernel
theorem dX9_find_68 : decode cX9_find 68 = .ok (.ireturn, 1) := by decide +kernel
theorem dX9_find_69 : decode cX9_find 69 = .ok (.aload_n 0, 1) := by decide +kernel
theorem dX9_find_70 : decode cX9_find 70 = .ok (.getfield 35, 3) := by decide +kernel
theorem dX9_find_73 : decode cX9_find 73 = .ok (.iload_n 2, 1) := by decide +kernel
theorem dX9_find_74 : decode cX9_find 74 = .ok (.iaload, 1) := by decide +kernel
theorem dX9_find_75 : decode cX9_find 75 = .ok (.istore_n 3, 1) := by decide +kernel
theorem dX9_find_76 : decode cX9_find 76 = .ok (.aload_n 0, 1) := by decide +kernel
theorem dX9_find_77 : decode cX9_find 77 = .ok (.getfield 38, 3) := by decide +kernel
theorem dX9_find_80 : decode cX9_find 80 = .ok (.iload_n 2, 1) := by decide +kernel
theorem dX9_find_81 : decode cX9_find 81 = .ok (.iaload, 1) := by decide +kernel
theorem dX9_find_82 : decode cX9_find 82 = .ok (.istore 4, 2) := by decide +kernel
theorem dX9_find_84 : decode cX9_find 84 = .ok (.aload_n 0, 1) := by decide +kernel
theorem dX9_find_85 : decode cX9_find 85 = .ok (.iload_n 2, 1) := by decide +kernel
theorem dX9_find_86 : decode cX9_find 86 = .ok (.invokevirtual 116, 3) := by decide +kernel
theorem dX9_find_89 : decode cX9_find 89 = .ok (.iload 4, 2) := by decide +kernel
theorem dX9_find_91 : decode cX9_find 91 = .ok (.iload_n 1, 1) := by decide +kernel
theorem dX9_find_92 : decode cX9_find 92 = .ok (.if_icmp .le 24, 3) := by decide +kernel
theorem dX9_find_95 : decode cX9_find 95 = .ok (.aload_n 0, 1) := by decide +kernel
theorem dX9_find_96 : decode cX9_find 96 = .ok (.dup, 1) := by decide +kernel
theorem dX9_find_97 : decode cX9_find 97 = .ok (.getfield 126, 3) := by decide +kernel
theorem dX9_find_100 : decode cX9_find 100 = .ok (.iconst 1, 1) := by decide +kernel
theorem dX9_find_101 : decode cX9_find 101 = .ok (.iadd, 1) := by decide +kernel
theorem dX9_find_102 : decode cX9_find 102 = .ok (.putfield 126, 3) := by decide +kernel
theorem dX9_find_105 : decode cX9_find 105 = .ok (.aload_n 0, 1) := by decide +kernel
theorem dX9_find_106 : decode cX9_find 106 = .ok (.iload_n 3, 1) := by decide +kernel
theorem dX9_find_107 : decode cX9_find 107 = .ok (.iload_n 1, 1) := by decide +kernel
theorem dX9_find_108 : decode cX9_find 108 = .ok (.iadd, 1) := by decide +kernel
theorem dX9_find_109 : decode cX9_find 109 = .ok (.iload 4, 2) := by decide +kernel
theorem dX9_find_111 : decode cX9_find 111 = .ok (.iload_n 1, 1) := by decide +kernel
theorem dX9_find_112 : decode cX9_find 112 = .ok (.isub, 1) := by decide +kernel
theorem dX9_find_113 : decode cX9_find 113 = .ok (.invokevirtual 129, 3) := by decide +kernel
theorem dX9_find_116 : decode cX9_find 116 = .ok (.iload_n 3, 1) := by decide +kernel
theorem dX9_find_117 : decode cX9_find 117 = .ok (.ireturn, 1) := by decide +kernel
theorem dX9_longest_0 : decode cX9_longest 0 = .ok (.iconst (-1), 1) := by decide +kernel
theorem dX9_longest_1 : decode cX9_longest 1 = .ok (.istore_n 1, 1) := by decide +kernel
theorem dX9_longest_2 : decode cX9_longest 2 = .ok (.iconst 0, 1) := by decide +kernel
theorem dX9_longest_3 : decode cX9_longest 3 = .ok (.istore_n 2, 1) := by decide +kernel
theorem dX9_longest_4 : decode cX9_longest 4 = .ok (.iload_n 2, 1) := by decide +kernel
theorem dX9_longest_5 : decode cX9_longest 5 = .ok (.aload_n 0, 1) := by decide +kernel
theorem dX9_longest_6 : decode cX9_longest 6 = .ok (.getfield 88, 3) := by decide +kernel
theorem dX9_longest_9 : decode cX9_longest 9 = .ok (.if_icmp .ge 39, 3) := by decide +kernel
theorem dX9_longest_12 : decode cX9_longest 12 = .ok (.aload_n 0, 1) := by decide +kernel
theorem dX9_longest_13 : decode cX9_longest 13 = .ok (.iload_n 2, 1) := by decide +kernel
theorem dX9_longest_14 : decode cX9_longest 14 = .ok (.invokevirtual 98, 3) := by decide +kernel
theorem dX9_longest_17 : decode cX9_longest 17 = .ok (.ifCond .ne 25, 3) := by decide +kernel
theorem dX9_longest_20 : decode cX9_longest 20 = .ok (.iload_n 1, 1) := by decide +kernel
theorem dX9_longest_21 : decode cX9_longest 21 = .ok (.iconst (-1), 1) := by decide +kernel
theorem dX9_longest_22 : decode cX9_longest 22 = .ok (.if_icmp .eq 18, 3) := by decide +kernel
theorem dX9_longest_25 : decode cX9_longest 25 = .ok (.aload_n 0, 1) := by decide +kernel
theorem dX9_longest_26 : decode cX9_longest 26 = .ok (.getfield 32, 3) := by decide +kernel
theorem dX9_longest_29 : decode cX9_longest 29 = .ok (.iload_n 2, 1) := by decide +kernel
theorem dX9_longest_30 : decode cX9_longest 30 = .ok (.iaload, 1) := by decide +kernel
theorem dX9_longest_31 : decode cX9_longest 31 = .ok (.aload_n 0, 1) := by decide +kernel
theorem dX9_longest_32 : decode cX9_longest 32 = .ok (.getfield 32, 3) := by decide +kernel
theorem dX9_longest_35 : decode cX9_longest 35 = .ok (.iload_n 1, 1) := by decide +kernel
theorem dX9_longest_36 : decode cX9_longest 36 = .ok (.iaload, 1) := by decide +kernel
theorem dX9_longest_37 : decode cX9_longest 37 = .ok (.if_icmp .ge 5, 3) := by decide +kernel
theorem dX9_longest_40 : decode cX9_longest 40 = .ok (.iload_n 2, 1) := by decide +kernel
theorem dX9_longest_41 : decode cX9_longest 41 = .ok (.istore_n 1, 1) := by decide +kernel
theorem dX9_longest_42 : decode cX9_longest 42 = .ok (.iinc 2 1, 3) := by decide +kernel
theorem dX9_longest_45 : decode cX9_longest 45 = .ok (.goto (-41), 3) := by decide +kernel
theorem dX9_longest_48 : decode cX9_longest 48 = .ok (.iload_n 1, 1) := by decide +kernel
theorem dX9_longest_49 : decode cX9_longest 49 = .ok (.ireturn, 1) := by decide +kernel
theorem dX9_oneGoes_0 : decode cX9_oneGoes 0 = .ok (.aload_n 0, 1) := by decide +kernel
theorem dX9_oneGoes_1 : decode cX9_oneGoes 1 = .ok (.invokevirtual 132, 3) := by decide +kernel
theorem dX9_oneGoes_4 : decode cX9_oneGoes 4 = .ok (.istore_n 1, 1) := by decide +kernel
theorem dX9_oneGoes_5 : decode cX9_oneGoes 5 = .ok (.iload_n 1, 1) := by decide +kernel
theorem dX9_oneGoes_6 : decode cX9_oneGoes 6 = .ok (.iconst (-1), 1) := by decide +kernel
theorem dX9_oneGoes_7 : decode cX9_oneGoes 7 = .ok (.if_icmp .ne 5, 3) := by decide +kernel
theorem dX9_oneGoes_10 : decode cX9_oneGoes 10 = .ok (.iconst 0, 1) := by decide +kernel
theorem dX9_oneGoes_11 : decode cX9_oneGoes 11 = .ok (.ireturn, 1) := by decide +kernel
theorem dX9_oneGoes_12 : decode cX9_oneGoes 12 = .ok (.aload_n 0, 1) := by decide +kernel
theorem dX9_oneGoes_13 : decode cX9_oneGoes 13 = .ok (.getfield 20, 3) := by decide +kernel
theorem dX9_oneGoes_16 : decode cX9_oneGoes 16 = .ok (.iload_n 1, 1) := by decide +kernel
theorem dX9_oneGoes_17 : decode cX9_oneGoes 17 = .ok (.iaload, 1) := by decide +kernel
theorem dX9_oneGoes_18 : decode cX9_oneGoes 18 = .ok (.istore_n 2, 1) := by decide +kernel
theorem dX9_oneGoes_19 : decode cX9_oneGoes 19 = .ok (.aload_n 0, 1) := by decide +kernel
theorem dX9_oneGoes_20 : decode cX9_oneGoes 20 = .ok (.getfield 23, 3) := by decide +kernel
theorem dX9_oneGoes_23 : decode cX9_oneGoes 23 = .ok (.iload_n 1, 1) := by decide +kernel
theorem dX9_oneGoes_24 : decode cX9_oneGoes 24 = .ok (.iaload, 1) := by decide +kernel
theorem dX9_oneGoes_25 : decode cX9_oneGoes 25 = .ok (.istore_n 3, 1) := by decide +kernel
theorem dX9_oneGoes_26 : decode cX9_oneGoes 26 = .ok (.aload_n 0, 1) := by decide +kernel
theorem dX9_oneGoes_27 : decode cX9_oneGoes 27 = .ok (.iload_n 1, 1) := by decide +kernel
theorem dX9_oneGoes_28 : decode cX9_oneGoes 28 = .ok (.invokevirtual 136, 3) := by decide +kernel
theorem dX9_oneGoes_31 : decode cX9_oneGoes 31 = .ok (.aload_n 0, 1) := by decide +kernel
theorem dX9_oneGoes_32 : decode cX9_oneGoes 32 = .ok (.dup, 1) := by decide +kernel
theorem dX9_oneGoes_33 : decode cX9_oneGoes 33 = .ok (.getfield 139, 3) := by decide +kernel
theorem dX9_oneGoes_36 : decode cX9_oneGoes 36 = .ok (.iconst 1, 1) := by decide +kernel
theorem dX9_oneGoes_37 : decode cX9_oneGoes 37 = .ok (.iadd, 1) := by decide +kernel
theorem dX9_oneGoes_38 : decode cX9_oneGoes 38 = .ok (.putfield 139, 3) := by decide +kernel
theorem dX9_oneGoes_41 : decode cX9_oneGoes 41 = .ok (.aload_n 0, 1) := by decide +kernel
theorem dX9_oneGoes_42 : decode cX9_oneGoes 42 = .ok (.iload_n 2, 1) := by decide +kernel
theorem dX9_oneGoes_43 : decode cX9_oneGoes 43 = .ok (.iload_n 3, 1) := by decide +kernel
theorem dX9_oneGoes_44 : decode cX9_oneGoes 44 = .ok (.invokevirtual 129, 3) := by decide +kernel
theorem dX9_oneGoes_47 : decode cX9_oneGoes 47 = .ok (.iconst 1, 1) := by decide +kernel
theorem dX9_oneGoes_48 : decode cX9_oneGoes 48 = .ok (.ireturn, 1) := by decide +kernel
theorem dX9_waits_0 : decode cX9_waits 0 = .ok (.iconst 0, 1) := by decide +kernel
theorem dX9_waits_1 : decode cX9_waits 1 = .ok (.istore_n 1, 1) := by decide +kernel
theorem dX9_waits_2 : decode cX9_waits 2 = .ok (.iconst 0, 1) := by decide +kernel
theorem dX9_waits_3 : decode cX9_waits 3 = .ok (.istore_n 2, 1) := by decide +kernel
theorem dX9_waits_4 : decode cX9_waits 4 = .ok (.iload_n 2, 1) := by decide +kernel
theorem dX9_waits_5 : decode cX9_waits 5 = .ok (.aload_n 0, 1) := by decide +kernel
theorem dX9_waits_6 : decode cX9_waits 6 = .ok (.getfield 88, 3) := by decide +kernel
theorem dX9_waits_9 : decode cX9_waits 9 = .ok (.if_icmp .ge 30, 3) := by decide +kernel
theorem dX9_waits_12 : decode cX9_waits 12 = .ok (.iload_n 1, 1) := by decide +kernel
theorem dX9_waits_13 : decode cX9_waits 13 = .ok (.aload_n 0, 1) := by decide +kernel
theorem dX9_waits_14 : decode cX9_waits 14 = .ok (.iload_n 2, 1) := by decide +kernel
theorem dX9_waits_15 : decode cX9_waits 15 = .ok (.invokevirtual 98, 3) := by decide +kernel
theorem dX9_waits_18 : decode cX9_waits 18 = .ok (.ifCond .eq 7, 3) := by decide +kernel
theorem dX9_waits_21 : decode cX9_waits 21 = .ok (.iconst 0, 1) := by decide +kernel
theorem dX9_waits_22 : decode cX9_waits 22 = .ok (.goto 9, 3) := by decide +kernel
theorem dX9_waits_25 : decode cX9_waits 25 = .ok (.aload_n 0, 1) := by decide +kernel
theorem dX9_waits_26 : decode cX9_waits 26 = .ok (.getfield 23, 3) := by decide +kernel
theorem dX9_waits_29 : decode cX9_waits 29 = .ok (.iload_n 2, 1) := by decide +kernel
theorem dX9_waits_30 : decode cX9_waits 30 = .ok (.iaload, 1) := by decide +kernel
theorem dX9_waits_31 : decode cX9_waits 31 = .ok (.iadd, 1) := by decide +kernel
theorem dX9_waits_32 : decode cX9_waits 32 = .ok (.istore_n 1, 1) := by decide +kernel
theorem dX9_waits_33 : decode cX9_waits 33 = .ok (.iinc 2 1, 3) := by decide +kernel
theorem dX9_waits_36 : decode cX9_waits 36 = .ok (.goto (-32), 3) := by decide +kernel
theorem dX9_waits_39 : decode cX9_waits 39 = .ok (.iload_n 1, 1) := by decide +kernel
theorem dX9_waits_40 : decode cX9_waits 40 = .ok (.ireturn, 1) := by decide +kernel
theorem dX9_give_0 : decode cX9_give 0 = .ok (.iload_n 1, 1) := by decide +kernel
theorem dX9_give_1 : decode cX9_give 1 = .ok (.i2l, 1) := by decide +kernel
theorem dX9_give_2 : decode cX9_give 2 = .ok (.ldc2_w 142, 3) := by decide +kernel
theorem dX9_give_5 : decode cX9_give 5 = .ok (.aload_n 0, 1) := by decide +kernel
theorem dX9_give_6 : decode cX9_give 6 = .ok (.getfield 79, 3) := by decide +kernel
theorem dX9_give_9 : decode cX9_give 9 = .ok (.i2l, 1) := by decide +kernel
theorem dX9_give_10 : decode cX9_give 10 = .ok (.lmul, 1) := by decide +kernel
theorem dX9_give_11 : decode cX9_give 11 = .ok (.ladd, 1) := by decide +kernel
theorem dX9_give_12 : decode cX9_give 12 = .ok (.lstore_n 2, 1) := by decide +kernel
theorem dX9_give_13 : decode cX9_give 13 = .ok (.lload_n 2, 1) := by decide +kernel
theorem dX9_give_14 : decode cX9_give 14 = .ok (.ldc2_w 144, 3) := by decide +kernel
theorem dX9_give_17 : decode cX9_give 17 = .ok (.ladd, 1) := by decide +kernel
theorem dX9_give_18 : decode cX9_give 18 = .ok (.ldc2_w 146, 3) := by decide +kernel
theorem dX9_give_21 : decode cX9_give 21 = .ok (.ldiv, 1) := by decide +kernel
theorem dX9_give_22 : decode cX9_give 22 = .ok (.ldc2_w 146, 3) := by decide +kernel
theorem dX9_give_25 : decode cX9_give 25 = .ok (.lmul, 1) := by decide +kernel
theorem dX9_give_26 : decode cX9_give 26 = .ok (.lstore 4, 2) := by decide +kernel
theorem dX9_give_28 : decode cX9_give 28 = .ok (.lload 4, 2) := by decide +kernel
theorem dX9_give_30 : decode cX9_give 30 = .ok (.ldc2_w 148, 3) := by decide +kernel
theorem dX9_give_33 : decode cX9_give 33 = .ok (.lcmp, 1) := by decide +kernel
theorem dX9_give_34 : decode cX9_give 34 = .ok (.ifCond .le 9, 3) := by decide +kernel
theorem dX9_give_37 : decode cX9_give 37 = .ok (.sipush 4000, 3) := by decide +kernel
theorem dX9_give_40 : decode cX9_give 40 = .ok (.goto 6, 3) := by decide +kernel
theorem dX9_give_43 : decode cX9_give 43 = .ok (.lload 4, 2) := by decide +kernel
theorem dX9_give_45 : decode cX9_give 45 = .ok (.l2i, 1) := by decide +kernel
theorem dX9_give_46 : decode cX9_give 46 = .ok (.istore 6, 2) := by decide +kernel
theorem dX9_give_48 : decode cX9_give 48 = .ok (.aload_n 0, 1) := by decide +kernel
theorem dX9_give_49 : decode cX9_give 49 = .ok (.iload 6, 2) := by decide +kernel
theorem dX9_give_51 : decode cX9_give 51 = .ok (.invokevirtual 150, 3) := by decide +kernel
theorem dX9_give_54 : decode cX9_give 54 = .ok (.istore 7, 2) := by decide +kernel
theorem dX9_give_56 : decode cX9_give 56 = .ok (.iconst 1, 1) := by decide +kernel
theorem dX9_give_57 : decode cX9_give 57 = .ok (.istore 8, 2) := by decide +kernel
theorem dX9_give_59 : decode cX9_give 59 = .ok (.iload 7, 2) := by decide +kernel
theorem dX9_give_61 : decode cX9_give 61 = .ok (.iconst (-1), 1) := by decide +kernel
theorem dX9_give_62 : decode cX9_give 62 = .ok (.if_icmp .ne 30, 3) := by decide +kernel
theorem dX9_give_65 : decode cX9_give 65 = .ok (.iload 8, 2) := by decide +kernel
theorem dX9_give_67 : decode cX9_give 67 = .ok (.ifCond .eq 25, 3) := by decide +kernel
theorem dX9_give_70 : decode cX9_give 70 = .ok (.aload_n 0, 1) := by decide +kernel
theorem dX9_give_71 : decode cX9_give 71 = .ok (.invokevirtual 153, 3) := by decide +kernel
theorem dX9_give_74 : decode cX9_give 74 = .ok (.istore 8, 2) := by decide +kernel
theorem dX9_give_76 : decode cX9_give 76 = .ok (.iload 8, 2) := by decide +kernel
theorem dX9_give_78 : decode cX9_give 78 = .ok (.ifCond .eq (-19), 3) := by decide +kernel
theorem dX9_give_81 : decode cX9_give 81 = .ok (.aload_n 0, 1) := by decide +kernel
theorem dX9_give_82 : decode cX9_give 82 = .ok (.iload 6, 2) := by decide +kernel
theorem dX9_give_84 : decode cX9_give 84 = .ok (.invokevirtual 150, 3) := by decide +kernel
theorem dX9_give_87 : decode cX9_give 87 = .ok (.istore 7, 2) := by decide +kernel
theorem dX9_give_89 : decode cX9_give 89 = .ok (.goto (-30), 3) := by decide +kernel
theorem dX9_give_92 : decode cX9_give 92 = .ok (.iload 7, 2) := by decide +kernel
theorem dX9_give_94 : decode cX9_give 94 = .ok (.iconst (-1), 1) := by decide +kernel
theorem dX9_give_95 : decode cX9_give 95 = .ok (.if_icmp .ne 5, 3) := by decide +kernel
theorem dX9_give_98 : decode cX9_give 98 = .ok (.iconst 0, 1) := by decide +kernel
theorem dX9_give_99 : decode cX9_give 99 = .ok (.ireturn, 1) := by decide +kernel
theorem dX9_give_100 : decode cX9_give 100 = .ok (.aload_n 0, 1) := by decide +kernel
theorem dX9_give_101 : decode cX9_give 101 = .ok (.getfield 20, 3) := by decide +kernel
theorem dX9_give_104 : decode cX9_give 104 = .ok (.aload_n 0, 1) := by decide +kernel
theorem dX9_give_105 : decode cX9_give 105 = .ok (.getfield 88, 3) := by decide +kernel
theorem dX9_give_108 : decode cX9_give 108 = .ok (.iload 7, 2) := by decide +kernel
theorem dX9_give_110 : decode cX9_give 110 = .ok (.iastore, 1) := by decide +kernel
theorem dX9_give_111 : decode cX9_give 111 = .ok (.aload_n 0, 1) := by decide +kernel
theorem dX9_give_112 : decode cX9_give 112 = .ok (.getfield 23, 3) := by decide +kernel
theorem dX9_give_115 : decode cX9_give 115 = .ok (.aload_n 0, 1) := by decide +kernel
theorem dX9_give_116 : decode cX9_give 116 = .ok (.getfield 88, 3) := by decide +kernel
theorem dX9_give_119 : decode cX9_give 119 = .ok (.iload 6, 2) := by decide +kernel
theorem dX9_give_121 : decode cX9_give 121 = .ok (.iastore, 1) := by decide +kernel
theorem dX9_give_122 : decode cX9_give 122 = .ok (.aload_n 0, 1) := by decide +kernel
theorem dX9_give_123 : decode cX9_give 123 = .ok (.getfield 26, 3) := by decide +kernel
theorem dX9_give_126 : decode cX9_give 126 = .ok (.aload_n 0, 1) := by decide +kernel
theorem dX9_give_127 : decode cX9_give 127 = .ok (.getfield 88, 3) := by decide +kernel
theorem dX9_give_130 : decode cX9_give 130 = .ok (.iload_n 1, 1) := by decide +kernel
theorem dX9_give_131 : decode cX9_give 131 = .ok (.iastore, 1) := by decide +kernel
theorem dX9_give_132 : decode cX9_give 132 = .ok (.aload_n 0, 1) := by decide +kernel
theorem dX9_give_133 : decode cX9_give 133 = .ok (.getfield 29, 3) := by decide +kernel
theorem dX9_give_136 : decode cX9_give 136 = .ok (.aload_n 0, 1) := by decide +kernel
theorem dX9_give_137 : decode cX9_give 137 = .ok (.getfield 88, 3) := by decide +kernel
theorem dX9_give_140 : decode cX9_give 140 = .ok (.aload_n 0, 1) := by decide +kernel
theorem dX9_give_141 : decode cX9_give 141 = .ok (.getfield 157, 3) := by decide +kernel
theorem dX9_give_144 : decode cX9_give 144 = .ok (.iastore, 1) := by decide +kernel
theorem dX9_give_145 : decode cX9_give 145 = .ok (.aload_n 0, 1) := by decide +kernel
theorem dX9_give_146 : decode cX9_give 146 = .ok (.getfield 32, 3) := by decide +kernel
theorem dX9_give_149 : decode cX9_give 149 = .ok (.aload_n 0, 1) := by decide +kernel
theorem dX9_give_150 : decode cX9_give 150 = .ok (.getfield 88, 3) := by decide +kernel
theorem dX9_give_153 : decode cX9_give 153 = .ok (.iconst 0, 1) := by decide +kernel
theorem dX9_give_154 : decode cX9_give 154 = .ok (.iastore, 1) := by decide +kernel
theorem dX9_give_155 : decode cX9_give 155 = .ok (.aload_n 0, 1) := by decide +kernel
theorem dX9_give_156 : decode cX9_give 156 = .ok (.dup, 1) := by decide +kernel
theorem dX9_give_157 : decode cX9_give 157 = .ok (.getfield 88, 3) := by decide +kernel
theorem dX9_give_160 : decode cX9_give 160 = .ok (.iconst 1, 1) := by decide +kernel
theorem dX9_give_161 : decode cX9_give 161 = .ok (.iadd, 1) := by decide +kernel
theorem dX9_give_162 : decode cX9_give 162 = .ok (.putfield 88, 3) := by decide +kernel
theorem dX9_give_165 : decode cX9_give 165 = .ok (.aload_n 0, 1) := by decide +kernel
theorem dX9_give_166 : decode cX9_give 166 = .ok (.dup, 1) := by decide +kernel
theorem dX9_give_167 : decode cX9_give 167 = .ok (.getfield 157, 3) := by decide +kernel
theorem dX9_give_170 : decode cX9_give 170 = .ok (.iconst 1, 1) := by decide +kernel
theorem dX9_give_171 : decode cX9_give 171 = .ok (.iadd, 1) := by decide +kernel
theorem dX9_give_172 : decode cX9_give 172 = .ok (.putfield 157, 3) := by decide +kernel
theorem dX9_give_175 : decode cX9_give 175 = .ok (.iconst 0, 1) := by decide +kernel
theorem dX9_give_176 : decode cX9_give 176 = .ok (.istore 9, 2) := by decide +kernel
theorem dX9_give_178 : decode cX9_give 178 = .ok (.iload 9, 2) := by decide +kernel
theorem dX9_give_180 : decode cX9_give 180 = .ok (.iload_n 1, 1) := by decide +kernel
theorem dX9_give_181 : decode cX9_give 181 = .ok (.if_icmp .ge 25, 3) := by decide +kernel
theorem dX9_give_184 : decode cX9_give 184 = .ok (.aload_n 0, 1) := by decide +kernel
theorem dX9_give_185 : decode cX9_give 185 = .ok (.getfield 7, 3) := by decide +kernel
theorem dX9_give_188 : decode cX9_give 188 = .ok (.iload 7, 2) := by decide +kernel
theorem dX9_give_190 : decode cX9_give 190 = .ok (.aload_n 0, 1) := by decide +kernel
theorem dX9_give_191 : decode cX9_give 191 = .ok (.getfield 79, 3) := by decide +kernel
theorem dX9_give_194 : decode cX9_give 194 = .ok (.iadd, 1) := by decide +kernel
theorem dX9_give_195 : decode cX9_give 195 = .ok (.iload 9, 2) := by decide +kernel
theorem dX9_give_197 : decode cX9_give 197 = .ok (.iadd, 1) := by decide +kernel
theorem dX9_give_198 : decode cX9_give 198 = .ok (.iconst 0, 1) := by decide +kernel
theorem dX9_give_199 : decode cX9_give 199 = .ok (.iastore, 1) := by decide +kernel
theorem dX9_give_200 : decode cX9_give 200 = .ok (.iinc 9 1, 3) := by decide +kernel
theorem dX9_give_203 : decode cX9_give 203 = .ok (.goto (-25), 3) := by decide +kernel
theorem dX9_give_206 : decode cX9_give 206 = .ok (.iload 7, 2) := by decide +kernel
theorem dX9_give_208 : decode cX9_give 208 = .ok (.aload_n 0, 1) := by decide +kernel
theorem dX9_give_209 : decode cX9_give 209 = .ok (.getfield 79, 3) := by decide +kernel
theorem dX9_give_212 : decode cX9_give 212 = .ok (.iadd, 1) := by decide +kernel
theorem dX9_give_213 : decode cX9_give 213 = .ok (.ireturn, 1) := by decide +kernel
theorem dX9_setFree_0 : decode cX9_setFree 0 = .ok (.aload_n 0, 1) := by decide +kernel
theorem dX9_setFree_1 : decode cX9_setFree 1 = .ok (.dup, 1) := by decide +kernel
theorem dX9_setFree_2 : decode cX9_setFree 2 = .ok (.getfield 160, 3) := by decide +kernel
theorem dX9_setFree_5 : decode cX9_setFree 5 = .ok (.iconst 1, 1) := by decide +kernel
theorem dX9_setFree_6 : decode cX9_setFree 6 = .ok (.iadd, 1) := by decide +kernel
theorem dX9_setFree_7 : decode cX9_setFree 7 = .ok (.putfield 160, 3) := by decide +kernel
theorem dX9_setFree_10 : decode cX9_setFree 10 = .ok (.aload_n 0, 1) := by decide +kernel
theorem dX9_setFree_11 : decode cX9_setFree 11 = .ok (.getfield 32, 3) := by decide +kernel
theorem dX9_setFree_14 : decode cX9_setFree 14 = .ok (.iload_n 1, 1) := by decide +kernel
theorem dX9_setFree_15 : decode cX9_setFree 15 = .ok (.aload_n 0, 1) := by decide +kernel
theorem dX9_setFree_16 : decode cX9_setFree 16 = .ok (.getfield 160, 3) := by decide +kernel
theorem dX9_setFree_19 : decode cX9_setFree 19 = .ok (.iastore, 1) := by decide +kernel
theorem dX9_setFree_20 : decode cX9_setFree 20 = .ok (.aload_n 0, 1) := by decide +kernel
theorem dX9_setFree_21 : decode cX9_setFree 21 = .ok (.invokevirtual 163, 3) := by decide +kernel
theorem dX9_setFree_24 : decode cX9_setFree 24 = .ok (.aload_n 0, 1) := by decide +kernel
theorem dX9_setFree_25 : decode cX9_setFree 25 = .ok (.getfield 82, 3) := by decide +kernel
theorem dX9_setFree_28 : decode cX9_setFree 28 = .ok (.if_icmp .le 11, 3) := by decide +kernel
theorem dX9_setFree_31 : decode cX9_setFree 31 = .ok (.aload_n 0, 1) := by decide +kernel
theorem dX9_setFree_32 : decode cX9_setFree 32 = .ok (.invokevirtual 153, 3) := by decide +kernel
theorem dX9_setFree_35 : decode cX9_setFree 35 = .ok (.istore_n 2, 1) := by decide +kernel
theorem dX9_setFree_36 : decode cX9_setFree 36 = .ok (.goto (-16), 3) := by decide +kernel
theorem dX9_setFree_39 : decode cX9_setFree 39 = .ok (.return_, 1) := by decide +kernel
theorem dX9_no_0 : decode cX9_no 0 = .ok (.aload_n 0, 1) := by decide +kernel
theorem dX9_no_1 : decode cX9_no 1 = .ok (.iload_n 1, 1) := by decide +kernel
theorem dX9_no_2 : decode cX9_no 2 = .ok (.invokevirtual 166, 3) := by decide +kernel
theorem dX9_no_5 : decode cX9_no 5 = .ok (.iconst (-1), 1) := by decide +kernel
theorem dX9_no_6 : decode cX9_no 6 = .ok (.if_icmp .ne 7, 3) := by decide +kernel
theorem dX9_no_9 : decode cX9_no 9 = .ok (.iconst 5, 1) := by decide +kernel
theorem dX9_no_10 : decode cX9_no 10 = .ok (.goto 4, 3) := by decide +kernel
theorem dX9_no_13 : decode cX9_no 13 = .ok (.iconst 4, 1) := by decide +kernel
theorem dX9_no_14 : decode cX9_no 14 = .ok (.istore_n 2, 1) := by decide +kernel
theorem dX9_no_15 : decode cX9_no 15 = .ok (.aload_n 0, 1) := by decide +kernel
theorem dX9_no_16 : decode cX9_no 16 = .ok (.iload_n 2, 1) := by decide +kernel
theorem dX9_no_17 : decode cX9_no 17 = .ok (.iload_n 1, 1) := by decide +kernel
theorem dX9_no_18 : decode cX9_no 18 = .ok (.invokevirtual 169, 3) := by decide +kernel
theorem dX9_no_21 : decode cX9_no 21 = .ok (.iload_n 2, 1) := by decide +kernel
theorem dX9_no_22 : decode cX9_no 22 = .ok (.ireturn, 1) := by decide +kernel
theorem dX9_liveAt_0 : decode cX9_liveAt 0 = .ok (.aload_n 0, 1) := by decide +kernel
theorem dX9_liveAt_1 : decode cX9_liveAt 1 = .ok (.iload_n 1, 1) := by decide +kernel
theorem dX9_liveAt_2 : decode cX9_liveAt 2 = .ok (.invokevirtual 166, 3) := by decide +kernel
theorem dX9_liveAt_5 : decode cX9_liveAt 5 = .ok (.istore_n 2, 1) := by decide +kernel
theorem dX9_liveAt_6 : decode cX9_liveAt 6 = .ok (.iload_n 2, 1) := by decide +kernel
theorem dX9_liveAt_7 : decode cX9_liveAt 7 = .ok (.iconst (-1), 1) := by decide +kernel
theorem dX9_liveAt_8 : decode cX9_liveAt 8 = .ok (.if_icmp .eq 15, 3) := by decide +kernel
theorem dX9_liveAt_11 : decode cX9_liveAt 11 = .ok (.aload_n 0, 1) := by decide +kernel
theorem dX9_liveAt_12 : decode cX9_liveAt 12 = .ok (.iload_n 2, 1) := by decide +kernel
theorem dX9_liveAt_13 : decode cX9_liveAt 13 = .ok (.invokevirtual 98, 3) := by decide +kernel
theorem dX9_liveAt_16 : decode cX9_liveAt 16 = .ok (.ifCond .eq 7, 3) := by decide +kernel
theorem dX9_liveAt_19 : decode cX9_liveAt 19 = .ok (.iload_n 2, 1) := by decide +kernel
theorem dX9_liveAt_20 : decode cX9_liveAt 20 = .ok (.goto 4, 3) := by decide +kernel
theorem dX9_liveAt_23 : decode cX9_liveAt 23 = .ok (.iconst (-1), 1) := by decide +kernel
theorem dX9_liveAt_24 : decode cX9_liveAt 24 = .ok (.ireturn, 1) := by decide +kernel
theorem dX9_alloc_0 : decode cX9_alloc 0 = .ok (.aload_n 0, 1) := by decide +kernel
theorem dX9_alloc_1 : decode cX9_alloc 1 = .ok (.iconst 0, 1) := by decide +kernel
theorem dX9_alloc_2 : decode cX9_alloc 2 = .ok (.putfield 85, 3) := by decide +kernel
theorem dX9_alloc_5 : decode cX9_alloc 5 = .ok (.iload_n 1, 1) := by decide +kernel
theorem dX9_alloc_6 : decode cX9_alloc 6 = .ok (.iconst 1, 1) := by decide +kernel
theorem dX9_alloc_7 : decode cX9_alloc 7 = .ok (.if_icmp .ge 7, 3) := by decide +kernel
theorem dX9_alloc_10 : decode cX9_alloc 10 = .ok (.iconst 0, 1) := by decide +kernel
theorem dX9_alloc_11 : decode cX9_alloc 11 = .ok (.goto 8, 3) := by decide +kernel
theorem dX9_alloc_14 : decode cX9_alloc 14 = .ok (.aload_n 0, 1) := by decide +kernel
theorem dX9_alloc_15 : decode cX9_alloc 15 = .ok (.iload_n 1, 1) := by decide +kernel
theorem dX9_alloc_16 : decode cX9_alloc 16 = .ok (.invokevirtual 172, 3) := by decide +kernel
theorem dX9_alloc_19 : decode cX9_alloc 19 = .ok (.ireturn, 1) := by decide +kernel
theorem dX9_free_0 : decode cX9_free 0 = .ok (.aload_n 0, 1) := by decide +kernel
theorem dX9_free_1 : decode cX9_free 1 = .ok (.iconst 0, 1) := by decide +kernel
theorem dX9_free_2 : decode cX9_free 2 = .ok (.putfield 85, 3) := by decide +kernel
theorem dX9_free_5 : decode cX9_free 5 = .ok (.aload_n 0, 1) := by decide +kernel
theorem dX9_free_6 : decode cX9_free 6 = .ok (.iload_n 1, 1) := by decide +kernel
theorem dX9_free_7 : decode cX9_free 7 = .ok (.invokevirtual 175, 3) := by decide +kernel
theorem dX9_free_10 : decode cX9_free 10 = .ok (.istore_n 2, 1) := by decide +kernel
theorem dX9_free_11 : decode cX9_free 11 = .ok (.iload_n 2, 1) := by decide +kernel
theorem dX9_free_12 : decode cX9_free 12 = .ok (.iconst (-1), 1) := by decide +kernel
theorem dX9_free_13 : decode cX9_free 13 = .ok (.if_icmp .ne 9, 3) := by decide +kernel
theorem dX9_free_16 : decode cX9_free 16 = .ok (.aload_n 0, 1) := by decide +kernel
theorem dX9_free_17 : decode cX9_free 17 = .ok (.iload_n 1, 1) := by decide +kernel
theorem dX9_free_18 : decode cX9_free 18 = .ok (.invokevirtual 178, 3) := by decide +kernel
theorem dX9_free_21 : decode cX9_free 21 = .ok (.ireturn, 1) := by decide +kernel
theorem dX9_free_22 : decode cX9_free 22 = .ok (.aload_n 0, 1) := by decide +kernel
theorem dX9_free_23 : decode cX9_free 23 = .ok (.iload_n 2, 1) := by decide +kernel
theorem dX9_free_24 : decode cX9_free 24 = .ok (.invokevirtual 181, 3) := by decide +kernel
theorem dX9_free_27 : decode cX9_free 27 = .ok (.iconst 0, 1) := by decide +kernel
theorem dX9_free_28 : decode cX9_free 28 = .ok (.ireturn, 1) := by decide +kernel
theorem dX9_resize_0 : decode cX9_resize 0 = .ok (.aload_n 0, 1) := by decide +kernel
theorem dX9_resize_1 : decode cX9_resize 1 = .ok (.iconst 0, 1) := by decide +kernel
theorem dX9_resize_2 : decode cX9_resize 2 = .ok (.putfield 85, 3) := by decide +kernel
theorem dX9_resize_5 : decode cX9_resize 5 = .ok (.iload_n 2, 1) := by decide +kernel
theorem dX9_resize_6 : decode cX9_resize 6 = .ok (.iconst 1, 1) := by decide +kernel
theorem dX9_resize_7 : decode cX9_resize 7 = .ok (.if_icmp .ge 5, 3) := by decide +kernel
theorem dX9_resize_10 : decode cX9_resize 10 = .ok (.iconst 0, 1) := by decide +kernel
theorem dX9_resize_11 : decode cX9_resize 11 = .ok (.ireturn, 1) := by decide +kernel
theorem dX9_resize_12 : decode cX9_resize 12 = .ok (.aload_n 0, 1) := by decide +kernel
theorem dX9_resize_13 : decode cX9_resize 13 = .ok (.iload_n 1, 1) := by decide +kernel
theorem dX9_resize_14 : decode cX9_resize 14 = .ok (.invokevirtual 175, 3) := by decide +kernel
theorem dX9_resize_17 : decode cX9_resize 17 = .ok (.istore_n 3, 1) := by decide +kernel
theorem dX9_resize_18 : decode cX9_resize 18 = .ok (.iload_n 3, 1) := by decide +kernel
theorem dX9_resize_19 : decode cX9_resize 19 = .ok (.iconst (-1), 1) := by decide +kernel
theorem dX9_resize_20 : decode cX9_resize 20 = .ok (.if_icmp .ne 10, 3) := by decide +kernel
theorem dX9_resize_23 : decode cX9_resize 23 = .ok (.aload_n 0, 1) := by decide +kernel
theorem dX9_resize_24 : decode cX9_resize 24 = .ok (.iload_n 1, 1) := by decide +kernel
theorem dX9_resize_25 : decode cX9_resize 25 = .ok (.invokevirtual 178, 3) := by decide +kernel
theorem dX9_resize_28 : decode cX9_resize 28 = .ok (.ineg, 1) := by decide +kernel
theorem dX9_resize_29 : decode cX9_resize 29 = .ok (.ireturn, 1) := by decide +kernel
theorem dX9_resize_30 : decode cX9_resize 30 = .ok (.aload_n 0, 1) := by decide +kernel
theorem dX9_resize_31 : decode cX9_resize 31 = .ok (.getfield 26, 3) := by decide +kernel
theorem dX9_resize_34 : decode cX9_resize 34 = .ok (.iload_n 3, 1) := by decide +kernel
theorem dX9_resize_35 : decode cX9_resize 35 = .ok (.iaload, 1) := by decide +kernel
theorem dX9_resize_36 : decode cX9_resize 36 = .ok (.istore 4, 2) := by decide +kernel
theorem dX9_resize_38 : decode cX9_resize 38 = .ok (.aload_n 0, 1) := by decide +kernel
theorem dX9_resize_39 : decode cX9_resize 39 = .ok (.iload_n 2, 1) := by decide +kernel
theorem dX9_resize_40 : decode cX9_resize 40 = .ok (.invokevirtual 172, 3) := by decide +kernel
theorem dX9_resize_43 : decode cX9_resize 43 = .ok (.istore 5, 2) := by decide +kernel
theorem dX9_resize_45 : decode cX9_resize 45 = .ok (.iload 5, 2) := by decide +kernel
theorem dX9_resize_47 : decode cX9_resize 47 = .ok (.ifCond .ne 5, 3) := by decide +kernel
theorem dX9_resize_50 : decode cX9_resize 50 = .ok (.iconst 0, 1) := by decide +kernel
theorem dX9_resize_51 : decode cX9_resize 51 = .ok (.ireturn, 1) := by decide +kernel
theorem dX9_resize_52 : decode cX9_resize 52 = .ok (.iconst 0, 1) := by decide +kernel
theorem dX9_resize_53 : decode cX9_resize 53 = .ok (.istore 6, 2) := by decide +kernel
theorem dX9_resize_55 : decode cX9_resize 55 = .ok (.iload 6, 2) := by decide +kernel
theorem dX9_resize_57 : decode cX9_resize 57 = .ok (.iload_n 2, 1) := by decide +kernel
theorem dX9_resize_58 : decode cX9_resize 58 = .ok (.if_icmp .ge 35, 3) := by decide +kernel
theorem dX9_resize_61 : decode cX9_resize 61 = .ok (.iload 6, 2) := by decide +kernel
theorem dX9_resize_63 : decode cX9_resize 63 = .ok (.iload 4, 2) := by decide +kernel
theorem dX9_resize_65 : decode cX9_resize 65 = .ok (.if_icmp .ge 28, 3) := by decide +kernel
theorem dX9_resize_68 : decode cX9_resize 68 = .ok (.aload_n 0, 1) := by decide +kernel
theorem dX9_resize_69 : decode cX9_resize 69 = .ok (.getfield 7, 3) := by decide +kernel
theorem dX9_resize_72 : decode cX9_resize 72 = .ok (.iload 5, 2) := by decide +kernel
theorem dX9_resize_74 : decode cX9_resize 74 = .ok (.iload 6, 2) := by decide +kernel
theorem dX9_resize_76 : decode cX9_resize 76 = .ok (.iadd, 1) := by decide +kernel
theorem dX9_resize_77 : decode cX9_resize 77 = .ok (.aload_n 0, 1) := by decide +kernel
theorem dX9_resize_78 : decode cX9_resize 78 = .ok (.getfield 7, 3) := by decide +kernel
theorem dX9_resize_81 : decode cX9_resize 81 = .ok (.iload_n 1, 1) := by decide +kernel
theorem dX9_resize_82 : decode cX9_resize 82 = .ok (.iload 6, 2) := by decide +kernel
theorem dX9_resize_84 : decode cX9_resize 84 = .ok (.iadd, 1) := by decide +kernel
theorem dX9_resize_85 : decode cX9_resize 85 = .ok (.iaload, 1) := by decide +kernel
theorem dX9_resize_86 : decode cX9_resize 86 = .ok (.iastore, 1) := by decide +kernel
theorem dX9_resize_87 : decode cX9_resize 87 = .ok (.iinc 6 1, 3) := by decide +kernel
theorem dX9_resize_90 : decode cX9_resize 90 = .ok (.goto (-35), 3) := by decide +kernel
theorem dX9_resize_93 : decode cX9_resize 93 = .ok (.aload_n 0, 1) := by decide +kernel
theorem dX9_resize_94 : decode cX9_resize 94 = .ok (.aload_n 0, 1) := by decide +kernel
theorem dX9_resize_95 : decode cX9_resize 95 = .ok (.iload_n 1, 1) := by decide +kernel
theorem dX9_resize_96 : decode cX9_resize 96 = .ok (.invokevirtual 175, 3) := by decide +kernel
theorem dX9_resize_99 : decode cX9_resize 99 = .ok (.invokevirtual 181, 3) := by decide +kernel
theorem dX9_resize_102 : decode cX9_resize 102 = .ok (.iload 5, 2) := by decide +kernel
theorem dX9_resize_104 : decode cX9_resize 104 = .ok (.ireturn, 1) := by decide +kernel
theorem dX9_load_0 : decode cX9_load 0 = .ok (.aload_n 0, 1) := by decide +kernel
theorem dX9_load_1 : decode cX9_load 1 = .ok (.iconst 0, 1) := by decide +kernel
theorem dX9_load_2 : decode cX9_load 2 = .ok (.putfield 85, 3) := by decide +kernel
theorem dX9_load_5 : decode cX9_load 5 = .ok (.aload_n 0, 1) := by decide +kernel
theorem dX9_load_6 : decode cX9_load 6 = .ok (.iload_n 1, 1) := by decide +kernel
theorem dX9_load_7 : decode cX9_load 7 = .ok (.invokevirtual 184, 3) := by decide +kernel
theorem dX9_load_10 : decode cX9_load 10 = .ok (.istore_n 2, 1) := by decide +kernel
theorem dX9_load_11 : decode cX9_load 11 = .ok (.iload_n 2, 1) := by decide +kernel
theorem dX9_load_12 : decode cX9_load 12 = .ok (.ifCond .ne 10, 3) := by decide +kernel
theorem dX9_load_15 : decode cX9_load 15 = .ok (.aload_n 0, 1) := by decide +kernel
theorem dX9_load_16 : decode cX9_load 16 = .ok (.getfield 7, 3) := by decide +kernel
theorem dX9_load_19 : decode cX9_load 19 = .ok (.iload_n 1, 1) := by decide +kernel
theorem dX9_load_20 : decode cX9_load 20 = .ok (.iaload, 1) := by decide +kernel
theorem dX9_load_21 : decode cX9_load 21 = .ok (.ireturn, 1) := by decide +kernel
theorem dX9_load_22 : decode cX9_load 22 = .ok (.aload_n 0, 1) := by decide +kernel
theorem dX9_load_23 : decode cX9_load 23 = .ok (.iload_n 2, 1) := by decide +kernel
theorem dX9_load_24 : decode cX9_load 24 = .ok (.iload_n 1, 1) := by decide +kernel
theorem dX9_load_25 : decode cX9_load 25 = .ok (.invokevirtual 169, 3) := by decide +kernel
theorem dX9_load_28 : decode cX9_load 28 = .ok (.iconst 0, 1) := by decide +kernel
theorem dX9_load_29 : decode cX9_load 29 = .ok (.ireturn, 1) := by decide +kernel
theorem dX9_store_0 : decode cX9_store 0 = .ok (.aload_n 0, 1) := by decide +kernel
theorem dX9_store_1 : decode cX9_store 1 = .ok (.iconst 0, 1) := by decide +kernel
theorem dX9_store_2 : decode cX9_store 2 = .ok (.putfield 85, 3) := by decide +kernel
theorem dX9_store_5 : decode cX9_store 5 = .ok (.aload_n 0, 1) := by decide +kernel
theorem dX9_store_6 : decode cX9_store 6 = .ok (.iload_n 1, 1) := by decide +kernel
theorem dX9_store_7 : decode cX9_store 7 = .ok (.invokevirtual 184, 3) := by decide +kernel
theorem dX9_store_10 : decode cX9_store 10 = .ok (.istore_n 3, 1) := by decide +kernel
theorem dX9_store_11 : decode cX9_store 11 = .ok (.iload_n 3, 1) := by decide +kernel
theorem dX9_store_12 : decode cX9_store 12 = .ok (.ifCond .ne 13, 3) := by decide +kernel
theorem dX9_store_15 : decode cX9_store 15 = .ok (.aload_n 0, 1) := by decide +kernel
theorem dX9_store_16 : decode cX9_store 16 = .ok (.getfield 7, 3) := by decide +kernel
theorem dX9_store_19 : decode cX9_store 19 = .ok (.iload_n 1, 1) := by decide +kernel
theorem dX9_store_20 : decode cX9_store 20 = .ok (.iload_n 2, 1) := by decide +kernel
theorem dX9_store_21 : decode cX9_store 21 = .ok (.iastore, 1) := by decide +kernel
theorem dX9_store_22 : decode cX9_store 22 = .ok (.goto 9, 3) := by decide +kernel
theorem dX9_store_25 : decode cX9_store 25 = .ok (.aload_n 0, 1) := by decide +kernel
theorem dX9_store_26 : decode cX9_store 26 = .ok (.iload_n 3, 1) := by decide +kernel
theorem dX9_store_27 : decode cX9_store 27 = .ok (.iload_n 1, 1) := by decide +kernel
theorem dX9_store_28 : decode cX9_store 28 = .ok (.invokevirtual 169, 3) := by decide +kernel
theorem dX9_store_31 : decode cX9_store 31 = .ok (.iload_n 3, 1) := by decide +kernel
theorem dX9_store_32 : decode cX9_store 32 = .ok (.ireturn, 1) := by decide +kernel
theorem dX9_check_0 : decode cX9_check 0 = .ok (.aload_n 0, 1) := by decide +kernel
theorem dX9_check_1 : decode cX9_check 1 = .ok (.iconst 0, 1) := by decide +kernel
theorem dX9_check_2 : decode cX9_check 2 = .ok (.putfield 85, 3) := by decide +kernel
theorem dX9_check_5 : decode cX9_check 5 = .ok (.aload_n 0, 1) := by decide +kernel
theorem dX9_check_6 : decode cX9_check 6 = .ok (.iload_n 1, 1) := by decide +kernel
theorem dX9_check_7 : decode cX9_check 7 = .ok (.invokevirtual 184, 3) := by decide +kernel
theorem dX9_check_10 : decode cX9_check 10 = .ok (.ireturn, 1) := by decide +kernel
theorem dX9_copy_0 : decode cX9_copy 0 = .ok (.aload_n 0, 1) := by decide +kernel
theorem dX9_copy_1 : decode cX9_copy 1 = .ok (.iconst 0, 1) := by decide +kernel
theorem dX9_copy_2 : decode cX9_copy 2 = .ok (.putfield 85, 3) := by decide +kernel
theorem dX9_copy_5 : decode cX9_copy 5 = .ok (.iload_n 3, 1) := by decide +kernel
theorem dX9_copy_6 : decode cX9_copy 6 = .ok (.ifCond .lt 10, 3) := by decide +kernel
theorem dX9_copy_9 : decode cX9_copy 9 = .ok (.iload_n 3, 1) := by decide +kernel
theorem dX9_copy_10 : decode cX9_copy 10 = .ok (.sipush 3000, 3) := by decide +kernel
theorem dX9_copy_13 : decode cX9_copy 13 = .ok (.if_icmp .le 5, 3) := by decide +kernel
theorem dX9_copy_16 : decode cX9_copy 16 = .ok (.iconst (-1), 1) := by decide +kernel
theorem dX9_copy_17 : decode cX9_copy 17 = .ok (.ireturn, 1) := by decide +kernel
theorem dX9_copy_18 : decode cX9_copy 18 = .ok (.iconst 0, 1) := by decide +kernel
theorem dX9_copy_19 : decode cX9_copy 19 = .ok (.istore 4, 2) := by decide +kernel
theorem dX9_copy_21 : decode cX9_copy 21 = .ok (.iload 4, 2) := by decide +kernel
theorem dX9_copy_23 : decode cX9_copy 23 = .ok (.iconst 2, 1) := by decide +kernel
theorem dX9_copy_24 : decode cX9_copy 24 = .ok (.iload_n 3, 1) := by decide +kernel
theorem dX9_copy_25 : decode cX9_copy 25 = .ok (.imul, 1) := by decide +kernel
theorem dX9_copy_26 : decode cX9_copy 26 = .ok (.if_icmp .ge 60, 3) := by decide +kernel
theorem dX9_copy_29 : decode cX9_copy 29 = .ok (.iload 4, 2) := by decide +kernel
theorem dX9_copy_31 : decode cX9_copy 31 = .ok (.iload_n 3, 1) := by decide +kernel
theorem dX9_copy_32 : decode cX9_copy 32 = .ok (.if_icmp .ge 10, 3) := by decide +kernel
theorem dX9_copy_35 : decode cX9_copy 35 = .ok (.iload_n 1, 1) := by decide +kernel
theorem dX9_copy_36 : decode cX9_copy 36 = .ok (.iload 4, 2) := by decide +kernel
theorem dX9_copy_38 : decode cX9_copy 38 = .ok (.iadd, 1) := by decide +kernel
theorem dX9_copy_39 : decode cX9_copy 39 = .ok (.goto 9, 3) := by decide +kernel
theorem dX9_copy_42 : decode cX9_copy 42 = .ok (.iload_n 2, 1) := by decide +kernel
theorem dX9_copy_43 : decode cX9_copy 43 = .ok (.iload 4, 2) := by decide +kernel
theorem dX9_copy_45 : decode cX9_copy 45 = .ok (.iadd, 1) := by decide +kernel
theorem dX9_copy_46 : decode cX9_copy 46 = .ok (.iload_n 3, 1) := by decide +kernel
theorem dX9_copy_47 : decode cX9_copy 47 = .ok (.isub, 1) := by decide +kernel
theorem dX9_copy_48 : decode cX9_copy 48 = .ok (.istore 5, 2) := by decide +kernel
theorem dX9_copy_50 : decode cX9_copy 50 = .ok (.aload_n 0, 1) := by decide +kernel
theorem dX9_copy_51 : decode cX9_copy 51 = .ok (.iload 5, 2) := by decide +kernel
theorem dX9_copy_53 : decode cX9_copy 53 = .ok (.invokevirtual 184, 3) := by decide +kernel
theorem dX9_copy_56 : decode cX9_copy 56 = .ok (.istore 6, 2) := by decide +kernel
theorem dX9_copy_58 : decode cX9_copy 58 = .ok (.iload 6, 2) := by decide +kernel
theorem dX9_copy_60 : decode cX9_copy 60 = .ok (.ifCond .ne 6, 3) := by decide +kernel
theorem dX9_copy_63 : decode cX9_copy 63 = .ok (.goto 17, 3) := by decide +kernel
theorem dX9_copy_66 : decode cX9_copy 66 = .ok (.aload_n 0, 1) := by decide +kernel
theorem dX9_copy_67 : decode cX9_copy 67 = .ok (.iload 6, 2) := by decide +kernel
theorem dX9_copy_69 : decode cX9_copy 69 = .ok (.iload 5, 2) := by decide +kernel
theorem dX9_copy_71 : decode cX9_copy 71 = .ok (.invokevirtual 169, 3) := by decide +kernel
theorem dX9_copy_74 : decode cX9_copy 74 = .ok (.bipush (-2), 2) := by decide +kernel
theorem dX9_copy_76 : decode cX9_copy 76 = .ok (.iload 4, 2) := by decide +kernel
theorem dX9_copy_78 : decode cX9_copy 78 = .ok (.isub, 1) := by decide +kernel
theorem dX9_copy_79 : decode cX9_copy 79 = .ok (.ireturn, 1) := by decide +kernel
theorem dX9_copy_80 : decode cX9_copy 80 = .ok (.iinc 4 1, 3) := by decide +kernel
theorem dX9_copy_83 : decode cX9_copy 83 = .ok (.goto (-62), 3) := by decide +kernel
theorem dX9_copy_86 : decode cX9_copy 86 = .ok (.iconst 0, 1) := by decide +kernel
theorem dX9_copy_87 : decode cX9_copy 87 = .ok (.istore 4, 2) := by decide +kernel
theorem dX9_copy_89 : decode cX9_copy 89 = .ok (.iload 4, 2) := by decide +kernel
theorem dX9_copy_91 : decode cX9_copy 91 = .ok (.iload_n 3, 1) := by decide +kernel
theorem dX9_copy_92 : decode cX9_copy 92 = .ok (.if_icmp .ge 25, 3) := by decide +kernel
theorem dX9_copy_95 : decode cX9_copy 95 = .ok (.aload_n 0, 1) := by decide +kernel
theorem dX9_copy_96 : decode cX9_copy 96 = .ok (.getfield 50, 3) := by decide +kernel
theorem dX9_copy_99 : decode cX9_copy 99 = .ok (.iload 4, 2) := by decide +kernel
theorem dX9_copy_101 : decode cX9_copy 101 = .ok (.aload_n 0, 1) := by decide +kernel
theorem dX9_copy_102 : decode cX9_copy 102 = .ok (.getfield 7, 3) := by decide +kernel
theorem dX9_copy_105 : decode cX9_copy 105 = .ok (.iload_n 1, 1) := by decide +kernel
theorem dX9_copy_106 : decode cX9_copy 106 = .ok (.iload 4, 2) := by decide +kernel
theorem dX9_copy_108 : decode cX9_copy 108 = .ok (.iadd, 1) := by decide +kernel
theorem dX9_copy_109 : decode cX9_copy 109 = .ok (.iaload, 1) := by decide +kernel
theorem dX9_copy_110 : decode cX9_copy 110 = .ok (.iastore, 1) := by decide +kernel
theorem dX9_copy_111 : decode cX9_copy 111 = .ok (.iinc 4 1, 3) := by decide +kernel
theorem dX9_copy_114 : decode cX9_copy 114 = .ok (.goto (-25), 3) := by decide +kernel
theorem dX9_copy_117 : decode cX9_copy 117 = .ok (.iconst 0, 1) := by decide +kernel
theorem dX9_copy_118 : decode cX9_copy 118 = .ok (.istore 4, 2) := by decide +kernel
theorem dX9_copy_120 : decode cX9_copy 120 = .ok (.iload 4, 2) := by decide +kernel
theorem dX9_copy_122 : decode cX9_copy 122 = .ok (.iload_n 3, 1) := by decide +kernel
theorem dX9_copy_123 : decode cX9_copy 123 = .ok (.if_icmp .ge 25, 3) := by decide +kernel
theorem dX9_copy_126 : decode cX9_copy 126 = .ok (.aload_n 0, 1) := by decide +kernel
theorem dX9_copy_127 : decode cX9_copy 127 = .ok (.getfield 7, 3) := by decide +kernel
theorem dX9_copy_130 : decode cX9_copy 130 = .ok (.iload_n 2, 1) := by decide +kernel
theorem dX9_copy_131 : decode cX9_copy 131 = .ok (.iload 4, 2) := by decide +kernel
theorem dX9_copy_133 : decode cX9_copy 133 = .ok (.iadd, 1) := by decide +kernel
theorem dX9_copy_134 : decode cX9_copy 134 = .ok (.aload_n 0, 1) := by decide +kernel
theorem dX9_copy_135 : decode cX9_copy 135 = .ok (.getfield 50, 3) := by decide +kernel
theorem dX9_copy_138 : decode cX9_copy 138 = .ok (.iload 4, 2) := by decide +kernel
theorem dX9_copy_140 : decode cX9_copy 140 = .ok (.iaload, 1) := by decide +kernel
theorem dX9_copy_141 : decode cX9_copy 141 = .ok (.iastore, 1) := by decide +kernel
theorem dX9_copy_142 : decode cX9_copy 142 = .ok (.iinc 4 1, 3) := by decide +kernel
theorem dX9_copy_145 : decode cX9_copy 145 = .ok (.goto (-25), 3) := by decide +kernel
theorem dX9_copy_148 : decode cX9_copy 148 = .ok (.iload_n 3, 1) := by decide +kernel
theorem dX9_copy_149 : decode cX9_copy 149 = .ok (.ireturn, 1) := by decide +kernel
theorem dX9_sizeOf_0 : decode cX9_sizeOf 0 = .ok (.aload_n 0, 1) := by decide +kernel
theorem dX9_sizeOf_1 : decode cX9_sizeOf 1 = .ok (.iconst 0, 1) := by decide +kernel
theorem dX9_sizeOf_2 : decode cX9_sizeOf 2 = .ok (.putfield 85, 3) := by decide +kernel
theorem dX9_sizeOf_5 : decode cX9_sizeOf 5 = .ok (.aload_n 0, 1) := by decide +kernel
theorem dX9_sizeOf_6 : decode cX9_sizeOf 6 = .ok (.iload_n 1, 1) := by decide +kernel
theorem dX9_sizeOf_7 : decode cX9_sizeOf 7 = .ok (.invokevirtual 175, 3) := by decide +kernel
theorem dX9_sizeOf_10 : decode cX9_sizeOf 10 = .ok (.istore_n 2, 1) := by decide +kernel
theorem dX9_sizeOf_11 : decode cX9_sizeOf 11 = .ok (.iload_n 2, 1) := by decide +kernel
theorem dX9_sizeOf_12 : decode cX9_sizeOf 12 = .ok (.iconst (-1), 1) := by decide +kernel
theorem dX9_sizeOf_13 : decode cX9_sizeOf 13 = .ok (.if_icmp .ne 7, 3) := by decide +kernel
theorem dX9_sizeOf_16 : decode cX9_sizeOf 16 = .ok (.iconst (-1), 1) := by decide +kernel
theorem dX9_sizeOf_17 : decode cX9_sizeOf 17 = .ok (.goto 9, 3) := by decide +kernel
theorem dX9_sizeOf_20 : decode cX9_sizeOf 20 = .ok (.aload_n 0, 1) := by decide +kernel
theorem dX9_sizeOf_21 : decode cX9_sizeOf 21 = .ok (.getfield 26, 3) := by decide +kernel
theorem dX9_sizeOf_24 : decode cX9_sizeOf 24 = .ok (.iload_n 2, 1) := by decide +kernel
theorem dX9_sizeOf_25 : decode cX9_sizeOf 25 = .ok (.iaload, 1) := by decide +kernel
theorem dX9_sizeOf_26 : decode cX9_sizeOf 26 = .ok (.ireturn, 1) := by decide +kernel
theorem dX9_describe_0 : decode cX9_describe 0 = .ok (.aload_n 0, 1) := by decide +kernel
theorem dX9_describe_1 : decode cX9_describe 1 = .ok (.iconst 0, 1) := by decide +kernel
theorem dX9_describe_2 : decode cX9_describe 2 = .ok (.putfield 85, 3) := by decide +kernel
theorem dX9_describe_5 : decode cX9_describe 5 = .ok (.iload_n 2, 1) := by decide +kernel
theorem dX9_describe_6 : decode cX9_describe 6 = .ok (.ifCond .lt 8, 3) := by decide +kernel
theorem dX9_describe_9 : decode cX9_describe 9 = .ok (.iload_n 2, 1) := by decide +kernel
theorem dX9_describe_10 : decode cX9_describe 10 = .ok (.iconst 5, 1) := by decide +kernel
theorem dX9_describe_11 : decode cX9_describe 11 = .ok (.if_icmp .le 5, 3) := by decide +kernel
theorem dX9_describe_14 : decode cX9_describe 14 = .ok (.iconst (-1), 1) := by decide +kernel
theorem dX9_describe_15 : decode cX9_describe 15 = .ok (.ireturn, 1) := by decide +kernel
theorem dX9_describe_16 : decode cX9_describe 16 = .ok (.aload_n 0, 1) := by decide +kernel
theorem dX9_describe_17 : decode cX9_describe 17 = .ok (.iload_n 1, 1) := by decide +kernel
theorem dX9_describe_18 : decode cX9_describe 18 = .ok (.invokevirtual 95, 3) := by decide +kernel
theorem dX9_describe_21 : decode cX9_describe 21 = .ok (.istore_n 3, 1) := by decide +kernel
theorem dX9_describe_22 : decode cX9_describe 22 = .ok (.iload_n 3, 1) := by decide +kernel
theorem dX9_describe_23 : decode cX9_describe 23 = .ok (.iconst (-1), 1) := by decide +kernel
theorem dX9_describe_24 : decode cX9_describe 24 = .ok (.if_icmp .ne 10, 3) := by decide +kernel
theorem dX9_describe_27 : decode cX9_describe 27 = .ok (.aload_n 0, 1) := by decide +kernel
theorem dX9_describe_28 : decode cX9_describe 28 = .ok (.iconst 1, 1) := by decide +kernel
theorem dX9_describe_29 : decode cX9_describe 29 = .ok (.putfield 85, 3) := by decide +kernel
theorem dX9_describe_32 : decode cX9_describe 32 = .ok (.iconst 0, 1) := by decide +kernel
theorem dX9_describe_33 : decode cX9_describe 33 = .ok (.ireturn, 1) := by decide +kernel
theorem dX9_describe_34 : decode cX9_describe 34 = .ok (.iload_n 2, 1) := by decide +kernel
theorem dX9_describe_35 : decode cX9_describe 35 = .ok (.tableswitch 74 0 4 #[33, 39, 46, 53, 60], 33) := by decide +kernel
theorem dX9_describe_68 : decode cX9_describe 68 = .ok (.aload_n 0, 1) := by decide +kernel
theorem dX9_describe_69 : decode cX9_describe 69 = .ok (.iload_n 3, 1) := by decide +kernel
theorem dX9_describe_70 : decode cX9_describe 70 = .ok (.invokevirtual 91, 3) := by decide +kernel
theorem dX9_describe_73 : decode cX9_describe 73 = .ok (.ireturn, 1) := by decide +kernel
theorem dX9_describe_74 : decode cX9_describe 74 = .ok (.aload_n 0, 1) := by decide +kernel
theorem dX9_describe_75 : decode cX9_describe 75 = .ok (.getfield 26, 3) := by decide +kernel
theorem dX9_describe_78 : decode cX9_describe 78 = .ok (.iload_n 3, 1) := by decide +kernel
theorem dX9_describe_79 : decode cX9_describe 79 = .ok (.iaload, 1) := by decide +kernel
theorem dX9_describe_80 : decode cX9_describe 80 = .ok (.ireturn, 1) := by decide +kernel
theorem dX9_describe_81 : decode cX9_describe 81 = .ok (.aload_n 0, 1) := by decide +kernel
theorem dX9_describe_82 : decode cX9_describe 82 = .ok (.getfield 23, 3) := by decide +kernel
theorem dX9_describe_85 : decode cX9_describe 85 = .ok (.iload_n 3, 1) := by decide +kernel
theorem dX9_describe_86 : decode cX9_describe 86 = .ok (.iaload, 1) := by decide +kernel
theorem dX9_describe_87 : decode cX9_describe 87 = .ok (.ireturn, 1) := by decide +kernel
theorem dX9_describe_88 : decode cX9_describe 88 = .ok (.aload_n 0, 1) := by decide +kernel
theorem dX9_describe_89 : decode cX9_describe 89 = .ok (.getfield 29, 3) := by decide +kernel
theorem dX9_describe_92 : decode cX9_describe 92 = .ok (.iload_n 3, 1) := by decide +kernel
theorem dX9_describe_93 : decode cX9_describe 93 = .ok (.iaload, 1) := by decide +kernel
theorem dX9_describe_94 : decode cX9_describe 94 = .ok (.ireturn, 1) := by decide +kernel
theorem dX9_describe_95 : decode cX9_describe 95 = .ok (.aload_n 0, 1) := by decide +kernel
theorem dX9_describe_96 : decode cX9_describe 96 = .ok (.iload_n 3, 1) := by decide +kernel
theorem dX9_describe_97 : decode cX9_describe 97 = .ok (.invokevirtual 98, 3) := by decide +kernel
theorem dX9_describe_100 : decode cX9_describe 100 = .ok (.ifCond .eq 7, 3) := by decide +kernel
theorem dX9_describe_103 : decode cX9_describe 103 = .ok (.iconst 1, 1) := by decide +kernel
theorem dX9_describe_104 : decode cX9_describe 104 = .ok (.goto 4, 3) := by decide +kernel
theorem dX9_describe_107 : decode cX9_describe 107 = .ok (.iconst 0, 1) := by decide +kernel
theorem dX9_describe_108 : decode cX9_describe 108 = .ok (.ireturn, 1) := by decide +kernel
theorem dX9_describe_109 : decode cX9_describe 109 = .ok (.iload_n 1, 1) := by decide +kernel
theorem dX9_describe_110 : decode cX9_describe 110 = .ok (.aload_n 0, 1) := by decide +kernel
theorem dX9_describe_111 : decode cX9_describe 111 = .ok (.iload_n 3, 1) := by decide +kernel
theorem dX9_describe_112 : decode cX9_describe 112 = .ok (.invokevirtual 91, 3) := by decide +kernel
theorem dX9_describe_115 : decode cX9_describe 115 = .ok (.isub, 1) := by decide +kernel
theorem dX9_describe_116 : decode cX9_describe 116 = .ok (.ireturn, 1) := by decide +kernel
theorem dX9_setRoot_0 : decode cX9_setRoot 0 = .ok (.aload_n 0, 1) := by decide +kernel
theorem dX9_setRoot_1 : decode cX9_setRoot 1 = .ok (.iconst 0, 1) := by decide +kernel
theorem dX9_setRoot_2 : decode cX9_setRoot 2 = .ok (.putfield 85, 3) := by decide +kernel
theorem dX9_setRoot_5 : decode cX9_setRoot 5 = .ok (.iload_n 1, 1) := by decide +kernel
theorem dX9_setRoot_6 : decode cX9_setRoot 6 = .ok (.ifCond .lt 9, 3) := by decide +kernel
theorem dX9_setRoot_9 : decode cX9_setRoot 9 = .ok (.iload_n 1, 1) := by decide +kernel
theorem dX9_setRoot_10 : decode cX9_setRoot 10 = .ok (.bipush 16, 2) := by decide +kernel
theorem dX9_setRoot_12 : decode cX9_setRoot 12 = .ok (.if_icmp .lt 5, 3) := by decide +kernel
theorem dX9_setRoot_15 : decode cX9_setRoot 15 = .ok (.iconst 0, 1) := by decide +kernel
theorem dX9_setRoot_16 : decode cX9_setRoot 16 = .ok (.ireturn, 1) := by decide +kernel
theorem dX9_setRoot_17 : decode cX9_setRoot 17 = .ok (.aload_n 0, 1) := by decide +kernel
theorem dX9_setRoot_18 : decode cX9_setRoot 18 = .ok (.getfield 41, 3) := by decide +kernel
theorem dX9_setRoot_21 : decode cX9_setRoot 21 = .ok (.iload_n 1, 1) := by decide +kernel
theorem dX9_setRoot_22 : decode cX9_setRoot 22 = .ok (.iload_n 2, 1) := by decide +kernel
theorem dX9_setRoot_23 : decode cX9_setRoot 23 = .ok (.iastore, 1) := by decide +kernel
theorem dX9_setRoot_24 : decode cX9_setRoot 24 = .ok (.iconst 1, 1) := by decide +kernel
theorem dX9_setRoot_25 : decode cX9_setRoot 25 = .ok (.ireturn, 1) := by decide +kernel
theorem dX9_leads_0 : decode cX9_leads 0 = .ok (.aload_n 0, 1) := by decide +kernel
theorem dX9_leads_1 : decode cX9_leads 1 = .ok (.iload_n 1, 1) := by decide +kernel
theorem dX9_leads_2 : decode cX9_leads 2 = .ok (.invokevirtual 184, 3) := by decide +kernel
theorem dX9_leads_5 : decode cX9_leads 5 = .ok (.ifCond .ne 11, 3) := by decide +kernel
theorem dX9_leads_8 : decode cX9_leads 8 = .ok (.aload_n 0, 1) := by decide +kernel
theorem dX9_leads_9 : decode cX9_leads 9 = .ok (.iload_n 1, 1) := by decide +kernel
theorem dX9_leads_10 : decode cX9_leads 10 = .ok (.invokevirtual 95, 3) := by decide +kernel
theorem dX9_leads_13 : decode cX9_leads 13 = .ok (.goto 4, 3) := by decide +kernel
theorem dX9_leads_16 : decode cX9_leads 16 = .ok (.iconst (-1), 1) := by decide +kernel
theorem dX9_leads_17 : decode cX9_leads 17 = .ok (.ireturn, 1) := by decide +kernel
theorem dX9_reaches_0 : decode cX9_reaches 0 = .ok (.iconst 0, 1) := by decide +kernel
theorem dX9_reaches_1 : decode cX9_reaches 1 = .ok (.istore_n 1, 1) := by decide +kernel
theorem dX9_reaches_2 : decode cX9_reaches 2 = .ok (.iload_n 1, 1) := by decide +kernel
theorem dX9_reaches_3 : decode cX9_reaches 3 = .ok (.aload_n 0, 1) := by decide +kernel
theorem dX9_reaches_4 : decode cX9_reaches 4 = .ok (.getfield 88, 3) := by decide +kernel
theorem dX9_reaches_7 : decode cX9_reaches 7 = .ok (.if_icmp .ge 16, 3) := by decide +kernel
theorem dX9_reaches_10 : decode cX9_reaches 10 = .ok (.aload_n 0, 1) := by decide +kernel
theorem dX9_reaches_11 : decode cX9_reaches 11 = .ok (.getfield 53, 3) := by decide +kernel
theorem dX9_reaches_14 : decode cX9_reaches 14 = .ok (.iload_n 1, 1) := by decide +kernel
theorem dX9_reaches_15 : decode cX9_reaches 15 = .ok (.iconst 0, 1) := by decide +kernel
theorem dX9_reaches_16 : decode cX9_reaches 16 = .ok (.bastore, 1) := by decide +kernel
theorem dX9_reaches_17 : decode cX9_reaches 17 = .ok (.iinc 1 1, 3) := by decide +kernel
theorem dX9_reaches_20 : decode cX9_reaches 20 = .ok (.goto (-18), 3) := by decide +kernel
theorem dX9_reaches_23 : decode cX9_reaches 23 = .ok (.iconst 0, 1) := by decide +kernel
theorem dX9_reaches_24 : decode cX9_reaches 24 = .ok (.istore_n 1, 1) := by decide +kernel
theorem dX9_reaches_25 : decode cX9_reaches 25 = .ok (.iload_n 1, 1) := by decide +kernel
theorem dX9_reaches_26 : decode cX9_reaches 26 = .ok (.bipush 16, 2) := by decide +kernel
theorem dX9_reaches_28 : decode cX9_reaches 28 = .ok (.if_icmp .ge 39, 3) := by decide +kernel
theorem dX9_reaches_31 : decode cX9_reaches 31 = .ok (.aload_n 0, 1) := by decide +kernel
theorem dX9_reaches_32 : decode cX9_reaches 32 = .ok (.aload_n 0, 1) := by decide +kernel
theorem dX9_reaches_33 : decode cX9_reaches 33 = .ok (.getfield 41, 3) := by decide +kernel
theorem dX9_reaches_36 : decode cX9_reaches 36 = .ok (.iload_n 1, 1) := by decide +kernel
theorem dX9_reaches_37 : decode cX9_reaches 37 = .ok (.iaload, 1) := by decide +kernel
theorem dX9_reaches_38 : decode cX9_reaches 38 = .ok (.invokevirtual 187, 3) := by decide +kernel
theorem dX9_reaches_41 : decode cX9_reaches 41 = .ok (.iconst (-1), 1) := by decide +kernel
theorem dX9_reaches_42 : decode cX9_reaches 42 = .ok (.if_icmp .eq 19, 3) := by decide +kernel
theorem dX9_reaches_45 : decode cX9_reaches 45 = .ok (.aload_n 0, 1) := by decide +kernel
theorem dX9_reaches_46 : decode cX9_reaches 46 = .ok (.getfield 53, 3) := by decide +kernel
theorem dX9_reaches_49 : decode cX9_reaches 49 = .ok (.aload_n 0, 1) := by decide +kernel
theorem dX9_reaches_50 : decode cX9_reaches 50 = .ok (.aload_n 0, 1) := by decide +kernel
theorem dX9_reaches_51 : decode cX9_reaches 51 = .ok (.getfield 41, 3) := by decide +kernel
theorem dX9_reaches_54 : decode cX9_reaches 54 = .ok (.iload_n 1, 1) := by decide +kernel
theorem dX9_reaches_55 : decode cX9_reaches 55 = .ok (.iaload, 1) := by decide +kernel
theorem dX9_reaches_56 : decode cX9_reaches 56 = .ok (.invokevirtual 187, 3) := by decide +kernel
theorem dX9_reaches_59 : decode cX9_reaches 59 = .ok (.iconst 1, 1) := by decide +kernel
theorem dX9_reaches_60 : decode cX9_reaches 60 = .ok (.bastore, 1) := by decide +kernel
theorem dX9_reaches_61 : decode cX9_reaches 61 = .ok (.iinc 1 1, 3) := by decide +kernel
theorem dX9_reaches_64 : decode cX9_reaches 64 = .ok (.goto (-39), 3) := by decide +kernel
theorem dX9_reaches_67 : decode cX9_reaches 67 = .ok (.iconst 1, 1) := by decide +kernel
theorem dX9_reaches_68 : decode cX9_reaches 68 = .ok (.istore_n 1, 1) := by decide +kernel
theorem dX9_reaches_69 : decode cX9_reaches 69 = .ok (.iload_n 1, 1) := by decide +kernel
theorem dX9_reaches_70 : decode cX9_reaches 70 = .ok (.ifCond .eq 98, 3) := by decide +kernel
theorem dX9_reaches_73 : decode cX9_reaches 73 = .ok (.iconst 0, 1) := by decide +kernel
theorem dX9_reaches_74 : decode cX9_reaches 74 = .ok (.istore_n 1, 1) := by decide +kernel
theorem dX9_reaches_75 : decode cX9_reaches 75 = .ok (.iconst 0, 1) := by decide +kernel
theorem dX9_reaches_76 : decode cX9_reaches 76 = .ok (.istore_n 2, 1) := by decide +kernel
theorem dX9_reaches_77 : decode cX9_reaches 77 = .ok (.iload_n 2, 1) := by decide +kernel
theorem dX9_reaches_78 : decode cX9_reaches 78 = .ok (.aload_n 0, 1) := by decide +kernel
theorem dX9_reaches_79 : decode cX9_reaches 79 = .ok (.getfield 88, 3) := by decide +kernel
theorem dX9_reaches_82 : decode cX9_reaches 82 = .ok (.if_icmp .ge 83, 3) := by decide +kernel
theorem dX9_reaches_85 : decode cX9_reaches 85 = .ok (.iconst 0, 1) := by decide +kernel
theorem dX9_reaches_86 : decode cX9_reaches 86 = .ok (.istore_n 3, 1) := by decide +kernel
theorem dX9_reaches_87 : decode cX9_reaches 87 = .ok (.iload_n 3, 1) := by decide +kernel
theorem dX9_reaches_88 : decode cX9_reaches 88 = .ok (.aload_n 0, 1) := by decide +kernel
theorem dX9_reaches_89 : decode cX9_reaches 89 = .ok (.getfield 26, 3) := by decide +kernel
theorem dX9_reaches_92 : decode cX9_reaches 92 = .ok (.iload_n 2, 1) := by decide +kernel
theorem dX9_reaches_93 : decode cX9_reaches 93 = .ok (.iaload, 1) := by decide +kernel
theorem dX9_reaches_94 : decode cX9_reaches 94 = .ok (.if_icmp .ge 65, 3) := by decide +kernel
theorem dX9_reaches_97 : decode cX9_reaches 97 = .ok (.aload_n 0, 1) := by decide +kernel
theorem dX9_reaches_98 : decode cX9_reaches 98 = .ok (.getfield 53, 3) := by decide +kernel
theorem dX9_reaches_101 : decode cX9_reaches 101 = .ok (.iload_n 2, 1) := by decide +kernel
theorem dX9_reaches_102 : decode cX9_reaches 102 = .ok (.baload, 1) := by decide +kernel
theorem dX9_reaches_103 : decode cX9_reaches 103 = .ok (.ifCond .eq 56, 3) := by decide +kernel
theorem dX9_reaches_106 : decode cX9_reaches 106 = .ok (.aload_n 0, 1) := by decide +kernel
theorem dX9_reaches_107 : decode cX9_reaches 107 = .ok (.aload_n 0, 1) := by decide +kernel
theorem dX9_reaches_108 : decode cX9_reaches 108 = .ok (.getfield 7, 3) := by decide +kernel
theorem dX9_reaches_111 : decode cX9_reaches 111 = .ok (.aload_n 0, 1) := by decide +kernel
theorem dX9_reaches_112 : decode cX9_reaches 112 = .ok (.iload_n 2, 1) := by decide +kernel
theorem dX9_reaches_113 : decode cX9_reaches 113 = .ok (.invokevirtual 91, 3) := by decide +kernel
theorem dX9_reaches_116 : decode cX9_reaches 116 = .ok (.iload_n 3, 1) := by decide +kernel
theorem dX9_reaches_117 : decode cX9_reaches 117 = .ok (.iadd, 1) := by decide +kernel
theorem dX9_reaches_118 : decode cX9_reaches 118 = .ok (.iaload, 1) := by decide +kernel
theorem dX9_reaches_119 : decode cX9_reaches 119 = .ok (.invokevirtual 187, 3) := by decide +kernel
theorem dX9_reaches_122 : decode cX9_reaches 122 = .ok (.istore 4, 2) := by decide +kernel
theorem dX9_reaches_124 : decode cX9_reaches 124 = .ok (.iload 4, 2) := by decide +kernel
theorem dX9_reaches_126 : decode cX9_reaches 126 = .ok (.iconst (-1), 1) := by decide +kernel
theorem dX9_reaches_127 : decode cX9_reaches 127 = .ok (.if_icmp .eq 26, 3) := by decide +kernel
theorem dX9_reaches_130 : decode cX9_reaches 130 = .ok (.aload_n 0, 1) := by decide +kernel
theorem dX9_reaches_131 : decode cX9_reaches 131 = .ok (.getfield 53, 3) := by decide +kernel
theorem dX9_reaches_134 : decode cX9_reaches 134 = .ok (.iload 4, 2) := by decide +kernel
theorem dX9_reaches_136 : decode cX9_reaches 136 = .ok (.baload, 1) := by decide +kernel
theorem dX9_reaches_137 : decode cX9_reaches 137 = .ok (.ifCond .eq 6, 3) := by decide +kernel
theorem dX9_reaches_140 : decode cX9_reaches 140 = .ok (.goto 13, 3) := by decide +kernel
theorem dX9_reaches_143 : decode cX9_reaches 143 = .ok (.aload_n 0, 1) := by decide +kernel
theorem dX9_reaches_144 : decode cX9_reaches 144 = .ok (.getfield 53, 3) := by decide +kernel
theorem dX9_reaches_147 : decode cX9_reaches 147 = .ok (.iload 4, 2) := by decide +kernel
theorem dX9_reaches_149 : decode cX9_reaches 149 = .ok (.iconst 1, 1) := by decide +kernel
theorem dX9_reaches_150 : decode cX9_reaches 150 = .ok (.bastore, 1) := by decide +kernel
theorem dX9_reaches_151 : decode cX9_reaches 151 = .ok (.iconst 1, 1) := by decide +kernel
theorem dX9_reaches_152 : decode cX9_reaches 152 = .ok (.istore_n 1, 1) := by decide +kernel
theorem dX9_reaches_153 : decode cX9_reaches 153 = .ok (.iinc 3 1, 3) := by decide +kernel
theorem dX9_reaches_156 : decode cX9_reaches 156 = .ok (.goto (-69), 3) := by decide +kernel
theorem dX9_reaches_159 : decode cX9_reaches 159 = .ok (.iinc 2 1, 3) := by decide +kernel
theorem dX9_reaches_162 : decode cX9_reaches 162 = .ok (.goto (-85), 3) := by decide +kernel
theorem dX9_reaches_165 : decode cX9_reaches 165 = .ok (.goto (-96), 3) := by decide +kernel
theorem dX9_reaches_168 : decode cX9_reaches 168 = .ok (.return_, 1) := by decide +kernel
theorem dX9_isHead_0 : decode cX9_isHead 0 = .ok (.iconst 0, 1) := by decide +kernel
theorem dX9_isHead_1 : decode cX9_isHead 1 = .ok (.istore_n 2, 1) := by decide +kernel
theorem dX9_isHead_2 : decode cX9_isHead 2 = .ok (.iload_n 2, 1) := by decide +kernel
theorem dX9_isHead_3 : decode cX9_isHead 3 = .ok (.aload_n 0, 1) := by decide +kernel
theorem dX9_isHead_4 : decode cX9_isHead 4 = .ok (.getfield 190, 3) := by decide +kernel
theorem dX9_isHead_7 : decode cX9_isHead 7 = .ok (.if_icmp .ge 64, 3) := by decide +kernel
theorem dX9_isHead_10 : decode cX9_isHead 10 = .ok (.aload_n 0, 1) := by decide +kernel
theorem dX9_isHead_11 : decode cX9_isHead 11 = .ok (.getfield 57, 3) := by decide +kernel
theorem dX9_isHead_14 : decode cX9_isHead 14 = .ok (.iload_n 2, 1) := by decide +kernel
theorem dX9_isHead_15 : decode cX9_isHead 15 = .ok (.iaload, 1) := by decide +kernel
theorem dX9_isHead_16 : decode cX9_isHead 16 = .ok (.istore_n 3, 1) := by decide +kernel
theorem dX9_isHead_17 : decode cX9_isHead 17 = .ok (.iconst 0, 1) := by decide +kernel
theorem dX9_isHead_18 : decode cX9_isHead 18 = .ok (.istore 4, 2) := by decide +kernel
theorem dX9_isHead_20 : decode cX9_isHead 20 = .ok (.iload 4, 2) := by decide +kernel
theorem dX9_isHead_22 : decode cX9_isHead 22 = .ok (.aload_n 0, 1) := by decide +kernel
theorem dX9_isHead_23 : decode cX9_isHead 23 = .ok (.getfield 26, 3) := by decide +kernel
theorem dX9_isHead_26 : decode cX9_isHead 26 = .ok (.iload_n 3, 1) := by decide +kernel
theorem dX9_isHead_27 : decode cX9_isHead 27 = .ok (.iaload, 1) := by decide +kernel
theorem dX9_isHead_28 : decode cX9_isHead 28 = .ok (.if_icmp .ge 37, 3) := by decide +kernel
theorem dX9_isHead_31 : decode cX9_isHead 31 = .ok (.iload_n 3, 1) := by decide +kernel
theorem dX9_isHead_32 : decode cX9_isHead 32 = .ok (.iload_n 1, 1) := by decide +kernel
theorem dX9_isHead_33 : decode cX9_isHead 33 = .ok (.if_icmp .eq 32, 3) := by decide +kernel
theorem dX9_isHead_36 : decode cX9_isHead 36 = .ok (.aload_n 0, 1) := by decide +kernel
theorem dX9_isHead_37 : decode cX9_isHead 37 = .ok (.aload_n 0, 1) := by decide +kernel
theorem dX9_isHead_38 : decode cX9_isHead 38 = .ok (.getfield 7, 3) := by decide +kernel
theorem dX9_isHead_41 : decode cX9_isHead 41 = .ok (.aload_n 0, 1) := by decide +kernel
theorem dX9_isHead_42 : decode cX9_isHead 42 = .ok (.iload_n 3, 1) := by decide +kernel
theorem dX9_isHead_43 : decode cX9_isHead 43 = .ok (.invokevirtual 91, 3) := by decide +kernel
theorem dX9_isHead_46 : decode cX9_isHead 46 = .ok (.iload 4, 2) := by decide +kernel
theorem dX9_isHead_48 : decode cX9_isHead 48 = .ok (.iadd, 1) := by decide +kernel
theorem dX9_isHead_49 : decode cX9_isHead 49 = .ok (.iaload, 1) := by decide +kernel
theorem dX9_isHead_50 : decode cX9_isHead 50 = .ok (.invokevirtual 187, 3) := by decide +kernel
theorem dX9_isHead_53 : decode cX9_isHead 53 = .ok (.iload_n 1, 1) := by decide +kernel
theorem dX9_isHead_54 : decode cX9_isHead 54 = .ok (.if_icmp .ne 5, 3) := by decide +kernel
theorem dX9_isHead_57 : decode cX9_isHead 57 = .ok (.iconst 0, 1) := by decide +kernel
theorem dX9_isHead_58 : decode cX9_isHead 58 = .ok (.ireturn, 1) := by decide +kernel
theorem dX9_isHead_59 : decode cX9_isHead 59 = .ok (.iinc 4 1, 3) := by decide +kernel
theorem dX9_isHead_62 : decode cX9_isHead 62 = .ok (.goto (-42), 3) := by decide +kernel
theorem dX9_isHead_65 : decode cX9_isHead 65 = .ok (.iinc 2 1, 3) := by decide +kernel
theorem dX9_isHead_68 : decode cX9_isHead 68 = .ok (.goto (-66), 3) := by decide +kernel
theorem dX9_isHead_71 : decode cX9_isHead 71 = .ok (.iconst 1, 1) := by decide +kernel
theorem dX9_isHead_72 : decode cX9_isHead 72 = .ok (.ireturn, 1) := by decide +kernel
theorem dX9_leakScan_0 : decode cX9_leakScan 0 = .ok (.aload_n 0, 1) := by decide +kernel
theorem dX9_leakScan_1 : decode cX9_leakScan 1 = .ok (.iconst 0, 1) := by decide +kernel
theorem dX9_leakScan_2 : decode cX9_leakScan 2 = .ok (.putfield 85, 3) := by decide +kernel
theorem dX9_leakScan_5 : decode cX9_leakScan 5 = .ok (.aload_n 0, 1) := by decide +kernel
theorem dX9_leakScan_6 : decode cX9_leakScan 6 = .ok (.invokevirtual 193, 3) := by decide +kernel
theorem dX9_leakScan_9 : decode cX9_leakScan 9 = .ok (.aload_n 0, 1) := by decide +kernel
theorem dX9_leakScan_10 : decode cX9_leakScan 10 = .ok (.iconst 0, 1) := by decide +kernel
theorem dX9_leakScan_11 : decode cX9_leakScan 11 = .ok (.putfield 190, 3) := by decide +kernel
theorem dX9_leakScan_14 : decode cX9_leakScan 14 = .ok (.iconst 0, 1) := by decide +kernel
theorem dX9_leakScan_15 : decode cX9_leakScan 15 = .ok (.istore_n 1, 1) := by decide +kernel
theorem dX9_leakScan_16 : decode cX9_leakScan 16 = .ok (.iload_n 1, 1) := by decide +kernel
theorem dX9_leakScan_17 : decode cX9_leakScan 17 = .ok (.aload_n 0, 1) := by decide +kernel
theorem dX9_leakScan_18 : decode cX9_leakScan 18 = .ok (.getfield 88, 3) := by decide +kernel
theorem dX9_leakScan_21 : decode cX9_leakScan 21 = .ok (.if_icmp .ge 97, 3) := by decide +kernel
theorem dX9_leakScan_24 : decode cX9_leakScan 24 = .ok (.aload_n 0, 1) := by decide +kernel
theorem dX9_leakScan_25 : decode cX9_leakScan 25 = .ok (.iload_n 1, 1) := by decide +kernel
theorem dX9_leakScan_26 : decode cX9_leakScan 26 = .ok (.invokevirtual 98, 3) := by decide +kernel
theorem dX9_leakScan_29 : decode cX9_leakScan 29 = .ok (.ifCond .eq 83, 3) := by decide +kernel
theorem dX9_leakScan_32 : decode cX9_leakScan 32 = .ok (.aload_n 0, 1) := by decide +kernel
theorem dX9_leakScan_33 : decode cX9_leakScan 33 = .ok (.getfield 53, 3) := by decide +kernel
theorem dX9_leakScan_36 : decode cX9_leakScan 36 = .ok (.iload_n 1, 1) := by decide +kernel
theorem dX9_leakScan_37 : decode cX9_leakScan 37 = .ok (.baload, 1) := by decide +kernel
theorem dX9_leakScan_38 : decode cX9_leakScan 38 = .ok (.ifCond .eq 6, 3) := by decide +kernel
theorem dX9_leakScan_41 : decode cX9_leakScan 41 = .ok (.goto 71, 3) := by decide +kernel
theorem dX9_leakScan_44 : decode cX9_leakScan 44 = .ok (.aload_n 0, 1) := by decide +kernel
theorem dX9_leakScan_45 : decode cX9_leakScan 45 = .ok (.getfield 190, 3) := by decide +kernel
theorem dX9_leakScan_48 : decode cX9_leakScan 48 = .ok (.istore_n 2, 1) := by decide +kernel
theorem dX9_leakScan_49 : decode cX9_leakScan 49 = .ok (.iload_n 2, 1) := by decide +kernel
theorem dX9_leakScan_50 : decode cX9_leakScan 50 = .ok (.ifCond .le 45, 3) := by decide +kernel
theorem dX9_leakScan_53 : decode cX9_leakScan 53 = .ok (.aload_n 0, 1) := by decide +kernel
theorem dX9_leakScan_54 : decode cX9_leakScan 54 = .ok (.getfield 20, 3) := by decide +kernel
theorem dX9_leakScan_57 : decode cX9_leakScan 57 = .ok (.aload_n 0, 1) := by decide +kernel
theorem dX9_leakScan_58 : decode cX9_leakScan 58 = .ok (.getfield 57, 3) := by decide +kernel
theorem dX9_leakScan_61 : decode cX9_leakScan 61 = .ok (.iload_n 2, 1) := by decide +kernel
theorem dX9_leakScan_62 : decode cX9_leakScan 62 = .ok (.iconst 1, 1) := by decide +kernel
theorem dX9_leakScan_63 : decode cX9_leakScan 63 = .ok (.isub, 1) := by decide +kernel
theorem dX9_leakScan_64 : decode cX9_leakScan 64 = .ok (.iaload, 1) := by decide +kernel
theorem dX9_leakScan_65 : decode cX9_leakScan 65 = .ok (.iaload, 1) := by decide +kernel
theorem dX9_leakScan_66 : decode cX9_leakScan 66 = .ok (.aload_n 0, 1) := by decide +kernel
theorem dX9_leakScan_67 : decode cX9_leakScan 67 = .ok (.getfield 20, 3) := by decide +kernel
theorem dX9_leakScan_70 : decode cX9_leakScan 70 = .ok (.iload_n 1, 1) := by decide +kernel
theorem dX9_leakScan_71 : decode cX9_leakScan 71 = .ok (.iaload, 1) := by decide +kernel
theorem dX9_leakScan_72 : decode cX9_leakScan 72 = .ok (.if_icmp .le 23, 3) := by decide +kernel
theorem dX9_leakScan_75 : decode cX9_leakScan 75 = .ok (.aload_n 0, 1) := by decide +kernel
theorem dX9_leakScan_76 : decode cX9_leakScan 76 = .ok (.getfield 57, 3) := by decide +kernel
theorem dX9_leakScan_79 : decode cX9_leakScan 79 = .ok (.iload_n 2, 1) := by decide +kernel
theorem dX9_leakScan_80 : decode cX9_leakScan 80 = .ok (.aload_n 0, 1) := by decide +kernel
theorem dX9_leakScan_81 : decode cX9_leakScan 81 = .ok (.getfield 57, 3) := by decide +kernel
theorem dX9_leakScan_84 : decode cX9_leakScan 84 = .ok (.iload_n 2, 1) := by decide +kernel
theorem dX9_leakScan_85 : decode cX9_leakScan 85 = .ok (.iconst 1, 1) := by decide +kernel
theorem dX9_leakScan_86 : decode cX9_leakScan 86 = .ok (.isub, 1) := by decide +kernel
theorem dX9_leakScan_87 : decode cX9_leakScan 87 = .ok (.iaload, 1) := by decide +kernel
theorem dX9_leakScan_88 : decode cX9_leakScan 88 = .ok (.iastore, 1) := by decide +kernel
theorem dX9_leakScan_89 : decode cX9_leakScan 89 = .ok (.iinc 2 (-1), 3) := by decide +kernel
theorem dX9_leakScan_92 : decode cX9_leakScan 92 = .ok (.goto (-43), 3) := by decide +kernel
theorem dX9_leakScan_95 : decode cX9_leakScan 95 = .ok (.aload_n 0, 1) := by decide +kernel
theorem dX9_leakScan_96 : decode cX9_leakScan 96 = .ok (.getfield 57, 3) := by decide +kernel
theorem dX9_leakScan_99 : decode cX9_leakScan 99 = .ok (.iload_n 2, 1) := by decide +kernel
theorem dX9_leakScan_100 : decode cX9_leakScan 100 = .ok (.iload_n 1, 1) := by decide +kernel
theorem dX9_leakScan_101 : decode cX9_leakScan 101 = .ok (.iastore, 1) := by decide +kernel
theorem dX9_leakScan_102 : decode cX9_leakScan 102 = .ok (.aload_n 0, 1) := by decide +kernel
theorem dX9_leakScan_103 : decode cX9_leakScan 103 = .ok (.dup, 1) := by decide +kernel
theorem dX9_leakScan_104 : decode cX9_leakScan 104 = .ok (.getfield 190, 3) := by decide +kernel
theorem dX9_leakScan_107 : decode cX9_leakScan 107 = .ok (.iconst 1, 1) := by decide +kernel
theorem dX9_leakScan_108 : decode cX9_leakScan 108 = .ok (.iadd, 1) := by decide +kernel
theorem dX9_leakScan_109 : decode cX9_leakScan 109 = .ok (.putfield 190, 3) := by decide +kernel
theorem dX9_leakScan_112 : decode cX9_leakScan 112 = .ok (.iinc 1 1, 3) := by decide +kernel
theorem dX9_leakScan_115 : decode cX9_leakScan 115 = .ok (.goto (-99), 3) := by decide +kernel
theorem dX9_leakScan_118 : decode cX9_leakScan 118 = .ok (.iconst 0, 1) := by decide +kernel
theorem dX9_leakScan_119 : decode cX9_leakScan 119 = .ok (.istore_n 1, 1) := by decide +kernel
theorem dX9_leakScan_120 : decode cX9_leakScan 120 = .ok (.iload_n 1, 1) := by decide +kernel
theorem dX9_leakScan_121 : decode cX9_leakScan 121 = .ok (.aload_n 0, 1) := by decide +kernel
theorem dX9_leakScan_122 : decode cX9_leakScan 122 = .ok (.getfield 190, 3) := by decide +kernel
theorem dX9_leakScan_125 : decode cX9_leakScan 125 = .ok (.if_icmp .ge 75, 3) := by decide +kernel
theorem dX9_leakScan_128 : decode cX9_leakScan 128 = .ok (.aload_n 0, 1) := by decide +kernel
theorem dX9_leakScan_129 : decode cX9_leakScan 129 = .ok (.getfield 60, 3) := by decide +kernel
theorem dX9_leakScan_132 : decode cX9_leakScan 132 = .ok (.iload_n 1, 1) := by decide +kernel
theorem dX9_leakScan_133 : decode cX9_leakScan 133 = .ok (.aload_n 0, 1) := by decide +kernel
theorem dX9_leakScan_134 : decode cX9_leakScan 134 = .ok (.aload_n 0, 1) := by decide +kernel
theorem dX9_leakScan_135 : decode cX9_leakScan 135 = .ok (.getfield 57, 3) := by decide +kernel
theorem dX9_leakScan_138 : decode cX9_leakScan 138 = .ok (.iload_n 1, 1) := by decide +kernel
theorem dX9_leakScan_139 : decode cX9_leakScan 139 = .ok (.iaload, 1) := by decide +kernel
theorem dX9_leakScan_140 : decode cX9_leakScan 140 = .ok (.invokevirtual 91, 3) := by decide +kernel
theorem dX9_leakScan_143 : decode cX9_leakScan 143 = .ok (.iastore, 1) := by decide +kernel
theorem dX9_leakScan_144 : decode cX9_leakScan 144 = .ok (.aload_n 0, 1) := by decide +kernel
theorem dX9_leakScan_145 : decode cX9_leakScan 145 = .ok (.getfield 63, 3) := by decide +kernel
theorem dX9_leakScan_148 : decode cX9_leakScan 148 = .ok (.iload_n 1, 1) := by decide +kernel
theorem dX9_leakScan_149 : decode cX9_leakScan 149 = .ok (.aload_n 0, 1) := by decide +kernel
theorem dX9_leakScan_150 : decode cX9_leakScan 150 = .ok (.getfield 26, 3) := by decide +kernel
theorem dX9_leakScan_153 : decode cX9_leakScan 153 = .ok (.aload_n 0, 1) := by decide +kernel
theorem dX9_leakScan_154 : decode cX9_leakScan 154 = .ok (.getfield 57, 3) := by decide +kernel
theorem dX9_leakScan_157 : decode cX9_leakScan 157 = .ok (.iload_n 1, 1) := by decide +kernel
theorem dX9_leakScan_158 : decode cX9_leakScan 158 = .ok (.iaload, 1) := by decide +kernel
theorem dX9_leakScan_159 : decode cX9_leakScan 159 = .ok (.iaload, 1) := by decide +kernel
theorem dX9_leakScan_160 : decode cX9_leakScan 160 = .ok (.iastore, 1) := by decide +kernel
theorem dX9_leakScan_161 : decode cX9_leakScan 161 = .ok (.aload_n 0, 1) := by decide +kernel
theorem dX9_leakScan_162 : decode cX9_leakScan 162 = .ok (.getfield 66, 3) := by decide +kernel
theorem dX9_leakScan_165 : decode cX9_leakScan 165 = .ok (.iload_n 1, 1) := by decide +kernel
theorem dX9_leakScan_166 : decode cX9_leakScan 166 = .ok (.aload_n 0, 1) := by decide +kernel
theorem dX9_leakScan_167 : decode cX9_leakScan 167 = .ok (.getfield 29, 3) := by decide +kernel
theorem dX9_leakScan_170 : decode cX9_leakScan 170 = .ok (.aload_n 0, 1) := by decide +kernel
theorem dX9_leakScan_171 : decode cX9_leakScan 171 = .ok (.getfield 57, 3) := by decide +kernel
theorem dX9_leakScan_174 : decode cX9_leakScan 174 = .ok (.iload_n 1, 1) := by decide +kernel
theorem dX9_leakScan_175 : decode cX9_leakScan 175 = .ok (.iaload, 1) := by decide +kernel
theorem dX9_leakScan_176 : decode cX9_leakScan 176 = .ok (.iaload, 1) := by decide +kernel
theorem dX9_leakScan_177 : decode cX9_leakScan 177 = .ok (.iastore, 1) := by decide +kernel
theorem dX9_leakScan_178 : decode cX9_leakScan 178 = .ok (.aload_n 0, 1) := by decide +kernel
theorem dX9_leakScan_179 : decode cX9_leakScan 179 = .ok (.getfield 69, 3) := by decide +kernel
theorem dX9_leakScan_182 : decode cX9_leakScan 182 = .ok (.iload_n 1, 1) := by decide +kernel
theorem dX9_leakScan_183 : decode cX9_leakScan 183 = .ok (.aload_n 0, 1) := by decide +kernel
theorem dX9_leakScan_184 : decode cX9_leakScan 184 = .ok (.aload_n 0, 1) := by decide +kernel
theorem dX9_leakScan_185 : decode cX9_leakScan 185 = .ok (.getfield 57, 3) := by decide +kernel
theorem dX9_leakScan_188 : decode cX9_leakScan 188 = .ok (.iload_n 1, 1) := by decide +kernel
theorem dX9_leakScan_189 : decode cX9_leakScan 189 = .ok (.iaload, 1) := by decide +kernel
theorem dX9_leakScan_190 : decode cX9_leakScan 190 = .ok (.invokevirtual 196, 3) := by decide +kernel
theorem dX9_leakScan_193 : decode cX9_leakScan 193 = .ok (.bastore, 1) := by decide +kernel
theorem dX9_leakScan_194 : decode cX9_leakScan 194 = .ok (.iinc 1 1, 3) := by decide +kernel
theorem dX9_leakScan_197 : decode cX9_leakScan 197 = .ok (.goto (-77), 3) := by decide +kernel
theorem dX9_leakScan_200 : decode cX9_leakScan 200 = .ok (.aload_n 0, 1) := by decide +kernel
theorem dX9_leakScan_201 : decode cX9_leakScan 201 = .ok (.getfield 190, 3) := by decide +kernel
theorem dX9_leakScan_204 : decode cX9_leakScan 204 = .ok (.ireturn, 1) := by decide +kernel
theorem dX9_leak_0 : decode cX9_leak 0 = .ok (.aload_n 0, 1) := by decide +kernel
theorem dX9_leak_1 : decode cX9_leak 1 = .ok (.iconst 0, 1) := by decide +kernel
theorem dX9_leak_2 : decode cX9_leak 2 = .ok (.putfield 85, 3) := by decide +kernel
theorem dX9_leak_5 : decode cX9_leak 5 = .ok (.iload_n 1, 1) := by decide +kernel
theorem dX9_leak_6 : decode cX9_leak 6 = .ok (.ifCond .lt 11, 3) := by decide +kernel
theorem dX9_leak_9 : decode cX9_leak 9 = .ok (.iload_n 1, 1) := by decide +kernel
theorem dX9_leak_10 : decode cX9_leak 10 = .ok (.aload_n 0, 1) := by decide +kernel
theorem dX9_leak_11 : decode cX9_leak 11 = .ok (.getfield 190, 3) := by decide +kernel
theorem dX9_leak_14 : decode cX9_leak 14 = .ok (.if_icmp .lt 5, 3) := by decide +kernel
theorem dX9_leak_17 : decode cX9_leak 17 = .ok (.iconst (-1), 1) := by decide +kernel
theorem dX9_leak_18 : decode cX9_leak 18 = .ok (.ireturn, 1) := by decide +kernel
theorem dX9_leak_19 : decode cX9_leak 19 = .ok (.iload_n 2, 1) := by decide +kernel
theorem dX9_leak_20 : decode cX9_leak 20 = .ok (.tableswitch 68 0 3 #[32, 39, 46, 53], 32) := by decide +kernel
theorem dX9_leak_52 : decode cX9_leak 52 = .ok (.aload_n 0, 1) := by decide +kernel
theorem dX9_leak_53 : decode cX9_leak 53 = .ok (.getfield 60, 3) := by decide +kernel
theorem dX9_leak_56 : decode cX9_leak 56 = .ok (.iload_n 1, 1) := by decide +kernel
theorem dX9_leak_57 : decode cX9_leak 57 = .ok (.iaload, 1) := by decide +kernel
theorem dX9_leak_58 : decode cX9_leak 58 = .ok (.ireturn, 1) := by decide +kernel
theorem dX9_leak_59 : decode cX9_leak 59 = .ok (.aload_n 0, 1) := by decide +kernel
theorem dX9_leak_60 : decode cX9_leak 60 = .ok (.getfield 63, 3) := by decide +kernel
theorem dX9_leak_63 : decode cX9_leak 63 = .ok (.iload_n 1, 1) := by decide +kernel
theorem dX9_leak_64 : decode cX9_leak 64 = .ok (.iaload, 1) := by decide +kernel
theorem dX9_leak_65 : decode cX9_leak 65 = .ok (.ireturn, 1) := by decide +kernel
theorem dX9_leak_66 : decode cX9_leak 66 = .ok (.aload_n 0, 1) := by decide +kernel
theorem dX9_leak_67 : decode cX9_leak 67 = .ok (.getfield 66, 3) := by decide +kernel
theorem dX9_leak_70 : decode cX9_leak 70 = .ok (.iload_n 1, 1) := by decide +kernel
theorem dX9_leak_71 : decode cX9_leak 71 = .ok (.iaload, 1) := by decide +kernel
theorem dX9_leak_72 : decode cX9_leak 72 = .ok (.ireturn, 1) := by decide +kernel
theorem dX9_leak_73 : decode cX9_leak 73 = .ok (.aload_n 0, 1) := by decide +kernel
theorem dX9_leak_74 : decode cX9_leak 74 = .ok (.getfield 69, 3) := by decide +kernel
theorem dX9_leak_77 : decode cX9_leak 77 = .ok (.iload_n 1, 1) := by decide +kernel
theorem dX9_leak_78 : decode cX9_leak 78 = .ok (.baload, 1) := by decide +kernel
theorem dX9_leak_79 : decode cX9_leak 79 = .ok (.ifCond .eq 7, 3) := by decide +kernel
theorem dX9_leak_82 : decode cX9_leak 82 = .ok (.iconst 1, 1) := by decide +kernel
theorem dX9_leak_83 : decode cX9_leak 83 = .ok (.goto 4, 3) := by decide +kernel
theorem dX9_leak_86 : decode cX9_leak 86 = .ok (.iconst 0, 1) := by decide +kernel
theorem dX9_leak_87 : decode cX9_leak 87 = .ok (.ireturn, 1) := by decide +kernel
theorem dX9_leak_88 : decode cX9_leak 88 = .ok (.iconst (-1), 1) := by decide +kernel
theorem dX9_leak_89 : decode cX9_leak 89 = .ok (.ireturn, 1) := by decide +kernel
theorem dX9_pointers_0 : decode cX9_pointers 0 = .ok (.aload_n 0, 1) := by decide +kernel
theorem dX9_pointers_1 : decode cX9_pointers 1 = .ok (.iconst 0, 1) := by decide +kernel
theorem dX9_pointers_2 : decode cX9_pointers 2 = .ok (.putfield 85, 3) := by decide +kernel
theorem dX9_pointers_5 : decode cX9_pointers 5 = .ok (.iconst 0, 1) := by decide +kernel
theorem dX9_pointers_6 : decode cX9_pointers 6 = .ok (.istore_n 1, 1) := by decide +kernel
theorem dX9_pointers_7 : decode cX9_pointers 7 = .ok (.iconst 0, 1) := by decide +kernel
theorem dX9_pointers_8 : decode cX9_pointers 8 = .ok (.istore_n 2, 1) := by decide +kernel
theorem dX9_pointers_9 : decode cX9_pointers 9 = .ok (.iload_n 2, 1) := by decide +kernel
theorem dX9_pointers_10 : decode cX9_pointers 10 = .ok (.bipush 16, 2) := by decide +kernel
theorem dX9_pointers_12 : decode cX9_pointers 12 = .ok (.if_icmp .ge 31, 3) := by decide +kernel
theorem dX9_pointers_15 : decode cX9_pointers 15 = .ok (.iload_n 1, 1) := by decide +kernel
theorem dX9_pointers_16 : decode cX9_pointers 16 = .ok (.aload_n 0, 1) := by decide +kernel
theorem dX9_pointers_17 : decode cX9_pointers 17 = .ok (.aload_n 0, 1) := by decide +kernel
theorem dX9_pointers_18 : decode cX9_pointers 18 = .ok (.getfield 41, 3) := by decide +kernel
theorem dX9_pointers_21 : decode cX9_pointers 21 = .ok (.iload_n 2, 1) := by decide +kernel
theorem dX9_pointers_22 : decode cX9_pointers 22 = .ok (.iaload, 1) := by decide +kernel
theorem dX9_pointers_23 : decode cX9_pointers 23 = .ok (.invokevirtual 187, 3) := by decide +kernel
theorem dX9_pointers_26 : decode cX9_pointers 26 = .ok (.iconst (-1), 1) := by decide +kernel
theorem dX9_pointers_27 : decode cX9_pointers 27 = .ok (.if_icmp .eq 7, 3) := by decide +kernel
theorem dX9_pointers_30 : decode cX9_pointers 30 = .ok (.iconst 1, 1) := by decide +kernel
theorem dX9_pointers_31 : decode cX9_pointers 31 = .ok (.goto 4, 3) := by decide +kernel
theorem dX9_pointers_34 : decode cX9_pointers 34 = .ok (.iconst 0, 1) := by decide +kernel
theorem dX9_pointers_35 : decode cX9_pointers 35 = .ok (.iadd, 1) := by decide +kernel
theorem dX9_pointers_36 : decode cX9_pointers 36 = .ok (.istore_n 1, 1) := by decide +kernel
theorem dX9_pointers_37 : decode cX9_pointers 37 = .ok (.iinc 2 1, 3) := by decide +kernel
theorem dX9_pointers_40 : decode cX9_pointers 40 = .ok (.goto (-31), 3) := by decide +kernel
theorem dX9_pointers_43 : decode cX9_pointers 43 = .ok (.iconst 0, 1) := by decide +kernel
theorem dX9_pointers_44 : decode cX9_pointers 44 = .ok (.istore_n 2, 1) := by decide +kernel
theorem dX9_pointers_45 : decode cX9_pointers 45 = .ok (.iload_n 2, 1) := by decide +kernel
theorem dX9_pointers_46 : decode cX9_pointers 46 = .ok (.aload_n 0, 1) := by decide +kernel
theorem dX9_pointers_47 : decode cX9_pointers 47 = .ok (.getfield 88, 3) := by decide +kernel
theorem dX9_pointers_50 : decode cX9_pointers 50 = .ok (.if_icmp .ge 63, 3) := by decide +kernel
theorem dX9_pointers_53 : decode cX9_pointers 53 = .ok (.iconst 0, 1) := by decide +kernel
theorem dX9_pointers_54 : decode cX9_pointers 54 = .ok (.istore_n 3, 1) := by decide +kernel
theorem dX9_pointers_55 : decode cX9_pointers 55 = .ok (.iload_n 3, 1) := by decide +kernel
theorem dX9_pointers_56 : decode cX9_pointers 56 = .ok (.aload_n 0, 1) := by decide +kernel
theorem dX9_pointers_57 : decode cX9_pointers 57 = .ok (.getfield 26, 3) := by decide +kernel
theorem dX9_pointers_60 : decode cX9_pointers 60 = .ok (.iload_n 2, 1) := by decide +kernel
theorem dX9_pointers_61 : decode cX9_pointers 61 = .ok (.iaload, 1) := by decide +kernel
theorem dX9_pointers_62 : decode cX9_pointers 62 = .ok (.if_icmp .ge 45, 3) := by decide +kernel
theorem dX9_pointers_65 : decode cX9_pointers 65 = .ok (.aload_n 0, 1) := by decide +kernel
theorem dX9_pointers_66 : decode cX9_pointers 66 = .ok (.iload_n 2, 1) := by decide +kernel
theorem dX9_pointers_67 : decode cX9_pointers 67 = .ok (.invokevirtual 98, 3) := by decide +kernel
theorem dX9_pointers_70 : decode cX9_pointers 70 = .ok (.ifCond .eq 37, 3) := by decide +kernel
theorem dX9_pointers_73 : decode cX9_pointers 73 = .ok (.iload_n 1, 1) := by decide +kernel
theorem dX9_pointers_74 : decode cX9_pointers 74 = .ok (.aload_n 0, 1) := by decide +kernel
theorem dX9_pointers_75 : decode cX9_pointers 75 = .ok (.aload_n 0, 1) := by decide +kernel
theorem dX9_pointers_76 : decode cX9_pointers 76 = .ok (.getfield 7, 3) := by decide +kernel
theorem dX9_pointers_79 : decode cX9_pointers 79 = .ok (.aload_n 0, 1) := by decide +kernel
theorem dX9_pointers_80 : decode cX9_pointers 80 = .ok (.iload_n 2, 1) := by decide +kernel
theorem dX9_pointers_81 : decode cX9_pointers 81 = .ok (.invokevirtual 91, 3) := by decide +kernel
theorem dX9_pointers_84 : decode cX9_pointers 84 = .ok (.iload_n 3, 1) := by decide +kernel
theorem dX9_pointers_85 : decode cX9_pointers 85 = .ok (.iadd, 1) := by decide +kernel
theorem dX9_pointers_86 : decode cX9_pointers 86 = .ok (.iaload, 1) := by decide +kernel
theorem dX9_pointers_87 : decode cX9_pointers 87 = .ok (.invokevirtual 187, 3) := by decide +kernel
theorem dX9_pointers_90 : decode cX9_pointers 90 = .ok (.iconst (-1), 1) := by decide +kernel
theorem dX9_pointers_91 : decode cX9_pointers 91 = .ok (.if_icmp .eq 7, 3) := by decide +kernel
theorem dX9_pointers_94 : decode cX9_pointers 94 = .ok (.iconst 1, 1) := by decide +kernel
theorem dX9_pointers_95 : decode cX9_pointers 95 = .ok (.goto 4, 3) := by decide +kernel
theorem dX9_pointers_98 : decode cX9_pointers 98 = .ok (.iconst 0, 1) := by decide +kernel
theorem dX9_pointers_99 : decode cX9_pointers 99 = .ok (.iadd, 1) := by decide +kernel
theorem dX9_pointers_100 : decode cX9_pointers 100 = .ok (.istore_n 1, 1) := by decide +kernel
theorem dX9_pointers_101 : decode cX9_pointers 101 = .ok (.iinc 3 1, 3) := by decide +kernel
theorem dX9_pointers_104 : decode cX9_pointers 104 = .ok (.goto (-49), 3) := by decide +kernel
theorem dX9_pointers_107 : decode cX9_pointers 107 = .ok (.iinc 2 1, 3) := by decide +kernel
theorem dX9_pointers_110 : decode cX9_pointers 110 = .ok (.goto (-65), 3) := by decide +kernel
theorem dX9_pointers_113 : decode cX9_pointers 113 = .ok (.iload_n 1, 1) := by decide +kernel
theorem dX9_pointers_114 : decode cX9_pointers 114 = .ok (.ireturn, 1) := by decide +kernel
theorem dX9_lives_0 : decode cX9_lives 0 = .ok (.iconst 0, 1) := by decide +kernel
theorem dX9_lives_1 : decode cX9_lives 1 = .ok (.istore_n 2, 1) := by decide +kernel
theorem dX9_lives_2 : decode cX9_lives 2 = .ok (.iconst 0, 1) := by decide +kernel
theorem dX9_lives_3 : decode cX9_lives 3 = .ok (.istore_n 3, 1) := by decide +kernel
theorem dX9_lives_4 : decode cX9_lives 4 = .ok (.iload_n 3, 1) := by decide +kernel
theorem dX9_lives_5 : decode cX9_lives 5 = .ok (.aload_n 0, 1) := by decide +kernel
theorem dX9_lives_6 : decode cX9_lives 6 = .ok (.getfield 88, 3) := by decide +kernel
theorem dX9_lives_9 : decode cX9_lives 9 = .ok (.if_icmp .ge 34, 3) := by decide +kernel
theorem dX9_lives_12 : decode cX9_lives 12 = .ok (.aload_n 0, 1) := by decide +kernel
theorem dX9_lives_13 : decode cX9_lives 13 = .ok (.iload_n 3, 1) := by decide +kernel
theorem dX9_lives_14 : decode cX9_lives 14 = .ok (.invokevirtual 98, 3) := by decide +kernel
theorem dX9_lives_17 : decode cX9_lives 17 = .ok (.ifCond .eq 20, 3) := by decide +kernel
theorem dX9_lives_20 : decode cX9_lives 20 = .ok (.iload_n 2, 1) := by decide +kernel
theorem dX9_lives_21 : decode cX9_lives 21 = .ok (.iload_n 1, 1) := by decide +kernel
theorem dX9_lives_22 : decode cX9_lives 22 = .ok (.ifCond .eq 12, 3) := by decide +kernel
theorem dX9_lives_25 : decode cX9_lives 25 = .ok (.aload_n 0, 1) := by decide +kernel
theorem dX9_lives_26 : decode cX9_lives 26 = .ok (.getfield 26, 3) := by decide +kernel
theorem dX9_lives_29 : decode cX9_lives 29 = .ok (.iload_n 3, 1) := by decide +kernel
theorem dX9_lives_30 : decode cX9_lives 30 = .ok (.iaload, 1) := by decide +kernel
theorem dX9_lives_31 : decode cX9_lives 31 = .ok (.goto 4, 3) := by decide +kernel
theorem dX9_lives_34 : decode cX9_lives 34 = .ok (.iconst 1, 1) := by decide +kernel
theorem dX9_lives_35 : decode cX9_lives 35 = .ok (.iadd, 1) := by decide +kernel
theorem dX9_lives_36 : decode cX9_lives 36 = .ok (.istore_n 2, 1) := by decide +kernel
theorem dX9_lives_37 : decode cX9_lives 37 = .ok (.iinc 3 1, 3) := by decide +kernel
theorem dX9_lives_40 : decode cX9_lives 40 = .ok (.goto (-36), 3) := by decide +kernel
theorem dX9_lives_43 : decode cX9_lives 43 = .ok (.iload_n 2, 1) := by decide +kernel
theorem dX9_lives_44 : decode cX9_lives 44 = .ok (.ireturn, 1) := by decide +kernel
theorem dX9_freeWords_0 : decode cX9_freeWords 0 = .ok (.iconst 0, 1) := by decide +kernel
theorem dX9_freeWords_1 : decode cX9_freeWords 1 = .ok (.istore_n 1, 1) := by decide +kernel
theorem dX9_freeWords_2 : decode cX9_freeWords 2 = .ok (.iconst 0, 1) := by decide +kernel
theorem dX9_freeWords_3 : decode cX9_freeWords 3 = .ok (.istore_n 2, 1) := by decide +kernel
theorem dX9_freeWords_4 : decode cX9_freeWords 4 = .ok (.iload_n 2, 1) := by decide +kernel
theorem dX9_freeWords_5 : decode cX9_freeWords 5 = .ok (.aload_n 0, 1) := by decide +kernel
theorem dX9_freeWords_6 : decode cX9_freeWords 6 = .ok (.getfield 105, 3) := by decide +kernel
theorem dX9_freeWords_9 : decode cX9_freeWords 9 = .ok (.if_icmp .ge 18, 3) := by decide +kernel
theorem dX9_freeWords_12 : decode cX9_freeWords 12 = .ok (.iload_n 1, 1) := by decide +kernel
theorem dX9_freeWords_13 : decode cX9_freeWords 13 = .ok (.aload_n 0, 1) := by decide +kernel
theorem dX9_freeWords_14 : decode cX9_freeWords 14 = .ok (.getfield 38, 3) := by decide +kernel
theorem dX9_freeWords_17 : decode cX9_freeWords 17 = .ok (.iload_n 2, 1) := by decide +kernel
theorem dX9_freeWords_18 : decode cX9_freeWords 18 = .ok (.iaload, 1) := by decide +kernel
theorem dX9_freeWords_19 : decode cX9_freeWords 19 = .ok (.iadd, 1) := by decide +kernel
theorem dX9_freeWords_20 : decode cX9_freeWords 20 = .ok (.istore_n 1, 1) := by decide +kernel
theorem dX9_freeWords_21 : decode cX9_freeWords 21 = .ok (.iinc 2 1, 3) := by decide +kernel
theorem dX9_freeWords_24 : decode cX9_freeWords 24 = .ok (.goto (-20), 3) := by decide +kernel
theorem dX9_freeWords_27 : decode cX9_freeWords 27 = .ok (.iload_n 1, 1) := by decide +kernel
theorem dX9_freeWords_28 : decode cX9_freeWords 28 = .ok (.ireturn, 1) := by decide +kernel
theorem dX9_count_0 : decode cX9_count 0 = .ok (.aload_n 0, 1) := by decide +kernel
theorem dX9_count_1 : decode cX9_count 1 = .ok (.iconst 0, 1) := by decide +kernel
theorem dX9_count_2 : decode cX9_count 2 = .ok (.putfield 85, 3) := by decide +kernel
theorem dX9_count_5 : decode cX9_count 5 = .ok (.iload_n 1, 1) := by decide +kernel
theorem dX9_count_6 : decode cX9_count 6 = .ok (.tableswitch 175 0 16 #[82, 87, 93, 99, 110, 115, 120, 125, 130, 135, 140, 145, 150, 155, 160, 165, 170], 82) := by decide +kernel
theorem dX9_count_88 : decode cX9_count 88 = .ok (.aload_n 0, 1) := by decide +kernel
theorem dX9_count_89 : decode cX9_count 89 = .ok (.getfield 13, 3) := by decide +kernel
theorem dX9_count_92 : decode cX9_count 92 = .ok (.ireturn, 1) := by decide +kernel
theorem dX9_count_93 : decode cX9_count 93 = .ok (.aload_n 0, 1) := by decide +kernel
theorem dX9_count_94 : decode cX9_count 94 = .ok (.iconst 0, 1) := by decide +kernel
theorem dX9_count_95 : decode cX9_count 95 = .ok (.invokevirtual 199, 3) := by decide +kernel
theorem dX9_count_98 : decode cX9_count 98 = .ok (.ireturn, 1) := by decide +kernel
theorem dX9_count_99 : decode cX9_count 99 = .ok (.aload_n 0, 1) := by decide +kernel
theorem dX9_count_100 : decode cX9_count 100 = .ok (.iconst 1, 1) := by decide +kernel
theorem dX9_count_101 : decode cX9_count 101 = .ok (.invokevirtual 199, 3) := by decide +kernel
theorem dX9_count_104 : decode cX9_count 104 = .ok (.ireturn, 1) := by decide +kernel
theorem dX9_count_105 : decode cX9_count 105 = .ok (.aload_n 0, 1) := by decide +kernel
theorem dX9_count_106 : decode cX9_count 106 = .ok (.getfield 88, 3) := by decide +kernel
theorem dX9_count_109 : decode cX9_count 109 = .ok (.aload_n 0, 1) := by decide +kernel
theorem dX9_count_110 : decode cX9_count 110 = .ok (.iconst 0, 1) := by decide +kernel
theorem dX9_count_111 : decode cX9_count 111 = .ok (.invokevirtual 199, 3) := by decide +kernel
theorem dX9_count_114 : decode cX9_count 114 = .ok (.isub, 1) := by decide +kernel
theorem dX9_count_115 : decode cX9_count 115 = .ok (.ireturn, 1) := by decide +kernel
theorem dX9_count_116 : decode cX9_count 116 = .ok (.aload_n 0, 1) := by decide +kernel
theorem dX9_count_117 : decode cX9_count 117 = .ok (.invokevirtual 163, 3) := by decide +kernel
theorem dX9_count_120 : decode cX9_count 120 = .ok (.ireturn, 1) := by decide +kernel
theorem dX9_count_121 : decode cX9_count 121 = .ok (.aload_n 0, 1) := by decide +kernel
theorem dX9_count_122 : decode cX9_count 122 = .ok (.getfield 105, 3) := by decide +kernel
theorem dX9_count_125 : decode cX9_count 125 = .ok (.ireturn, 1) := by decide +kernel
theorem dX9_count_126 : decode cX9_count 126 = .ok (.aload_n 0, 1) := by decide +kernel
theorem dX9_count_127 : decode cX9_count 127 = .ok (.invokevirtual 203, 3) := by decide +kernel
theorem dX9_count_130 : decode cX9_count 130 = .ok (.ireturn, 1) := by decide +kernel
theorem dX9_count_131 : decode cX9_count 131 = .ok (.aload_n 0, 1) := by decide +kernel
theorem dX9_count_132 : decode cX9_count 132 = .ok (.getfield 157, 3) := by decide +kernel
theorem dX9_count_135 : decode cX9_count 135 = .ok (.ireturn, 1) := by decide +kernel
theorem dX9_count_136 : decode cX9_count 136 = .ok (.aload_n 0, 1) := by decide +kernel
theorem dX9_count_137 : decode cX9_count 137 = .ok (.getfield 160, 3) := by decide +kernel
theorem dX9_count_140 : decode cX9_count 140 = .ok (.ireturn, 1) := by decide +kernel
theorem dX9_count_141 : decode cX9_count 141 = .ok (.aload_n 0, 1) := by decide +kernel
theorem dX9_count_142 : decode cX9_count 142 = .ok (.getfield 139, 3) := by decide +kernel
theorem dX9_count_145 : decode cX9_count 145 = .ok (.ireturn, 1) := by decide +kernel
theorem dX9_count_146 : decode cX9_count 146 = .ok (.aload_n 0, 1) := by decide +kernel
theorem dX9_count_147 : decode cX9_count 147 = .ok (.getfield 126, 3) := by decide +kernel
theorem dX9_count_150 : decode cX9_count 150 = .ok (.ireturn, 1) := by decide +kernel
theorem dX9_count_151 : decode cX9_count 151 = .ok (.aload_n 0, 1) := by decide +kernel
theorem dX9_count_152 : decode cX9_count 152 = .ok (.getfield 120, 3) := by decide +kernel
theorem dX9_count_155 : decode cX9_count 155 = .ok (.ireturn, 1) := by decide +kernel
theorem dX9_count_156 : decode cX9_count 156 = .ok (.aload_n 0, 1) := by decide +kernel
theorem dX9_count_157 : decode cX9_count 157 = .ok (.getfield 17, 3) := by decide +kernel
theorem dX9_count_160 : decode cX9_count 160 = .ok (.ireturn, 1) := by decide +kernel
theorem dX9_count_161 : decode cX9_count 161 = .ok (.aload_n 0, 1) := by decide +kernel
theorem dX9_count_162 : decode cX9_count 162 = .ok (.getfield 102, 3) := by decide +kernel
theorem dX9_count_165 : decode cX9_count 165 = .ok (.ireturn, 1) := by decide +kernel
theorem dX9_count_166 : decode cX9_count 166 = .ok (.aload_n 0, 1) := by decide +kernel
theorem dX9_count_167 : decode cX9_count 167 = .ok (.getfield 76, 3) := by decide +kernel
theorem dX9_count_170 : decode cX9_count 170 = .ok (.ireturn, 1) := by decide +kernel
theorem dX9_count_171 : decode cX9_count 171 = .ok (.aload_n 0, 1) := by decide +kernel
theorem dX9_count_172 : decode cX9_count 172 = .ok (.getfield 79, 3) := by decide +kernel
theorem dX9_count_175 : decode cX9_count 175 = .ok (.ireturn, 1) := by decide +kernel
theorem dX9_count_176 : decode cX9_count 176 = .ok (.aload_n 0, 1) := by decide +kernel
theorem dX9_count_177 : decode cX9_count 177 = .ok (.getfield 82, 3) := by decide +kernel
theorem dX9_count_180 : decode cX9_count 180 = .ok (.ireturn, 1) := by decide +kernel
theorem dX9_count_181 : decode cX9_count 181 = .ok (.iconst (-1), 1) := by decide +kernel
theorem dX9_count_182 : decode cX9_count 182 = .ok (.ireturn, 1) := by decide +kernel
theorem dX9_freeMany_0 : decode cX9_freeMany 0 = .ok (.aload_n 0, 1) := by decide +kernel
theorem dX9_freeMany_1 : decode cX9_freeMany 1 = .ok (.iconst 0, 1) := by decide +kernel
theorem dX9_freeMany_2 : decode cX9_freeMany 2 = .ok (.putfield 85, 3) := by decide +kernel
theorem dX9_freeMany_5 : decode cX9_freeMany 5 = .ok (.iconst 0, 1) := by decide +kernel
theorem dX9_freeMany_6 : decode cX9_freeMany 6 = .ok (.istore_n 2, 1) := by decide +kernel
theorem dX9_freeMany_7 : decode cX9_freeMany 7 = .ok (.iconst 0, 1) := by decide +kernel
theorem dX9_freeMany_8 : decode cX9_freeMany 8 = .ok (.istore_n 3, 1) := by decide +kernel
theorem dX9_freeMany_9 : decode cX9_freeMany 9 = .ok (.iload_n 3, 1) := by decide +kernel
theorem dX9_freeMany_10 : decode cX9_freeMany 10 = .ok (.aload_n 0, 1) := by decide +kernel
theorem dX9_freeMany_11 : decode cX9_freeMany 11 = .ok (.getfield 105, 3) := by decide +kernel
theorem dX9_freeMany_14 : decode cX9_freeMany 14 = .ok (.if_icmp .ge 27, 3) := by decide +kernel
theorem dX9_freeMany_17 : decode cX9_freeMany 17 = .ok (.iload_n 2, 1) := by decide +kernel
theorem dX9_freeMany_18 : decode cX9_freeMany 18 = .ok (.aload_n 0, 1) := by decide +kernel
theorem dX9_freeMany_19 : decode cX9_freeMany 19 = .ok (.getfield 38, 3) := by decide +kernel
theorem dX9_freeMany_22 : decode cX9_freeMany 22 = .ok (.iload_n 3, 1) := by decide +kernel
theorem dX9_freeMany_23 : decode cX9_freeMany 23 = .ok (.iaload, 1) := by decide +kernel
theorem dX9_freeMany_24 : decode cX9_freeMany 24 = .ok (.iload_n 1, 1) := by decide +kernel
theorem dX9_freeMany_25 : decode cX9_freeMany 25 = .ok (.if_icmp .ne 7, 3) := by decide +kernel
theorem dX9_freeMany_28 : decode cX9_freeMany 28 = .ok (.iconst 1, 1) := by decide +kernel
theorem dX9_freeMany_29 : decode cX9_freeMany 29 = .ok (.goto 4, 3) := by decide +kernel
theorem dX9_freeMany_32 : decode cX9_freeMany 32 = .ok (.iconst 0, 1) := by decide +kernel
theorem dX9_freeMany_33 : decode cX9_freeMany 33 = .ok (.iadd, 1) := by decide +kernel
theorem dX9_freeMany_34 : decode cX9_freeMany 34 = .ok (.istore_n 2, 1) := by decide +kernel
theorem dX9_freeMany_35 : decode cX9_freeMany 35 = .ok (.iinc 3 1, 3) := by decide +kernel
theorem dX9_freeMany_38 : decode cX9_freeMany 38 = .ok (.goto (-29), 3) := by decide +kernel
theorem dX9_freeMany_41 : decode cX9_freeMany 41 = .ok (.iload_n 2, 1) := by decide +kernel
theorem dX9_freeMany_42 : decode cX9_freeMany 42 = .ok (.ireturn, 1) := by decide +kernel
theorem dX9_freeAt_0 : decode cX9_freeAt 0 = .ok (.aload_n 0, 1) := by decide +kernel
theorem dX9_freeAt_1 : decode cX9_freeAt 1 = .ok (.iconst 0, 1) := by decide +kernel
theorem dX9_freeAt_2 : decode cX9_freeAt 2 = .ok (.putfield 85, 3) := by decide +kernel
theorem dX9_freeAt_5 : decode cX9_freeAt 5 = .ok (.iload_n 2, 1) := by decide +kernel
theorem dX9_freeAt_6 : decode cX9_freeAt 6 = .ok (.ifCond .ge 5, 3) := by decide +kernel
theorem dX9_freeAt_9 : decode cX9_freeAt 9 = .ok (.iconst (-1), 1) := by decide +kernel
theorem dX9_freeAt_10 : decode cX9_freeAt 10 = .ok (.ireturn, 1) := by decide +kernel
theorem dX9_freeAt_11 : decode cX9_freeAt 11 = .ok (.iload_n 1, 1) := by decide +kernel
theorem dX9_freeAt_12 : decode cX9_freeAt 12 = .ok (.bipush 64, 2) := by decide +kernel
theorem dX9_freeAt_14 : decode cX9_freeAt 14 = .ok (.if_icmp .gt 55, 3) := by decide +kernel
theorem dX9_freeAt_17 : decode cX9_freeAt 17 = .ok (.iload_n 2, 1) := by decide +kernel
theorem dX9_freeAt_18 : decode cX9_freeAt 18 = .ok (.istore_n 3, 1) := by decide +kernel
theorem dX9_freeAt_19 : decode cX9_freeAt 19 = .ok (.aload_n 0, 1) := by decide +kernel
theorem dX9_freeAt_20 : decode cX9_freeAt 20 = .ok (.getfield 105, 3) := by decide +kernel
theorem dX9_freeAt_23 : decode cX9_freeAt 23 = .ok (.iconst 1, 1) := by decide +kernel
theorem dX9_freeAt_24 : decode cX9_freeAt 24 = .ok (.isub, 1) := by decide +kernel
theorem dX9_freeAt_25 : decode cX9_freeAt 25 = .ok (.istore 4, 2) := by decide +kernel
theorem dX9_freeAt_27 : decode cX9_freeAt 27 = .ok (.iload 4, 2) := by decide +kernel
theorem dX9_freeAt_29 : decode cX9_freeAt 29 = .ok (.ifCond .lt 38, 3) := by decide +kernel
theorem dX9_freeAt_32 : decode cX9_freeAt 32 = .ok (.aload_n 0, 1) := by decide +kernel
theorem dX9_freeAt_33 : decode cX9_freeAt 33 = .ok (.getfield 38, 3) := by decide +kernel
theorem dX9_freeAt_36 : decode cX9_freeAt 36 = .ok (.iload 4, 2) := by decide +kernel
theorem dX9_freeAt_38 : decode cX9_freeAt 38 = .ok (.iaload, 1) := by decide +kernel
theorem dX9_freeAt_39 : decode cX9_freeAt 39 = .ok (.iload_n 1, 1) := by decide +kernel
theorem dX9_freeAt_40 : decode cX9_freeAt 40 = .ok (.if_icmp .eq 6, 3) := by decide +kernel
theorem dX9_freeAt_43 : decode cX9_freeAt 43 = .ok (.goto 18, 3) := by decide +kernel
theorem dX9_freeAt_46 : decode cX9_freeAt 46 = .ok (.iload_n 3, 1) := by decide +kernel
theorem dX9_freeAt_47 : decode cX9_freeAt 47 = .ok (.ifCond .ne 11, 3) := by decide +kernel
theorem dX9_freeAt_50 : decode cX9_freeAt 50 = .ok (.aload_n 0, 1) := by decide +kernel
theorem dX9_freeAt_51 : decode cX9_freeAt 51 = .ok (.getfield 35, 3) := by decide +kernel
theorem dX9_freeAt_54 : decode cX9_freeAt 54 = .ok (.iload 4, 2) := by decide +kernel
theorem dX9_freeAt_56 : decode cX9_freeAt 56 = .ok (.iaload, 1) := by decide +kernel
theorem dX9_freeAt_57 : decode cX9_freeAt 57 = .ok (.ireturn, 1) := by decide +kernel
theorem dX9_freeAt_58 : decode cX9_freeAt 58 = .ok (.iinc 3 (-1), 3) := by decide +kernel
theorem dX9_freeAt_61 : decode cX9_freeAt 61 = .ok (.iinc 4 (-1), 3) := by decide +kernel
theorem dX9_freeAt_64 : decode cX9_freeAt 64 = .ok (.goto (-37), 3) := by decide +kernel
theorem dX9_freeAt_67 : decode cX9_freeAt 67 = .ok (.iconst (-1), 1) := by decide +kernel
theorem dX9_freeAt_68 : decode cX9_freeAt 68 = .ok (.ireturn, 1) := by decide +kernel
theorem dX9_freeAt_69 : decode cX9_freeAt 69 = .ok (.iconst 0, 1) := by decide +kernel
theorem dX9_freeAt_70 : decode cX9_freeAt 70 = .ok (.istore_n 3, 1) := by decide +kernel
theorem dX9_freeAt_71 : decode cX9_freeAt 71 = .ok (.iload_n 3, 1) := by decide +kernel
theorem dX9_freeAt_72 : decode cX9_freeAt 72 = .ok (.aload_n 0, 1) := by decide +kernel
theorem dX9_freeAt_73 : decode cX9_freeAt 73 = .ok (.getfield 105, 3) := by decide +kernel
theorem dX9_freeAt_76 : decode cX9_freeAt 76 = .ok (.if_icmp .ge 90, 3) := by decide +kernel
theorem dX9_freeAt_79 : decode cX9_freeAt 79 = .ok (.iconst 0, 1) := by decide +kernel
theorem dX9_freeAt_80 : decode cX9_freeAt 80 = .ok (.istore 4, 2) := by decide +kernel
theorem dX9_freeAt_82 : decode cX9_freeAt 82 = .ok (.iconst 0, 1) := by decide +kernel
theorem dX9_freeAt_83 : decode cX9_freeAt 83 = .ok (.istore 5, 2) := by decide +kernel
theorem dX9_freeAt_85 : decode cX9_freeAt 85 = .ok (.iload 5, 2) := by decide +kernel
theorem dX9_freeAt_87 : decode cX9_freeAt 87 = .ok (.aload_n 0, 1) := by decide +kernel
theorem dX9_freeAt_88 : decode cX9_freeAt 88 = .ok (.getfield 105, 3) := by decide +kernel
theorem dX9_freeAt_91 : decode cX9_freeAt 91 = .ok (.if_icmp .ge 46, 3) := by decide +kernel
theorem dX9_freeAt_94 : decode cX9_freeAt 94 = .ok (.iload 4, 2) := by decide +kernel
theorem dX9_freeAt_96 : decode cX9_freeAt 96 = .ok (.aload_n 0, 1) := by decide +kernel
theorem dX9_freeAt_97 : decode cX9_freeAt 97 = .ok (.getfield 38, 3) := by decide +kernel
theorem dX9_freeAt_100 : decode cX9_freeAt 100 = .ok (.iload 5, 2) := by decide +kernel
theorem dX9_freeAt_102 : decode cX9_freeAt 102 = .ok (.iaload, 1) := by decide +kernel
theorem dX9_freeAt_103 : decode cX9_freeAt 103 = .ok (.iload_n 1, 1) := by decide +kernel
theorem dX9_freeAt_104 : decode cX9_freeAt 104 = .ok (.if_icmp .ne 23, 3) := by decide +kernel
theorem dX9_freeAt_107 : decode cX9_freeAt 107 = .ok (.aload_n 0, 1) := by decide +kernel
theorem dX9_freeAt_108 : decode cX9_freeAt 108 = .ok (.getfield 35, 3) := by decide +kernel
theorem dX9_freeAt_111 : decode cX9_freeAt 111 = .ok (.iload 5, 2) := by decide +kernel
theorem dX9_freeAt_113 : decode cX9_freeAt 113 = .ok (.iaload, 1) := by decide +kernel
theorem dX9_freeAt_114 : decode cX9_freeAt 114 = .ok (.aload_n 0, 1) := by decide +kernel
theorem dX9_freeAt_115 : decode cX9_freeAt 115 = .ok (.getfield 35, 3) := by decide +kernel
theorem dX9_freeAt_118 : decode cX9_freeAt 118 = .ok (.iload_n 3, 1) := by decide +kernel
theorem dX9_freeAt_119 : decode cX9_freeAt 119 = .ok (.iaload, 1) := by decide +kernel
theorem dX9_freeAt_120 : decode cX9_freeAt 120 = .ok (.if_icmp .ge 7, 3) := by decide +kernel
theorem dX9_freeAt_123 : decode cX9_freeAt 123 = .ok (.iconst 1, 1) := by decide +kernel
theorem dX9_freeAt_124 : decode cX9_freeAt 124 = .ok (.goto 4, 3) := by decide +kernel
theorem dX9_freeAt_127 : decode cX9_freeAt 127 = .ok (.iconst 0, 1) := by decide +kernel
theorem dX9_freeAt_128 : decode cX9_freeAt 128 = .ok (.iadd, 1) := by decide +kernel
theorem dX9_freeAt_129 : decode cX9_freeAt 129 = .ok (.istore 4, 2) := by decide +kernel
theorem dX9_freeAt_131 : decode cX9_freeAt 131 = .ok (.iinc 5 1, 3) := by decide +kernel
theorem dX9_freeAt_134 : decode cX9_freeAt 134 = .ok (.goto (-49), 3) := by decide +kernel
theorem dX9_freeAt_137 : decode cX9_freeAt 137 = .ok (.aload_n 0, 1) := by decide +kernel
theorem dX9_freeAt_138 : decode cX9_freeAt 138 = .ok (.getfield 38, 3) := by decide +kernel
theorem dX9_freeAt_141 : decode cX9_freeAt 141 = .ok (.iload_n 3, 1) := by decide +kernel
theorem dX9_freeAt_142 : decode cX9_freeAt 142 = .ok (.iaload, 1) := by decide +kernel
theorem dX9_freeAt_143 : decode cX9_freeAt 143 = .ok (.iload_n 1, 1) := by decide +kernel
theorem dX9_freeAt_144 : decode cX9_freeAt 144 = .ok (.if_icmp .ne 16, 3) := by decide +kernel
theorem dX9_freeAt_147 : decode cX9_freeAt 147 = .ok (.iload 4, 2) := by decide +kernel
theorem dX9_freeAt_149 : decode cX9_freeAt 149 = .ok (.iload_n 2, 1) := by decide +kernel
theorem dX9_freeAt_150 : decode cX9_freeAt 150 = .ok (.if_icmp .ne 10, 3) := by decide +kernel
theorem dX9_freeAt_153 : decode cX9_freeAt 153 = .ok (.aload_n 0, 1) := by decide +kernel
theorem dX9_freeAt_154 : decode cX9_freeAt 154 = .ok (.getfield 35, 3) := by decide +kernel
theorem dX9_freeAt_157 : decode cX9_freeAt 157 = .ok (.iload_n 3, 1) := by decide +kernel
theorem dX9_freeAt_158 : decode cX9_freeAt 158 = .ok (.iaload, 1) := by decide +kernel
theorem dX9_freeAt_159 : decode cX9_freeAt 159 = .ok (.ireturn, 1) := by decide +kernel
theorem dX9_freeAt_160 : decode cX9_freeAt 160 = .ok (.iinc 3 1, 3) := by decide +kernel
theorem dX9_freeAt_163 : decode cX9_freeAt 163 = .ok (.goto (-92), 3) := by decide +kernel
theorem dX9_freeAt_166 : decode cX9_freeAt 166 = .ok (.iconst (-1), 1) := by decide +kernel
theorem dX9_freeAt_167 : decode cX9_freeAt 167 = .ok (.ireturn, 1) := by decide +kernel
theorem dX9_waiting_0 : decode cX9_waiting 0 = .ok (.aload_n 0, 1) := by decide +kernel
theorem dX9_waiting_1 : decode cX9_waiting 1 = .ok (.iconst 0, 1) := by decide +kernel
theorem dX9_waiting_2 : decode cX9_waiting 2 = .ok (.putfield 85, 3) := by decide +kernel
theorem dX9_waiting_5 : decode cX9_waiting 5 = .ok (.iconst 0, 1) := by decide +kernel
theorem dX9_waiting_6 : decode cX9_waiting 6 = .ok (.istore_n 2, 1) := by decide +kernel
theorem dX9_waiting_7 : decode cX9_waiting 7 = .ok (.iload_n 2, 1) := by decide +kernel
theorem dX9_waiting_8 : decode cX9_waiting 8 = .ok (.aload_n 0, 1) := by decide +kernel
theorem dX9_waiting_9 : decode cX9_waiting 9 = .ok (.getfield 88, 3) := by decide +kernel
theorem dX9_waiting_12 : decode cX9_waiting 12 = .ok (.if_icmp .ge 84, 3) := by decide +kernel
theorem dX9_waiting_15 : decode cX9_waiting 15 = .ok (.aload_n 0, 1) := by decide +kernel
theorem dX9_waiting_16 : decode cX9_waiting 16 = .ok (.iload_n 2, 1) := by decide +kernel
theorem dX9_waiting_17 : decode cX9_waiting 17 = .ok (.invokevirtual 98, 3) := by decide +kernel
theorem dX9_waiting_20 : decode cX9_waiting 20 = .ok (.ifCond .eq 6, 3) := by decide +kernel
theorem dX9_waiting_23 : decode cX9_waiting 23 = .ok (.goto 67, 3) := by decide +kernel
theorem dX9_waiting_26 : decode cX9_waiting 26 = .ok (.iconst 0, 1) := by decide +kernel
theorem dX9_waiting_27 : decode cX9_waiting 27 = .ok (.istore_n 3, 1) := by decide +kernel
theorem dX9_waiting_28 : decode cX9_waiting 28 = .ok (.iconst 0, 1) := by decide +kernel
theorem dX9_waiting_29 : decode cX9_waiting 29 = .ok (.istore 4, 2) := by decide +kernel
theorem dX9_waiting_31 : decode cX9_waiting 31 = .ok (.iload 4, 2) := by decide +kernel
theorem dX9_waiting_33 : decode cX9_waiting 33 = .ok (.aload_n 0, 1) := by decide +kernel
theorem dX9_waiting_34 : decode cX9_waiting 34 = .ok (.getfield 88, 3) := by decide +kernel
theorem dX9_waiting_37 : decode cX9_waiting 37 = .ok (.if_icmp .ge 42, 3) := by decide +kernel
theorem dX9_waiting_40 : decode cX9_waiting 40 = .ok (.iload_n 3, 1) := by decide +kernel
theorem dX9_waiting_41 : decode cX9_waiting 41 = .ok (.aload_n 0, 1) := by decide +kernel
theorem dX9_waiting_42 : decode cX9_waiting 42 = .ok (.iload 4, 2) := by decide +kernel
theorem dX9_waiting_44 : decode cX9_waiting 44 = .ok (.invokevirtual 98, 3) := by decide +kernel
theorem dX9_waiting_47 : decode cX9_waiting 47 = .ok (.ifCond .ne 23, 3) := by decide +kernel
theorem dX9_waiting_50 : decode cX9_waiting 50 = .ok (.aload_n 0, 1) := by decide +kernel
theorem dX9_waiting_51 : decode cX9_waiting 51 = .ok (.getfield 32, 3) := by decide +kernel
theorem dX9_waiting_54 : decode cX9_waiting 54 = .ok (.iload 4, 2) := by decide +kernel
theorem dX9_waiting_56 : decode cX9_waiting 56 = .ok (.iaload, 1) := by decide +kernel
theorem dX9_waiting_57 : decode cX9_waiting 57 = .ok (.aload_n 0, 1) := by decide +kernel
theorem dX9_waiting_58 : decode cX9_waiting 58 = .ok (.getfield 32, 3) := by decide +kernel
theorem dX9_waiting_61 : decode cX9_waiting 61 = .ok (.iload_n 2, 1) := by decide +kernel
theorem dX9_waiting_62 : decode cX9_waiting 62 = .ok (.iaload, 1) := by decide +kernel
theorem dX9_waiting_63 : decode cX9_waiting 63 = .ok (.if_icmp .ge 7, 3) := by decide +kernel
theorem dX9_waiting_66 : decode cX9_waiting 66 = .ok (.iconst 1, 1) := by decide +kernel
theorem dX9_waiting_67 : decode cX9_waiting 67 = .ok (.goto 4, 3) := by decide +kernel
theorem dX9_waiting_70 : decode cX9_waiting 70 = .ok (.iconst 0, 1) := by decide +kernel
theorem dX9_waiting_71 : decode cX9_waiting 71 = .ok (.iadd, 1) := by decide +kernel
theorem dX9_waiting_72 : decode cX9_waiting 72 = .ok (.istore_n 3, 1) := by decide +kernel
theorem dX9_waiting_73 : decode cX9_waiting 73 = .ok (.iinc 4 1, 3) := by decide +kernel
theorem dX9_waiting_76 : decode cX9_waiting 76 = .ok (.goto (-45), 3) := by decide +kernel
theorem dX9_waiting_79 : decode cX9_waiting 79 = .ok (.iload_n 3, 1) := by decide +kernel
theorem dX9_waiting_80 : decode cX9_waiting 80 = .ok (.iload_n 1, 1) := by decide +kernel
theorem dX9_waiting_81 : decode cX9_waiting 81 = .ok (.if_icmp .ne 9, 3) := by decide +kernel
theorem dX9_waiting_84 : decode cX9_waiting 84 = .ok (.aload_n 0, 1) := by decide +kernel
theorem dX9_waiting_85 : decode cX9_waiting 85 = .ok (.iload_n 2, 1) := by decide +kernel
theorem dX9_waiting_86 : decode cX9_waiting 86 = .ok (.invokevirtual 91, 3) := by decide +kernel
theorem dX9_waiting_89 : decode cX9_waiting 89 = .ok (.ireturn, 1) := by decide +kernel
theorem dX9_waiting_90 : decode cX9_waiting 90 = .ok (.iinc 2 1, 3) := by decide +kernel
theorem dX9_waiting_93 : decode cX9_waiting 93 = .ok (.goto (-86), 3) := by decide +kernel
theorem dX9_waiting_96 : decode cX9_waiting 96 = .ok (.iconst (-1), 1) := by decide +kernel
theorem dX9_waiting_97 : decode cX9_waiting 97 = .ok (.ireturn, 1) := by decide +kernel
theorem dX9_fault_0 : decode cX9_fault 0 = .ok (.iload_n 1, 1) := by decide +kernel
theorem dX9_fault_1 : decode cX9_fault 1 = .ok (.ifCond .lt 30, 3) := by decide +kernel
theorem dX9_fault_4 : decode cX9_fault 4 = .ok (.iload_n 1, 1) := by decide +kernel
theorem dX9_fault_5 : decode cX9_fault 5 = .ok (.aload_n 0, 1) := by decide +kernel
theorem dX9_fault_6 : decode cX9_fault 6 = .ok (.getfield 102, 3) := by decide +kernel
theorem dX9_fault_9 : decode cX9_fault 9 = .ok (.if_icmp .ge 22, 3) := by decide +kernel
theorem dX9_fault_12 : decode cX9_fault 12 = .ok (.iload_n 1, 1) := by decide +kernel
theorem dX9_fault_13 : decode cX9_fault 13 = .ok (.bipush 32, 2) := by decide +kernel
theorem dX9_fault_15 : decode cX9_fault 15 = .ok (.if_icmp .ge 16, 3) := by decide +kernel
theorem dX9_fault_18 : decode cX9_fault 18 = .ok (.iload_n 2, 1) := by decide +kernel
theorem dX9_fault_19 : decode cX9_fault 19 = .ok (.ifCond .eq 8, 3) := by decide +kernel
theorem dX9_fault_22 : decode cX9_fault 22 = .ok (.iload_n 2, 1) := by decide +kernel
theorem dX9_fault_23 : decode cX9_fault 23 = .ok (.iconst 1, 1) := by decide +kernel
theorem dX9_fault_24 : decode cX9_fault 24 = .ok (.if_icmp .ne 7, 3) := by decide +kernel
theorem dX9_fault_27 : decode cX9_fault 27 = .ok (.iconst 1, 1) := by decide +kernel
theorem dX9_fault_28 : decode cX9_fault 28 = .ok (.goto 4, 3) := by decide +kernel
theorem dX9_fault_31 : decode cX9_fault 31 = .ok (.iconst 0, 1) := by decide +kernel
theorem dX9_fault_32 : decode cX9_fault 32 = .ok (.istore_n 3, 1) := by decide +kernel
theorem dX9_fault_33 : decode cX9_fault 33 = .ok (.aload_n 0, 1) := by decide +kernel
theorem dX9_fault_34 : decode cX9_fault 34 = .ok (.iload_n 3, 1) := by decide +kernel
theorem dX9_fault_35 : decode cX9_fault 35 = .ok (.ifCond .eq 7, 3) := by decide +kernel
theorem dX9_fault_38 : decode cX9_fault 38 = .ok (.iconst 0, 1) := by decide +kernel
theorem dX9_fault_39 : decode cX9_fault 39 = .ok (.goto 4, 3) := by decide +kernel
theorem dX9_fault_42 : decode cX9_fault 42 = .ok (.iconst 1, 1) := by decide +kernel
theorem dX9_fault_43 : decode cX9_fault 43 = .ok (.putfield 85, 3) := by decide +kernel
theorem dX9_fault_46 : decode cX9_fault 46 = .ok (.iload_n 3, 1) := by decide +kernel
theorem dX9_fault_47 : decode cX9_fault 47 = .ok (.ifCond .ne 5, 3) := by decide +kernel
theorem dX9_fault_50 : decode cX9_fault 50 = .ok (.iconst 0, 1) := by decide +kernel
theorem dX9_fault_51 : decode cX9_fault 51 = .ok (.ireturn, 1) := by decide +kernel
theorem dX9_fault_52 : decode cX9_fault 52 = .ok (.aload_n 0, 1) := by decide +kernel
theorem dX9_fault_53 : decode cX9_fault 53 = .ok (.getfield 102, 3) := by decide +kernel
theorem dX9_fault_56 : decode cX9_fault 56 = .ok (.iconst 1, 1) := by decide +kernel
theorem dX9_fault_57 : decode cX9_fault 57 = .ok (.isub, 1) := by decide +kernel
theorem dX9_fault_58 : decode cX9_fault 58 = .ok (.iload_n 1, 1) := by decide +kernel
theorem dX9_fault_59 : decode cX9_fault 59 = .ok (.isub, 1) := by decide +kernel
theorem dX9_fault_60 : decode cX9_fault 60 = .ok (.bipush 32, 2) := by decide +kernel
theorem dX9_fault_62 : decode cX9_fault 62 = .ok (.irem, 1) := by decide +kernel
theorem dX9_fault_63 : decode cX9_fault 63 = .ok (.istore 4, 2) := by decide +kernel
theorem dX9_fault_65 : decode cX9_fault 65 = .ok (.iload_n 2, 1) := by decide +kernel
theorem dX9_fault_66 : decode cX9_fault 66 = .ok (.ifCond .ne 13, 3) := by decide +kernel
theorem dX9_fault_69 : decode cX9_fault 69 = .ok (.aload_n 0, 1) := by decide +kernel
theorem dX9_fault_70 : decode cX9_fault 70 = .ok (.getfield 44, 3) := by decide +kernel
theorem dX9_fault_73 : decode cX9_fault 73 = .ok (.iload 4, 2) := by decide +kernel
theorem dX9_fault_75 : decode cX9_fault 75 = .ok (.iaload, 1) := by decide +kernel
theorem dX9_fault_76 : decode cX9_fault 76 = .ok (.goto 10, 3) := by decide +kernel
theorem dX9_fault_79 : decode cX9_fault 79 = .ok (.aload_n 0, 1) := by decide +kernel
theorem dX9_fault_80 : decode cX9_fault 80 = .ok (.getfield 47, 3) := by decide +kernel
theorem dX9_fault_83 : decode cX9_fault 83 = .ok (.iload 4, 2) := by decide +kernel
theorem dX9_fault_85 : decode cX9_fault 85 = .ok (.iaload, 1) := by decide +kernel
theorem dX9_fault_86 : decode cX9_fault 86 = .ok (.ireturn, 1) := by decide +kernel
theorem sgX9_near_0 {X : CX} {d mc ms cells slots : Nat} {pp : Int32 → Hp → Prop} {h : Hp} {x0 : Int32} {x1 : Int32} {x2 : Int32}  (C : CmI X mX9_near d mc ms pp) (hc : cells ≤ mc) (hs : slots ≤ ms)  (k0 : x1 ≤ x0 → x0 ≤ x2 → pp x0 h) (k1 : x1 ≤ x0 → ¬ x0 ≤ x2 → pp x2 h) (k2 : ¬ x1 ≤ x0 → pp x1 h) : At X cells slots 0 [some (.int x0), some (.int x1), some (.int x2)] [] h := by
  refine st_iload_n (pc := 0) C.1 dX9_near_0 rfl rfl ?_
  refine st_iload_n (pc := 1) C.1 dX9_near_1 rfl rfl ?_
  refine st_icmp_ge (pc := 2) (tgt := 9) C.1 dX9_near_2 (by decide) (fun c0 => ?_) (fun c0 => ?_)
  · refine st_iload_n (pc := 9) C.1 dX9_near_9 rfl rfl ?_
    refine st_iload_n (pc := 10) C.1 dX9_near_10 rfl rfl ?_
    refine st_icmp_le (pc := 11) (tgt := 18) C.1 dX9_near_11 (by decide) (fun c1 => ?_) (fun c1 => ?_)
    · refine st_iload_n (pc := 18) C.1 dX9_near_18 rfl rfl ?_
      exact rt_i C (Or.inl rfl) dX9_near_19 hc hs ⟨_, rfl, (k0 c0 c1)⟩
    · refine st_iload_n (pc := 14) C.1 dX9_near_14 rfl rfl ?_
      refine st_goto (pc := 15) (tgt := 19) C.1 dX9_near_15 (by decide) ?_
      exact rt_i C (Or.inl rfl) dX9_near_19 hc hs ⟨_, rfl, (k1 c0 c1)⟩
  · refine st_iload_n (pc := 5) C.1 dX9_near_5 rfl rfl ?_
    refine st_goto (pc := 6) (tgt := 19) C.1 dX9_near_6 (by decide) ?_
    exact rt_i C (Or.inl rfl) dX9_near_19 hc hs ⟨_, rfl, (k2 c0)⟩

theorem sgX9_init_0 {X : CX} {d mc ms cells slots : Nat} {pp : Hp → Prop} {h : Hp} {t : Nat} {x1 : Int32} {x2 : Int32} {x3 : Int32}  (C : CmV X mX9_init d mc ms pp) (hr1 : 1 ≤ d)  (k0 : At X cells slots 8 [some (va_rf (some t)), some (.int x1), some (.int x2), some (.int x3)] [.int 3001, va_rf (some t)] h) : At X cells slots 0 [some (va_rf (some t)), some (.int x1), some (.int x2), some (.int x3)] [] h := by
  refine st_aload_n (pc := 0) C.1 (some t) dX9_init_0 rfl rfl ?_
  refine st_objInit (pc := 1) C.1 wM_RX9_1 wObjI wObjC dX9_init_1 (by rw [C.2.2.1]; exact hr1) (by rw [C.2.2.1]; exact Nat.le_trans (Nat.le_of_ble_eq_true rfl) (Nat.mul_le_mul_left 30 hr1)) ?_
  refine st_aload_n (pc := 4) C.1 (some t) dX9_init_4 rfl rfl ?_
  refine st_sipush (pc := 5) (v := 3001) C.1 dX9_init_5 (by decide) ?_
  exact k0

theorem sgX9_init_10 {X : CX} {d mc ms cells slots : Nat} {pp : Hp → Prop} {h : Hp} {t : Nat} {x1 : Int32} {x2 : Int32} {x3 : Int32} {p0 : Option Nat} {q1 : Nat}  (C : CmV X mX9_init d mc ms pp) (h0 : h.K q1 = 10) (h1 : h.K t = 10) (k0 : At X cells slots 27 [some (va_rf (some t)), some (.int x1), some (.int x2), some (.int x3)] [.int 800, va_rf (some t)] (((h.sR 904 q1 p0).sI 905 t 1).sI 906 t 1)) : At X cells slots 10 [some (va_rf (some t)), some (.int x1), some (.int x2), some (.int x3)] [va_rf p0, va_rf (some q1)] h := by
  refine pR_RX9_7 (pc := 10) C.1 p0 dX9_init_10 h0 C.2.2.2.2.1 ?_
  refine st_aload_n (pc := 13) C.1 (some t) dX9_init_13 rfl rfl ?_
  refine st_iconst (pc := 14) (v := 1) C.1 dX9_init_14 (by decide) ?_
  refine pI_RX9_13 (pc := 15) C.1 dX9_init_15 h1 ?_
  refine st_aload_n (pc := 18) C.1 (some t) dX9_init_18 rfl rfl ?_
  refine st_iconst (pc := 19) (v := 1) C.1 dX9_init_19 (by decide) ?_
  refine pI_RX9_17 (pc := 20) C.1 dX9_init_20 h1 ?_
  refine st_aload_n (pc := 23) C.1 (some t) dX9_init_23 rfl rfl ?_
  refine st_sipush (pc := 24) (v := 800) C.1 dX9_init_24 (by decide) ?_
  exact k0

theorem sgX9_init_29 {X : CX} {d mc ms cells slots : Nat} {pp : Hp → Prop} {h : Hp} {t : Nat} {x1 : Int32} {x2 : Int32} {x3 : Int32} {p0 : Option Nat} {q1 : Nat}  (C : CmV X mX9_init d mc ms pp) (h0 : h.K q1 = 10) (k0 : At X cells slots 36 [some (va_rf (some t)), some (.int x1), some (.int x2), some (.int x3)] [.int 800, va_rf (some t)] (h.sR 907 q1 p0)) : At X cells slots 29 [some (va_rf (some t)), some (.int x1), some (.int x2), some (.int x3)] [va_rf p0, va_rf (some q1)] h := by
  refine pR_RX9_20 (pc := 29) C.1 p0 dX9_init_29 h0 C.2.2.2.2.1 ?_
  refine st_aload_n (pc := 32) C.1 (some t) dX9_init_32 rfl rfl ?_
  refine st_sipush (pc := 33) (v := 800) C.1 dX9_init_33 (by decide) ?_
  exact k0

theorem sgX9_init_38 {X : CX} {d mc ms cells slots : Nat} {pp : Hp → Prop} {h : Hp} {t : Nat} {x1 : Int32} {x2 : Int32} {x3 : Int32} {p0 : Option Nat} {q1 : Nat}  (C : CmV X mX9_init d mc ms pp) (h0 : h.K q1 = 10) (k0 : At X cells slots 45 [some (va_rf (some t)), some (.int x1), some (.int x2), some (.int x3)] [.int 800, va_rf (some t)] (h.sR 908 q1 p0)) : At X cells slots 38 [some (va_rf (some t)), some (.int x1), some (.int x2), some (.int x3)] [va_rf p0, va_rf (some q1)] h := by
  refine pR_RX9_23 (pc := 38) C.1 p0 dX9_init_38 h0 C.2.2.2.2.1 ?_
  refine st_aload_n (pc := 41) C.1 (some t) dX9_init_41 rfl rfl ?_
  refine st_sipush (pc := 42) (v := 800) C.1 dX9_init_42 (by decide) ?_
  exact k0

theorem sgX9_init_47 {X : CX} {d mc ms cells slots : Nat} {pp : Hp → Prop} {h : Hp} {t : Nat} {x1 : Int32} {x2 : Int32} {x3 : Int32} {p0 : Option Nat} {q1 : Nat}  (C : CmV X mX9_init d mc ms pp) (h0 : h.K q1 = 10) (k0 : At X cells slots 54 [some (va_rf (some t)), some (.int x1), some (.int x2), some (.int x3)] [.int 800, va_rf (some t)] (h.sR 909 q1 p0)) : At X cells slots 47 [some (va_rf (some t)), some (.int x1), some (.int x2), some (.int x3)] [va_rf p0, va_rf (some q1)] h := by
  refine pR_RX9_26 (pc := 47) C.1 p0 dX9_init_47 h0 C.2.2.2.2.1 ?_
  refine st_aload_n (pc := 50) C.1 (some t) dX9_init_50 rfl rfl ?_
  refine st_sipush (pc := 51) (v := 800) C.1 dX9_init_51 (by decide) ?_
  exact k0

theorem sgX9_init_56 {X : CX} {d mc ms cells slots : Nat} {pp : Hp → Prop} {h : Hp} {t : Nat} {x1 : Int32} {x2 : Int32} {x3 : Int32} {p0 : Option Nat} {q1 : Nat}  (C : CmV X mX9_init d mc ms pp) (h0 : h.K q1 = 10) (k0 : At X cells slots 63 [some (va_rf (some t)), some (.int x1), some (.int x2), some (.int x3)] [.int 800, va_rf (some t)] (h.sR 910 q1 p0)) : At X cells slots 56 [some (va_rf (some t)), some (.int x1), some (.int x2), some (.int x3)] [va_rf p0, va_rf (some q1)] h := by
  refine pR_RX9_29 (pc := 56) C.1 p0 dX9_init_56 h0 C.2.2.2.2.1 ?_
  refine st_aload_n (pc := 59) C.1 (some t) dX9_init_59 rfl rfl ?_
  refine st_sipush (pc := 60) (v := 800) C.1 dX9_init_60 (by decide) ?_
  exact k0

theorem sgX9_init_65 {X : CX} {d mc ms cells slots : Nat} {pp : Hp → Prop} {h : Hp} {t : Nat} {x1 : Int32} {x2 : Int32} {x3 : Int32} {p0 : Option Nat} {q1 : Nat}  (C : CmV X mX9_init d mc ms pp) (h0 : h.K q1 = 10) (k0 : At X cells slots 72 [some (va_rf (some t)), some (.int x1), some (.int x2), some (.int x3)] [.int 800, va_rf (some t)] (h.sR 911 q1 p0)) : At X cells slots 65 [some (va_rf (some t)), some (.int x1), some (.int x2), some (.int x3)] [va_rf p0, va_rf (some q1)] h := by
  refine pR_RX9_32 (pc := 65) C.1 p0 dX9_init_65 h0 C.2.2.2.2.1 ?_
  refine st_aload_n (pc := 68) C.1 (some t) dX9_init_68 rfl rfl ?_
  refine st_sipush (pc := 69) (v := 800) C.1 dX9_init_69 (by decide) ?_
  exact k0

theorem sgX9_init_74 {X : CX} {d mc ms cells slots : Nat} {pp : Hp → Prop} {h : Hp} {t : Nat} {x1 : Int32} {x2 : Int32} {x3 : Int32} {p0 : Option Nat} {q1 : Nat}  (C : CmV X mX9_init d mc ms pp) (h0 : h.K q1 = 10) (k0 : At X cells slots 81 [some (va_rf (some t)), some (.int x1), some (.int x2), some (.int x3)] [.int 800, va_rf (some t)] (h.sR 913 q1 p0)) : At X cells slots 74 [some (va_rf (some t)), some (.int x1), some (.int x2), some (.int x3)] [va_rf p0, va_rf (some q1)] h := by
  refine pR_RX9_35 (pc := 74) C.1 p0 dX9_init_74 h0 C.2.2.2.2.1 ?_
  refine st_aload_n (pc := 77) C.1 (some t) dX9_init_77 rfl rfl ?_
  refine st_sipush (pc := 78) (v := 800) C.1 dX9_init_78 (by decide) ?_
  exact k0

theorem sgX9_init_83 {X : CX} {d mc ms cells slots : Nat} {pp : Hp → Prop} {h : Hp} {t : Nat} {x1 : Int32} {x2 : Int32} {x3 : Int32} {p0 : Option Nat} {q1 : Nat}  (C : CmV X mX9_init d mc ms pp) (h0 : h.K q1 = 10) (k0 : At X cells slots 89 [some (va_rf (some t)), some (.int x1), some (.int x2), some (.int x3)] [.int 16, va_rf (some t)] (h.sR 914 q1 p0)) : At X cells slots 83 [some (va_rf (some t)), some (.int x1), some (.int x2), some (.int x3)] [va_rf p0, va_rf (some q1)] h := by
  refine pR_RX9_38 (pc := 83) C.1 p0 dX9_init_83 h0 C.2.2.2.2.1 ?_
  refine st_aload_n (pc := 86) C.1 (some t) dX9_init_86 rfl rfl ?_
  refine st_bipush (pc := 87) (v := 16) C.1 dX9_init_87 (by decide) ?_
  exact k0

theorem sgX9_init_91 {X : CX} {d mc ms cells slots : Nat} {pp : Hp → Prop} {h : Hp} {t : Nat} {x1 : Int32} {x2 : Int32} {x3 : Int32} {p0 : Option Nat} {q1 : Nat}  (C : CmV X mX9_init d mc ms pp) (h0 : h.K q1 = 10) (k0 : At X cells slots 97 [some (va_rf (some t)), some (.int x1), some (.int x2), some (.int x3)] [.int 32, va_rf (some t)] (h.sR 922 q1 p0)) : At X cells slots 91 [some (va_rf (some t)), some (.int x1), some (.int x2), some (.int x3)] [va_rf p0, va_rf (some q1)] h := by
  refine pR_RX9_41 (pc := 91) C.1 p0 dX9_init_91 h0 C.2.2.2.2.1 ?_
  refine st_aload_n (pc := 94) C.1 (some t) dX9_init_94 rfl rfl ?_
  refine st_bipush (pc := 95) (v := 32) C.1 dX9_init_95 (by decide) ?_
  exact k0

theorem sgX9_init_99 {X : CX} {d mc ms cells slots : Nat} {pp : Hp → Prop} {h : Hp} {t : Nat} {x1 : Int32} {x2 : Int32} {x3 : Int32} {p0 : Option Nat} {q1 : Nat}  (C : CmV X mX9_init d mc ms pp) (h0 : h.K q1 = 10) (k0 : At X cells slots 105 [some (va_rf (some t)), some (.int x1), some (.int x2), some (.int x3)] [.int 32, va_rf (some t)] (h.sR 923 q1 p0)) : At X cells slots 99 [some (va_rf (some t)), some (.int x1), some (.int x2), some (.int x3)] [va_rf p0, va_rf (some q1)] h := by
  refine pR_RX9_44 (pc := 99) C.1 p0 dX9_init_99 h0 C.2.2.2.2.1 ?_
  refine st_aload_n (pc := 102) C.1 (some t) dX9_init_102 rfl rfl ?_
  refine st_bipush (pc := 103) (v := 32) C.1 dX9_init_103 (by decide) ?_
  exact k0

theorem sgX9_init_107 {X : CX} {d mc ms cells slots : Nat} {pp : Hp → Prop} {h : Hp} {t : Nat} {x1 : Int32} {x2 : Int32} {x3 : Int32} {p0 : Option Nat} {q1 : Nat}  (C : CmV X mX9_init d mc ms pp) (h0 : h.K q1 = 10) (k0 : At X cells slots 114 [some (va_rf (some t)), some (.int x1), some (.int x2), some (.int x3)] [.int 3001, va_rf (some t)] (h.sR 924 q1 p0)) : At X cells slots 107 [some (va_rf (some t)), some (.int x1), some (.int x2), some (.int x3)] [va_rf p0, va_rf (some q1)] h := by
  refine pR_RX9_47 (pc := 107) C.1 p0 dX9_init_107 h0 C.2.2.2.2.1 ?_
  refine st_aload_n (pc := 110) C.1 (some t) dX9_init_110 rfl rfl ?_
  refine st_sipush (pc := 111) (v := 3001) C.1 dX9_init_111 (by decide) ?_
  exact k0

theorem sgX9_init_116 {X : CX} {d mc ms cells slots : Nat} {pp : Hp → Prop} {h : Hp} {t : Nat} {x1 : Int32} {x2 : Int32} {x3 : Int32} {p0 : Option Nat} {q1 : Nat}  (C : CmV X mX9_init d mc ms pp) (h0 : h.K q1 = 10) (k0 : At X cells slots 123 [some (va_rf (some t)), some (.int x1), some (.int x2), some (.int x3)] [.int 800, va_rf (some t)] (h.sR 925 q1 p0)) : At X cells slots 116 [some (va_rf (some t)), some (.int x1), some (.int x2), some (.int x3)] [va_rf p0, va_rf (some q1)] h := by
  refine pR_RX9_50 (pc := 116) C.1 p0 dX9_init_116 h0 C.2.2.2.2.1 ?_
  refine st_aload_n (pc := 119) C.1 (some t) dX9_init_119 rfl rfl ?_
  refine st_sipush (pc := 120) (v := 800) C.1 dX9_init_120 (by decide) ?_
  exact k0

theorem sgX9_init_125 {X : CX} {d mc ms cells slots : Nat} {pp : Hp → Prop} {h : Hp} {t : Nat} {x1 : Int32} {x2 : Int32} {x3 : Int32} {p0 : Option Nat} {q1 : Nat}  (C : CmV X mX9_init d mc ms pp) (h0 : h.K q1 = 10) (k0 : At X cells slots 132 [some (va_rf (some t)), some (.int x1), some (.int x2), some (.int x3)] [.int 800, va_rf (some t)] (h.sR 926 q1 p0)) : At X cells slots 125 [some (va_rf (some t)), some (.int x1), some (.int x2), some (.int x3)] [va_rf p0, va_rf (some q1)] h := by
  refine pR_RX9_53 (pc := 125) C.1 p0 dX9_init_125 h0 C.2.2.2.2.1 ?_
  refine st_aload_n (pc := 128) C.1 (some t) dX9_init_128 rfl rfl ?_
  refine st_sipush (pc := 129) (v := 800) C.1 dX9_init_129 (by decide) ?_
  exact k0

theorem sgX9_init_134 {X : CX} {d mc ms cells slots : Nat} {pp : Hp → Prop} {h : Hp} {t : Nat} {x1 : Int32} {x2 : Int32} {x3 : Int32} {p0 : Option Nat} {q1 : Nat}  (C : CmV X mX9_init d mc ms pp) (h0 : h.K q1 = 10) (k0 : At X cells slots 141 [some (va_rf (some t)), some (.int x1), some (.int x2), some (.int x3)] [.int 800, va_rf (some t)] (h.sR 927 q1 p0)) : At X cells slots 134 [some (va_rf (some t)), some (.int x1), some (.int x2), some (.int x3)] [va_rf p0, va_rf (some q1)] h := by
  refine pR_RX9_57 (pc := 134) C.1 p0 dX9_init_134 h0 C.2.2.2.2.1 ?_
  refine st_aload_n (pc := 137) C.1 (some t) dX9_init_137 rfl rfl ?_
  refine st_sipush (pc := 138) (v := 800) C.1 dX9_init_138 (by decide) ?_
  exact k0

theorem sgX9_init_143 {X : CX} {d mc ms cells slots : Nat} {pp : Hp → Prop} {h : Hp} {t : Nat} {x1 : Int32} {x2 : Int32} {x3 : Int32} {p0 : Option Nat} {q1 : Nat}  (C : CmV X mX9_init d mc ms pp) (h0 : h.K q1 = 10) (k0 : At X cells slots 150 [some (va_rf (some t)), some (.int x1), some (.int x2), some (.int x3)] [.int 800, va_rf (some t)] (h.sR 928 q1 p0)) : At X cells slots 143 [some (va_rf (some t)), some (.int x1), some (.int x2), some (.int x3)] [va_rf p0, va_rf (some q1)] h := by
  refine pR_RX9_60 (pc := 143) C.1 p0 dX9_init_143 h0 C.2.2.2.2.1 ?_
  refine st_aload_n (pc := 146) C.1 (some t) dX9_init_146 rfl rfl ?_
  refine st_sipush (pc := 147) (v := 800) C.1 dX9_init_147 (by decide) ?_
  exact k0

theorem sgX9_init_152 {X : CX} {d mc ms cells slots : Nat} {pp : Hp → Prop} {h : Hp} {t : Nat} {x1 : Int32} {x2 : Int32} {x3 : Int32} {p0 : Option Nat} {q1 : Nat}  (C : CmV X mX9_init d mc ms pp) (h0 : h.K q1 = 10) (k0 : At X cells slots 159 [some (va_rf (some t)), some (.int x1), some (.int x2), some (.int x3)] [.int 800, va_rf (some t)] (h.sR 929 q1 p0)) : At X cells slots 152 [some (va_rf (some t)), some (.int x1), some (.int x2), some (.int x3)] [va_rf p0, va_rf (some q1)] h := by
  refine pR_RX9_63 (pc := 152) C.1 p0 dX9_init_152 h0 C.2.2.2.2.1 ?_
  refine st_aload_n (pc := 155) C.1 (some t) dX9_init_155 rfl rfl ?_
  refine st_sipush (pc := 156) (v := 800) C.1 dX9_init_156 (by decide) ?_
  exact k0

theorem sgX9_init_161 {X : CX} {d mc ms cells slots : Nat} {pp : Hp → Prop} {h : Hp} {t : Nat} {x1 : Int32} {x2 : Int32} {x3 : Int32} {p0 : Option Nat} {q1 : Nat}  (C : CmV X mX9_init d mc ms pp) (h0 : h.K q1 = 10) (k0 : At X cells slots 168 [some (va_rf (some t)), some (.int x1), some (.int x2), some (.int x3)] [.int 800, va_rf (some t)] (h.sR 930 q1 p0)) : At X cells slots 161 [some (va_rf (some t)), some (.int x1), some (.int x2), some (.int x3)] [va_rf p0, va_rf (some q1)] h := by
  refine pR_RX9_66 (pc := 161) C.1 p0 dX9_init_161 h0 C.2.2.2.2.1 ?_
  refine st_aload_n (pc := 164) C.1 (some t) dX9_init_164 rfl rfl ?_
  refine st_sipush (pc := 165) (v := 800) C.1 dX9_init_165 (by decide) ?_
  exact k0

theorem sgX9_init_170 {X : CX} {d mc ms cells slots : Nat} {pp : Hp → Prop} {h : Hp} {t : Nat} {x1 : Int32} {x2 : Int32} {x3 : Int32} {p0 : Option Nat} {q1 : Nat}  (C : CmV X mX9_init d mc ms pp) (h0 : h.K q1 = 10) (k0 : At X cells slots 180 [some (va_rf (some t)), some (.int x1), some (.int x2), some (.int x3)] [.int 3000, .int 64, .int x1, va_rf (some t)] (h.sR 931 q1 p0)) : At X cells slots 170 [some (va_rf (some t)), some (.int x1), some (.int x2), some (.int x3)] [va_rf p0, va_rf (some q1)] h := by
  refine pR_RX9_69 (pc := 170) C.1 p0 dX9_init_170 h0 C.2.2.2.2.1 ?_
  refine st_aload_n (pc := 173) C.1 (some t) dX9_init_173 rfl rfl ?_
  refine st_iload_n (pc := 174) C.1 dX9_init_174 rfl rfl ?_
  refine st_bipush (pc := 175) (v := 64) C.1 dX9_init_175 (by decide) ?_
  refine st_sipush (pc := 177) (v := 3000) C.1 dX9_init_177 (by decide) ?_
  exact k0

theorem sgX9_init_183 {X : CX} {d mc ms cells slots : Nat} {pp : Hp → Prop} {h : Hp} {t : Nat} {x1 : Int32} {x2 : Int32} {x3 : Int32} {u0 : Int32} {q1 : Nat}  (C : CmV X mX9_init d mc ms pp) (h0 : h.K q1 = 10) (k0 : At X cells slots 191 [some (va_rf (some t)), some (.int x1), some (.int x2), some (.int x3)] [.int 8, .int 1, .int x2, va_rf (some t)] (h.sI 900 q1 u0)) : At X cells slots 183 [some (va_rf (some t)), some (.int x1), some (.int x2), some (.int x3)] [.int u0, va_rf (some q1)] h := by
  refine pI_RX9_76 (pc := 183) C.1 dX9_init_183 h0 C.2.2.2.2.1 ?_
  refine st_aload_n (pc := 186) C.1 (some t) dX9_init_186 rfl rfl ?_
  refine st_iload_n (pc := 187) C.1 dX9_init_187 rfl rfl ?_
  refine st_iconst (pc := 188) (v := 1) C.1 dX9_init_188 (by decide) ?_
  refine st_bipush (pc := 189) (v := 8) C.1 dX9_init_189 (by decide) ?_
  exact k0

theorem sgX9_init_194 {X : CX} {d mc ms cells slots : Nat} {pp : Hp → Prop} {h : Hp} {t : Nat} {x1 : Int32} {x2 : Int32} {x3 : Int32} {u0 : Int32} {q1 : Nat}  (C : CmV X mX9_init d mc ms pp) (h0 : h.K q1 = 10) (k0 : At X cells slots 203 [some (va_rf (some t)), some (.int x1), some (.int x2), some (.int x3)] [.int 3000, .int 0, .int x3, va_rf (some t)] (h.sI 901 q1 u0)) : At X cells slots 194 [some (va_rf (some t)), some (.int x1), some (.int x2), some (.int x3)] [.int u0, va_rf (some q1)] h := by
  refine pI_RX9_79 (pc := 194) C.1 dX9_init_194 h0 C.2.2.2.2.1 ?_
  refine st_aload_n (pc := 197) C.1 (some t) dX9_init_197 rfl rfl ?_
  refine st_iload_n (pc := 198) C.1 dX9_init_198 rfl rfl ?_
  refine st_iconst (pc := 199) (v := 0) C.1 dX9_init_199 (by decide) ?_
  refine st_sipush (pc := 200) (v := 3000) C.1 dX9_init_200 (by decide) ?_
  exact k0

theorem sgX9_init_206 {X : CX} {d mc ms cells slots : Nat} {pp : Hp → Prop} {h : Hp} {t : Nat} {x1 : Int32} {x2 : Int32} {x3 : Int32} {u0 : Int32} {q1 : Nat}  (C : CmV X mX9_init d mc ms pp) (hc : cells ≤ mc) (hs : slots ≤ ms) (h0 : h.K q1 = 10) (k0 : pp (h.sI 902 q1 u0)) : At X cells slots 206 [some (va_rf (some t)), some (.int x1), some (.int x2), some (.int x3)] [.int u0, va_rf (some q1)] h := by
  refine pI_RX9_82 (pc := 206) C.1 dX9_init_206 h0 C.2.2.2.2.1 ?_
  exact rt_v C rfl dX9_init_209 hc hs ⟨rfl, k0⟩

theorem nwX9_init_8 {X : CX} {d0 mc0 ms0 cells slots : Nat} {pp : Hp → Prop} {h : Hp} {ls : List (Option Value)} {st : List Value} {n : Int32} (C : CmV X mX9_init d0 mc0 ms0 pp) (hn : ¬ n < 0) (hb : n.toNatClampNeg ≤ 60000000) (hmc : cells + 1 ≤ mc0) (hms : slots + n.toNatClampNeg ≤ ms0) (kk : ∀ q, h.K q = 0 → At X (cells + 1) (slots + n.toNatClampNeg) 10 ls (va_rf (some q) :: st) (h.nw q 11 n.toNatClampNeg)) : At X cells slots 8 ls (.int n :: st) h :=
  st_newarray (pc := 8) C.1 11 0 (by simp) wA_int dX9_init_8 hn hb (by rw [C.2.2.1]; exact hmc) (by rw [C.2.2.1]; exact hms) kk
theorem nwX9_init_27 {X : CX} {d0 mc0 ms0 cells slots : Nat} {pp : Hp → Prop} {h : Hp} {ls : List (Option Value)} {st : List Value} {n : Int32} (C : CmV X mX9_init d0 mc0 ms0 pp) (hn : ¬ n < 0) (hb : n.toNatClampNeg ≤ 60000000) (hmc : cells + 1 ≤ mc0) (hms : slots + n.toNatClampNeg ≤ ms0) (kk : ∀ q, h.K q = 0 → At X (cells + 1) (slots + n.toNatClampNeg) 29 ls (va_rf (some q) :: st) (h.nw q 11 n.toNatClampNeg)) : At X cells slots 27 ls (.int n :: st) h :=
  st_newarray (pc := 27) C.1 11 0 (by simp) wA_int dX9_init_27 hn hb (by rw [C.2.2.1]; exact hmc) (by rw [C.2.2.1]; exact hms) kk
theorem nwX9_init_36 {X : CX} {d0 mc0 ms0 cells slots : Nat} {pp : Hp → Prop} {h : Hp} {ls : List (Option Value)} {st : List Value} {n : Int32} (C : CmV X mX9_init d0 mc0 ms0 pp) (hn : ¬ n < 0) (hb : n.toNatClampNeg ≤ 60000000) (hmc : cells + 1 ≤ mc0) (hms : slots + n.toNatClampNeg ≤ ms0) (kk : ∀ q, h.K q = 0 → At X (cells + 1) (slots + n.toNatClampNeg) 38 ls (va_rf (some q) :: st) (h.nw q 11 n.toNatClampNeg)) : At X cells slots 36 ls (.int n :: st) h :=
  st_newarray (pc := 36) C.1 11 0 (by simp) wA_int dX9_init_36 hn hb (by rw [C.2.2.1]; exact hmc) (by rw [C.2.2.1]; exact hms) kk
theorem nwX9_init_45 {X : CX} {d0 mc0 ms0 cells slots : Nat} {pp : Hp → Prop} {h : Hp} {ls : List (Option Value)} {st : List Value} {n : Int32} (C : CmV X mX9_init d0 mc0 ms0 pp) (hn : ¬ n < 0) (hb : n.toNatClampNeg ≤ 60000000) (hmc : cells + 1 ≤ mc0) (hms : slots + n.toNatClampNeg ≤ ms0) (kk : ∀ q, h.K q = 0 → At X (cells + 1) (slots + n.toNatClampNeg) 47 ls (va_rf (some q) :: st) (h.nw q 11 n.toNatClampNeg)) : At X cells slots 45 ls (.int n :: st) h :=
  st_newarray (pc := 45) C.1 11 0 (by simp) wA_int dX9_init_45 hn hb (by rw [C.2.2.1]; exact hmc) (by rw [C.2.2.1]; exact hms) kk
theorem nwX9_init_54 {X : CX} {d0 mc0 ms0 cells slots : Nat} {pp : Hp → Prop} {h : Hp} {ls : List (Option Value)} {st : List Value} {n : Int32} (C : CmV X mX9_init d0 mc0 ms0 pp) (hn : ¬ n < 0) (hb : n.toNatClampNeg ≤ 60000000) (hmc : cells + 1 ≤ mc0) (hms : slots + n.toNatClampNeg ≤ ms0) (kk : ∀ q, h.K q = 0 → At X (cells + 1) (slots + n.toNatClampNeg) 56 ls (va_rf (some q) :: st) (h.nw q 11 n.toNatClampNeg)) : At X cells slots 54 ls (.int n :: st) h :=
  st_newarray (pc := 54) C.1 11 0 (by simp) wA_int dX9_init_54 hn hb (by rw [C.2.2.1]; exact hmc) (by rw [C.2.2.1]; exact hms) kk
theorem nwX9_init_63 {X : CX} {d0 mc0 ms0 cells slots : Nat} {pp : Hp → Prop} {h : Hp} {ls : List (Option Value)} {st : List Value} {n : Int32} (C : CmV X mX9_init d0 mc0 ms0 pp) (hn : ¬ n < 0) (hb : n.toNatClampNeg ≤ 60000000) (hmc : cells + 1 ≤ mc0) (hms : slots + n.toNatClampNeg ≤ ms0) (kk : ∀ q, h.K q = 0 → At X (cells + 1) (slots + n.toNatClampNeg) 65 ls (va_rf (some q) :: st) (h.nw q 11 n.toNatClampNeg)) : At X cells slots 63 ls (.int n :: st) h :=
  st_newarray (pc := 63) C.1 11 0 (by simp) wA_int dX9_init_63 hn hb (by rw [C.2.2.1]; exact hmc) (by rw [C.2.2.1]; exact hms) kk
theorem nwX9_init_72 {X : CX} {d0 mc0 ms0 cells slots : Nat} {pp : Hp → Prop} {h : Hp} {ls : List (Option Value)} {st : List Value} {n : Int32} (C : CmV X mX9_init d0 mc0 ms0 pp) (hn : ¬ n < 0) (hb : n.toNatClampNeg ≤ 60000000) (hmc : cells + 1 ≤ mc0) (hms : slots + n.toNatClampNeg ≤ ms0) (kk : ∀ q, h.K q = 0 → At X (cells + 1) (slots + n.toNatClampNeg) 74 ls (va_rf (some q) :: st) (h.nw q 11 n.toNatClampNeg)) : At X cells slots 72 ls (.int n :: st) h :=
  st_newarray (pc := 72) C.1 11 0 (by simp) wA_int dX9_init_72 hn hb (by rw [C.2.2.1]; exact hmc) (by rw [C.2.2.1]; exact hms) kk
theorem nwX9_init_81 {X : CX} {d0 mc0 ms0 cells slots : Nat} {pp : Hp → Prop} {h : Hp} {ls : List (Option Value)} {st : List Value} {n : Int32} (C : CmV X mX9_init d0 mc0 ms0 pp) (hn : ¬ n < 0) (hb : n.toNatClampNeg ≤ 60000000) (hmc : cells + 1 ≤ mc0) (hms : slots + n.toNatClampNeg ≤ ms0) (kk : ∀ q, h.K q = 0 → At X (cells + 1) (slots + n.toNatClampNeg) 83 ls (va_rf (some q) :: st) (h.nw q 11 n.toNatClampNeg)) : At X cells slots 81 ls (.int n :: st) h :=
  st_newarray (pc := 81) C.1 11 0 (by simp) wA_int dX9_init_81 hn hb (by rw [C.2.2.1]; exact hmc) (by rw [C.2.2.1]; exact hms) kk
theorem nwX9_init_89 {X : CX} {d0 mc0 ms0 cells slots : Nat} {pp : Hp → Prop} {h : Hp} {ls : List (Option Value)} {st : List Value} {n : Int32} (C : CmV X mX9_init d0 mc0 ms0 pp) (hn : ¬ n < 0) (hb : n.toNatClampNeg ≤ 60000000) (hmc : cells + 1 ≤ mc0) (hms : slots + n.toNatClampNeg ≤ ms0) (kk : ∀ q, h.K q = 0 → At X (cells + 1) (slots + n.toNatClampNeg) 91 ls (va_rf (some q) :: st) (h.nw q 11 n.toNatClampNeg)) : At X cells slots 89 ls (.int n :: st) h :=
  st_newarray (pc := 89) C.1 11 0 (by simp) wA_int dX9_init_89 hn hb (by rw [C.2.2.1]; exact hmc) (by rw [C.2.2.1]; exact hms) kk
theorem nwX9_init_97 {X : CX} {d0 mc0 ms0 cells slots : Nat} {pp : Hp → Prop} {h : Hp} {ls : List (Option Value)} {st : List Value} {n : Int32} (C : CmV X mX9_init d0 mc0 ms0 pp) (hn : ¬ n < 0) (hb : n.toNatClampNeg ≤ 60000000) (hmc : cells + 1 ≤ mc0) (hms : slots + n.toNatClampNeg ≤ ms0) (kk : ∀ q, h.K q = 0 → At X (cells + 1) (slots + n.toNatClampNeg) 99 ls (va_rf (some q) :: st) (h.nw q 11 n.toNatClampNeg)) : At X cells slots 97 ls (.int n :: st) h :=
  st_newarray (pc := 97) C.1 11 0 (by simp) wA_int dX9_init_97 hn hb (by rw [C.2.2.1]; exact hmc) (by rw [C.2.2.1]; exact hms) kk
theorem nwX9_init_105 {X : CX} {d0 mc0 ms0 cells slots : Nat} {pp : Hp → Prop} {h : Hp} {ls : List (Option Value)} {st : List Value} {n : Int32} (C : CmV X mX9_init d0 mc0 ms0 pp) (hn : ¬ n < 0) (hb : n.toNatClampNeg ≤ 60000000) (hmc : cells + 1 ≤ mc0) (hms : slots + n.toNatClampNeg ≤ ms0) (kk : ∀ q, h.K q = 0 → At X (cells + 1) (slots + n.toNatClampNeg) 107 ls (va_rf (some q) :: st) (h.nw q 11 n.toNatClampNeg)) : At X cells slots 105 ls (.int n :: st) h :=
  st_newarray (pc := 105) C.1 11 0 (by simp) wA_int dX9_init_105 hn hb (by rw [C.2.2.1]; exact hmc) (by rw [C.2.2.1]; exact hms) kk
theorem nwX9_init_114 {X : CX} {d0 mc0 ms0 cells slots : Nat} {pp : Hp → Prop} {h : Hp} {ls : List (Option Value)} {st : List Value} {n : Int32} (C : CmV X mX9_init d0 mc0 ms0 pp) (hn : ¬ n < 0) (hb : n.toNatClampNeg ≤ 60000000) (hmc : cells + 1 ≤ mc0) (hms : slots + n.toNatClampNeg ≤ ms0) (kk : ∀ q, h.K q = 0 → At X (cells + 1) (slots + n.toNatClampNeg) 116 ls (va_rf (some q) :: st) (h.nw q 11 n.toNatClampNeg)) : At X cells slots 114 ls (.int n :: st) h :=
  st_newarray (pc := 114) C.1 11 0 (by simp) wA_int dX9_init_114 hn hb (by rw [C.2.2.1]; exact hmc) (by rw [C.2.2.1]; exact hms) kk
theorem nwX9_init_123 {X : CX} {d0 mc0 ms0 cells slots : Nat} {pp : Hp → Prop} {h : Hp} {ls : List (Option Value)} {st : List Value} {n : Int32} (C : CmV X mX9_init d0 mc0 ms0 pp) (hn : ¬ n < 0) (hb : n.toNatClampNeg ≤ 60000000) (hmc : cells + 1 ≤ mc0) (hms : slots + n.toNatClampNeg ≤ ms0) (kk : ∀ q, h.K q = 0 → At X (cells + 1) (slots + n.toNatClampNeg) 125 ls (va_rf (some q) :: st) (h.nw q 12 n.toNatClampNeg)) : At X cells slots 123 ls (.int n :: st) h :=
  st_newarray (pc := 123) C.1 12 1 (by simp) wA_boolean dX9_init_123 hn hb (by rw [C.2.2.1]; exact hmc) (by rw [C.2.2.1]; exact hms) kk
theorem nwX9_init_132 {X : CX} {d0 mc0 ms0 cells slots : Nat} {pp : Hp → Prop} {h : Hp} {ls : List (Option Value)} {st : List Value} {n : Int32} (C : CmV X mX9_init d0 mc0 ms0 pp) (hn : ¬ n < 0) (hb : n.toNatClampNeg ≤ 60000000) (hmc : cells + 1 ≤ mc0) (hms : slots + n.toNatClampNeg ≤ ms0) (kk : ∀ q, h.K q = 0 → At X (cells + 1) (slots + n.toNatClampNeg) 134 ls (va_rf (some q) :: st) (h.nw q 11 n.toNatClampNeg)) : At X cells slots 132 ls (.int n :: st) h :=
  st_newarray (pc := 132) C.1 11 0 (by simp) wA_int dX9_init_132 hn hb (by rw [C.2.2.1]; exact hmc) (by rw [C.2.2.1]; exact hms) kk
theorem nwX9_init_141 {X : CX} {d0 mc0 ms0 cells slots : Nat} {pp : Hp → Prop} {h : Hp} {ls : List (Option Value)} {st : List Value} {n : Int32} (C : CmV X mX9_init d0 mc0 ms0 pp) (hn : ¬ n < 0) (hb : n.toNatClampNeg ≤ 60000000) (hmc : cells + 1 ≤ mc0) (hms : slots + n.toNatClampNeg ≤ ms0) (kk : ∀ q, h.K q = 0 → At X (cells + 1) (slots + n.toNatClampNeg) 143 ls (va_rf (some q) :: st) (h.nw q 11 n.toNatClampNeg)) : At X cells slots 141 ls (.int n :: st) h :=
  st_newarray (pc := 141) C.1 11 0 (by simp) wA_int dX9_init_141 hn hb (by rw [C.2.2.1]; exact hmc) (by rw [C.2.2.1]; exact hms) kk
theorem nwX9_init_150 {X : CX} {d0 mc0 ms0 cells slots : Nat} {pp : Hp → Prop} {h : Hp} {ls : List (Option Value)} {st : List Value} {n : Int32} (C : CmV X mX9_init d0 mc0 ms0 pp) (hn : ¬ n < 0) (hb : n.toNatClampNeg ≤ 60000000) (hmc : cells + 1 ≤ mc0) (hms : slots + n.toNatClampNeg ≤ ms0) (kk : ∀ q, h.K q = 0 → At X (cells + 1) (slots + n.toNatClampNeg) 152 ls (va_rf (some q) :: st) (h.nw q 11 n.toNatClampNeg)) : At X cells slots 150 ls (.int n :: st) h :=
  st_newarray (pc := 150) C.1 11 0 (by simp) wA_int dX9_init_150 hn hb (by rw [C.2.2.1]; exact hmc) (by rw [C.2.2.1]; exact hms) kk
theorem nwX9_init_159 {X : CX} {d0 mc0 ms0 cells slots : Nat} {pp : Hp → Prop} {h : Hp} {ls : List (Option Value)} {st : List Value} {n : Int32} (C : CmV X mX9_init d0 mc0 ms0 pp) (hn : ¬ n < 0) (hb : n.toNatClampNeg ≤ 60000000) (hmc : cells + 1 ≤ mc0) (hms : slots + n.toNatClampNeg ≤ ms0) (kk : ∀ q, h.K q = 0 → At X (cells + 1) (slots + n.toNatClampNeg) 161 ls (va_rf (some q) :: st) (h.nw q 11 n.toNatClampNeg)) : At X cells slots 159 ls (.int n :: st) h :=
  st_newarray (pc := 159) C.1 11 0 (by simp) wA_int dX9_init_159 hn hb (by rw [C.2.2.1]; exact hmc) (by rw [C.2.2.1]; exact hms) kk
theorem nwX9_init_168 {X : CX} {d0 mc0 ms0 cells slots : Nat} {pp : Hp → Prop} {h : Hp} {ls : List (Option Value)} {st : List Value} {n : Int32} (C : CmV X mX9_init d0 mc0 ms0 pp) (hn : ¬ n < 0) (hb : n.toNatClampNeg ≤ 60000000) (hmc : cells + 1 ≤ mc0) (hms : slots + n.toNatClampNeg ≤ ms0) (kk : ∀ q, h.K q = 0 → At X (cells + 1) (slots + n.toNatClampNeg) 170 ls (va_rf (some q) :: st) (h.nw q 12 n.toNatClampNeg)) : At X cells slots 168 ls (.int n :: st) h :=
  st_newarray (pc := 168) C.1 12 1 (by simp) wA_boolean dX9_init_168 hn hb (by rw [C.2.2.1]; exact hmc) (by rw [C.2.2.1]; exact hms) kk
theorem clX9_init_180 {X : CX} {d0 mc0 ms0 d mc ms cells slots : Nat} {pp : Hp → Prop} {h : Hp} {ls : List (Option Value)} {rest : List Value} {a0 a1 a2 : Value} {post : Int32 → Hp → Prop} (C : CmV X mX9_init d0 mc0 ms0 pp) (hct : CtI mX9_near d mc ms [a0, a1, a2] h post) (hdd : d < d0) (hmc : cells + mc ≤ mc0) (hms : slots + ms ≤ ms0) (hcat : (rest.map fun v => v.category).sum ≤ 8) (kk : ∀ r h', post r h' → At X (cells + mc) (slots + ms) 183 ls (.int r :: rest) h') : At X cells slots 180 ls (a2 :: a1 :: a0 :: rest) h :=
  st_callS (pc := 180) (M := mX9_near) (idx := 72) (As := [a0, a1, a2]) C.1 C.2.2.1 C.2.2.2.2.2.2 (n := 3) ⟨wM_RX9_72, wC_X9_near, wI_RX9, by decide +kernel, by decide⟩ wT_X9_near dX9_init_180 rfl hdd hcat hct hmc hms (fun v h2 hp => by obtain ⟨r, rfl, hp⟩ := hp; exact kk r h2 hp)
theorem clX9_init_191 {X : CX} {d0 mc0 ms0 d mc ms cells slots : Nat} {pp : Hp → Prop} {h : Hp} {ls : List (Option Value)} {rest : List Value} {a0 a1 a2 : Value} {post : Int32 → Hp → Prop} (C : CmV X mX9_init d0 mc0 ms0 pp) (hct : CtI mX9_near d mc ms [a0, a1, a2] h post) (hdd : d < d0) (hmc : cells + mc ≤ mc0) (hms : slots + ms ≤ ms0) (hcat : (rest.map fun v => v.category).sum ≤ 8) (kk : ∀ r h', post r h' → At X (cells + mc) (slots + ms) 194 ls (.int r :: rest) h') : At X cells slots 191 ls (a2 :: a1 :: a0 :: rest) h :=
  st_callS (pc := 191) (M := mX9_near) (idx := 72) (As := [a0, a1, a2]) C.1 C.2.2.1 C.2.2.2.2.2.2 (n := 3) ⟨wM_RX9_72, wC_X9_near, wI_RX9, by decide +kernel, by decide⟩ wT_X9_near dX9_init_191 rfl hdd hcat hct hmc hms (fun v h2 hp => by obtain ⟨r, rfl, hp⟩ := hp; exact kk r h2 hp)
theorem clX9_init_203 {X : CX} {d0 mc0 ms0 d mc ms cells slots : Nat} {pp : Hp → Prop} {h : Hp} {ls : List (Option Value)} {rest : List Value} {a0 a1 a2 : Value} {post : Int32 → Hp → Prop} (C : CmV X mX9_init d0 mc0 ms0 pp) (hct : CtI mX9_near d mc ms [a0, a1, a2] h post) (hdd : d < d0) (hmc : cells + mc ≤ mc0) (hms : slots + ms ≤ ms0) (hcat : (rest.map fun v => v.category).sum ≤ 8) (kk : ∀ r h', post r h' → At X (cells + mc) (slots + ms) 206 ls (.int r :: rest) h') : At X cells slots 203 ls (a2 :: a1 :: a0 :: rest) h :=
  st_callS (pc := 203) (M := mX9_near) (idx := 72) (As := [a0, a1, a2]) C.1 C.2.2.1 C.2.2.2.2.2.2 (n := 3) ⟨wM_RX9_72, wC_X9_near, wI_RX9, by decide +kernel, by decide⟩ wT_X9_near dX9_init_203 rfl hdd hcat hct hmc hms (fun v h2 hp => by obtain ⟨r, rfl, hp⟩ := hp; exact kk r h2 hp)
theorem sgX9_thrown_0 {X : CX} {d mc ms cells slots : Nat} {pp : Int32 → Hp → Prop} {h : Hp} {t : Nat}  (C : CmI X mX9_thrown d mc ms pp) (hc : cells ≤ mc) (hs : slots ≤ ms) (h0 : h.K t = 10) (k0 : pp (h.I 903 t) h) : At X cells slots 0 [some (va_rf (some t))] [] h := by
  refine st_aload_n (pc := 0) C.1 (some t) dX9_thrown_0 rfl rfl ?_
  refine gI_RX9_85 (pc := 1) C.1 (h.I 903 t) dX9_thrown_1 h0 rfl ?_
  exact rt_i C (Or.inl rfl) dX9_thrown_4 hc hs ⟨_, rfl, k0⟩

theorem sgX9_start_0 {X : CX} {d mc ms cells slots : Nat} {pp : Int32 → Hp → Prop} {h : Hp} {t : Nat} {x1 : Int32} {r0 : Nat} (C : CmI X mX9_start d mc ms pp) (hc : cells ≤ mc) (hs : slots ≤ ms) (h0 : h.K t = 10) (h1 : h.R 907 t = some r0) (h2 : h.K r0 = 11) (h3 : vp_in x1 (h.N r0)) (k0 : pp ((h.AI r0 (x1.toNatClampNeg)) + (h.I 901 t)) h) : At X cells slots 0 [some (va_rf (some t)), some (.int x1)] [] h := by
  refine st_aload_n (pc := 0) C.1 (some t) dX9_start_0 rfl rfl ?_
  refine gR_RX9_20 (pc := 1) C.1 (some r0) dX9_start_1 h0 h1 ?_
  refine st_iload_n (pc := 4) C.1 dX9_start_4 rfl rfl ?_
  refine sv_iaload (pc := 5) C.1 (h.AI r0 (x1.toNatClampNeg)) dX9_start_5 h2 h3 rfl ?_
  refine st_aload_n (pc := 6) C.1 (some t) dX9_start_6 rfl rfl ?_
  refine gI_RX9_79 (pc := 7) C.1 (h.I 901 t) dX9_start_7 h0 rfl ?_
  refine st_iadd (pc := 10) C.1 dX9_start_10 ?_
  exact rt_i C (Or.inl rfl) dX9_start_11 hc hs ⟨_, rfl, k0⟩

theorem sgX9_isLive_0 {X : CX} {d mc ms cells slots : Nat} {pp : Int32 → Hp → Prop} {h : Hp} {t : Nat} {x1 : Int32} {r0 : Nat} (C : CmI X mX9_isLive d mc ms pp) (hc : cells ≤ mc) (hs : slots ≤ ms) (h0 : h.K t = 10) (h1 : h.R 911 t = some r0) (h2 : h.K r0 = 11) (h3 : vp_in x1 (h.N r0)) (k0 : ¬ h.AI r0 (x1.toNatClampNeg) = 0 → pp 0 h) (k1 : h.AI r0 (x1.toNatClampNeg) = 0 → pp 1 h) : At X cells slots 0 [some (va_rf (some t)), some (.int x1)] [] h := by
  refine st_aload_n (pc := 0) C.1 (some t) dX9_isLive_0 rfl rfl ?_
  refine gR_RX9_32 (pc := 1) C.1 (some r0) dX9_isLive_1 h0 h1 ?_
  refine st_iload_n (pc := 4) C.1 dX9_isLive_4 rfl rfl ?_
  refine sv_iaload (pc := 5) C.1 (h.AI r0 (x1.toNatClampNeg)) dX9_isLive_5 h2 h3 rfl ?_
  refine st_if_ne (pc := 6) (tgt := 13) C.1 dX9_isLive_6 (by decide) (fun c0 => ?_) (fun c0 => ?_)
  · refine st_iconst (pc := 13) (v := 0) C.1 dX9_isLive_13 (by decide) ?_
    exact rt_i C (Or.inr ⟨rfl, (Or.inl rfl)⟩) dX9_isLive_14 hc hs ⟨_, rfl, (k0 c0)⟩
  · refine st_iconst (pc := 9) (v := 1) C.1 dX9_isLive_9 (by decide) ?_
    refine st_goto (pc := 10) (tgt := 14) C.1 dX9_isLive_10 (by decide) ?_
    exact rt_i C (Or.inr ⟨rfl, (Or.inr rfl)⟩) dX9_isLive_14 hc hs ⟨_, rfl, (k1 c0)⟩

theorem sgX9_blockOf_0 {X : CX} {d mc ms cells slots : Nat} {pp : Int32 → Hp → Prop} {h : Hp} {t : Nat} {x1 : Int32}  (C : CmI X mX9_blockOf d mc ms pp)  (k0 : At X cells slots 2 [some (va_rf (some t)), some (.int x1), some (.int 0)] [] h) : At X cells slots 0 [some (va_rf (some t)), some (.int x1), none] [] h := by
  refine st_iconst (pc := 0) (v := 0) C.1 dX9_blockOf_0 (by decide) ?_
  refine sv_istore_n (pc := 1) (i := 2) C.1 [some (va_rf (some t)), some (.int x1), some (.int 0)] dX9_blockOf_1 rfl (Nat.le_of_ble_eq_true rfl) (by rw [C.2.1]; exact Nat.le_of_ble_eq_true rfl) rfl rfl ?_
  exact k0

theorem sgX9_blockOf_2 {X : CX} {d mc ms cells slots : Nat} {pp : Int32 → Hp → Prop} {h : Hp} {t : Nat} {x1 : Int32} {x2 : Int32} {r0 : Nat} {r1 : Nat} (C : CmI X mX9_blockOf d mc ms pp) (hc : cells ≤ mc) (hs : slots ≤ ms) (h0 : h.K t = 10) (h1 : h.R 907 t = some r0) (h2 : h.K r0 = 11) (h3 : ¬ h.I 912 t ≤ x2 → vp_in x2 (h.N r0)) (h4 : ¬ h.I 912 t ≤ x2 → ¬ x1 < h.AI r0 (x2.toNatClampNeg) → vp_in x2 (h.N r0)) (h5 : h.R 908 t = some r1) (h6 : h.K r1 = 11) (h7 : ¬ h.I 912 t ≤ x2 → ¬ x1 < h.AI r0 (x2.toNatClampNeg) → vp_in x2 (h.N r1)) (k0 : h.I 912 t ≤ x2 → pp (-1) h) (k1 : ¬ h.I 912 t ≤ x2 → x1 < h.AI r0 (x2.toNatClampNeg) → At X cells slots 2 [some (va_rf (some t)), some (.int x1), some (.int (x2 + 1))] [] h) (k2 : ¬ h.I 912 t ≤ x2 → ¬ x1 < h.AI r0 (x2.toNatClampNeg) → h.AI r1 (x2.toNatClampNeg) ≤ x1 - (h.AI r0 (x2.toNatClampNeg)) → At X cells slots 2 [some (va_rf (some t)), some (.int x1), some (.int (x2 + 1))] [] h) (k3 : ¬ h.I 912 t ≤ x2 → ¬ x1 < h.AI r0 (x2.toNatClampNeg) → ¬ h.AI r1 (x2.toNatClampNeg) ≤ x1 - (h.AI r0 (x2.toNatClampNeg)) → pp x2 h) : At X cells slots 2 [some (va_rf (some t)), some (.int x1), some (.int x2)] [] h := by
  refine st_iload_n (pc := 2) C.1 dX9_blockOf_2 rfl rfl ?_
  refine st_aload_n (pc := 3) C.1 (some t) dX9_blockOf_3 rfl rfl ?_
  refine gI_RX9_88 (pc := 4) C.1 (h.I 912 t) dX9_blockOf_4 h0 rfl ?_
  refine st_icmp_ge (pc := 7) (tgt := 45) C.1 dX9_blockOf_7 (by decide) (fun c0 => ?_) (fun c0 => ?_)
  · refine st_iconst (pc := 45) (v := (-1)) C.1 dX9_blockOf_45 (by decide) ?_
    exact rt_i C (Or.inl rfl) dX9_blockOf_46 hc hs ⟨_, rfl, (k0 c0)⟩
  · refine st_iload_n (pc := 10) C.1 dX9_blockOf_10 rfl rfl ?_
    refine st_aload_n (pc := 11) C.1 (some t) dX9_blockOf_11 rfl rfl ?_
    refine gR_RX9_20 (pc := 12) C.1 (some r0) dX9_blockOf_12 h0 h1 ?_
    refine st_iload_n (pc := 15) C.1 dX9_blockOf_15 rfl rfl ?_
    refine sv_iaload (pc := 16) C.1 (h.AI r0 (x2.toNatClampNeg)) dX9_blockOf_16 h2 (h3 c0) rfl ?_
    refine st_icmp_lt (pc := 17) (tgt := 39) C.1 dX9_blockOf_17 (by decide) (fun c1 => ?_) (fun c1 => ?_)
    · refine sv_iinc (pc := 39) (i := 2) (v := x2 + 1) C.1 [some (va_rf (some t)), some (.int x1), some (.int (x2 + 1))] dX9_blockOf_39 rfl rfl (by rw [C.2.1]; exact Nat.le_of_ble_eq_true rfl) rfl rfl ?_
      refine st_goto (pc := 42) (tgt := 2) C.1 dX9_blockOf_42 (by decide) ?_
      exact (k1 c0 c1)
    · refine st_iload_n (pc := 20) C.1 dX9_blockOf_20 rfl rfl ?_
      refine st_aload_n (pc := 21) C.1 (some t) dX9_blockOf_21 rfl rfl ?_
      refine gR_RX9_20 (pc := 22) C.1 (some r0) dX9_blockOf_22 h0 h1 ?_
      refine st_iload_n (pc := 25) C.1 dX9_blockOf_25 rfl rfl ?_
      refine sv_iaload (pc := 26) C.1 (h.AI r0 (x2.toNatClampNeg)) dX9_blockOf_26 h2 (h4 c0 c1) rfl ?_
      refine st_isub (pc := 27) C.1 dX9_blockOf_27 ?_
      refine st_aload_n (pc := 28) C.1 (some t) dX9_blockOf_28 rfl rfl ?_
      refine gR_RX9_23 (pc := 29) C.1 (some r1) dX9_blockOf_29 h0 h5 ?_
      refine st_iload_n (pc := 32) C.1 dX9_blockOf_32 rfl rfl ?_
      refine sv_iaload (pc := 33) C.1 (h.AI r1 (x2.toNatClampNeg)) dX9_blockOf_33 h6 (h7 c0 c1) rfl ?_
      refine st_icmp_ge (pc := 34) (tgt := 39) C.1 dX9_blockOf_34 (by decide) (fun c2 => ?_) (fun c2 => ?_)
      · refine sv_iinc (pc := 39) (i := 2) (v := x2 + 1) C.1 [some (va_rf (some t)), some (.int x1), some (.int (x2 + 1))] dX9_blockOf_39 rfl rfl (by rw [C.2.1]; exact Nat.le_of_ble_eq_true rfl) rfl rfl ?_
        refine st_goto (pc := 42) (tgt := 2) C.1 dX9_blockOf_42 (by decide) ?_
        exact (k2 c0 c1 c2)
      · refine st_iload_n (pc := 37) C.1 dX9_blockOf_37 rfl rfl ?_
        exact rt_i C (Or.inl rfl) dX9_blockOf_38 hc hs ⟨_, rfl, (k3 c0 c1 c2)⟩

theorem sgX9_startsAt_0 {X : CX} {d mc ms cells slots : Nat} {pp : Int32 → Hp → Prop} {h : Hp} {t : Nat} {x1 : Int32}  (C : CmI X mX9_startsAt d mc ms pp)  (k0 : At X cells slots 2 [some (va_rf (some t)), some (.int x1), some (.int 0)] [] h) : At X cells slots 0 [some (va_rf (some t)), some (.int x1), none] [] h := by
  refine st_iconst (pc := 0) (v := 0) C.1 dX9_startsAt_0 (by decide) ?_
  refine sv_istore_n (pc := 1) (i := 2) C.1 [some (va_rf (some t)), some (.int x1), some (.int 0)] dX9_startsAt_1 rfl (Nat.le_of_ble_eq_true rfl) (by rw [C.2.1]; exact Nat.le_of_ble_eq_true rfl) rfl rfl ?_
  exact k0

theorem sgX9_startsAt_2 {X : CX} {d mc ms cells slots : Nat} {pp : Int32 → Hp → Prop} {h : Hp} {t : Nat} {x1 : Int32} {x2 : Int32}  (C : CmI X mX9_startsAt d mc ms pp) (hc : cells ≤ mc) (hs : slots ≤ ms) (h0 : h.K t = 10) (k0 : h.I 912 t ≤ x2 → pp (-1) h) (k1 : ¬ h.I 912 t ≤ x2 → At X cells slots 12 [some (va_rf (some t)), some (.int x1), some (.int x2)] [.int x2, va_rf (some t)] h) : At X cells slots 2 [some (va_rf (some t)), some (.int x1), some (.int x2)] [] h := by
  refine st_iload_n (pc := 2) C.1 dX9_startsAt_2 rfl rfl ?_
  refine st_aload_n (pc := 3) C.1 (some t) dX9_startsAt_3 rfl rfl ?_
  refine gI_RX9_88 (pc := 4) C.1 (h.I 912 t) dX9_startsAt_4 h0 rfl ?_
  refine st_icmp_ge (pc := 7) (tgt := 27) C.1 dX9_startsAt_7 (by decide) (fun c0 => ?_) (fun c0 => ?_)
  · refine st_iconst (pc := 27) (v := (-1)) C.1 dX9_startsAt_27 (by decide) ?_
    exact rt_i C (Or.inl rfl) dX9_startsAt_28 hc hs ⟨_, rfl, (k0 c0)⟩
  · refine st_aload_n (pc := 10) C.1 (some t) dX9_startsAt_10 rfl rfl ?_
    refine st_iload_n (pc := 11) C.1 dX9_startsAt_11 rfl rfl ?_
    exact (k1 c0)

theorem sgX9_startsAt_15 {X : CX} {d mc ms cells slots : Nat} {pp : Int32 → Hp → Prop} {h : Hp} {t : Nat} {x1 : Int32} {x2 : Int32} {u0 : Int32}  (C : CmI X mX9_startsAt d mc ms pp) (hc : cells ≤ mc) (hs : slots ≤ ms)  (k0 : ¬ u0 = x1 → At X cells slots 2 [some (va_rf (some t)), some (.int x1), some (.int (x2 + 1))] [] h) (k1 : u0 = x1 → pp x2 h) : At X cells slots 15 [some (va_rf (some t)), some (.int x1), some (.int x2)] [.int u0] h := by
  refine st_iload_n (pc := 15) C.1 dX9_startsAt_15 rfl rfl ?_
  refine st_icmp_ne (pc := 16) (tgt := 21) C.1 dX9_startsAt_16 (by decide) (fun c0 => ?_) (fun c0 => ?_)
  · refine sv_iinc (pc := 21) (i := 2) (v := x2 + 1) C.1 [some (va_rf (some t)), some (.int x1), some (.int (x2 + 1))] dX9_startsAt_21 rfl rfl (by rw [C.2.1]; exact Nat.le_of_ble_eq_true rfl) rfl rfl ?_
    refine st_goto (pc := 24) (tgt := 2) C.1 dX9_startsAt_24 (by decide) ?_
    exact (k0 c0)
  · refine st_iload_n (pc := 19) C.1 dX9_startsAt_19 rfl rfl ?_
    exact rt_i C (Or.inl rfl) dX9_startsAt_20 hc hs ⟨_, rfl, (k1 c0)⟩

theorem clX9_startsAt_12 {X : CX} {d0 mc0 ms0 d mc ms cells slots : Nat} {pp : Int32 → Hp → Prop} {h : Hp} {ls : List (Option Value)} {rest : List Value} {b : Nat} {a0 : Value} {post : Int32 → Hp → Prop} (C : CmI X mX9_startsAt d0 mc0 ms0 pp) (hct : CtI mX9_start d mc ms [va_rf (some b), a0] h post) (hK : h.K b = 10) (hdd : d < d0) (hmc : cells + mc ≤ mc0) (hms : slots + ms ≤ ms0) (hcat : (rest.map fun v => v.category).sum ≤ 8) (kk : ∀ r h', post r h' → At X (cells + mc) (slots + ms) 15 ls (.int r :: rest) h') : At X cells slots 12 ls (a0 :: va_rf (some b) :: rest) h :=
  st_callV (pc := 12) (M := mX9_start) (idx := 91) (As := [a0]) C.1 C.2.2.1 C.2.2.2.2.2.2 ⟨wM_RX9_91, wC_X9_start, wI_RX9, by decide +kernel, by decide⟩ wV_X9_start wS_X9_start (ci := 9) (n := 1) rfl rfl (by decide) dX9_startsAt_12 rfl hdd hcat hK hct hmc hms (fun v h2 hp => by obtain ⟨r, rfl, hp⟩ := hp; exact kk r h2 hp)
theorem sgX9_sortOf_0 {X : CX} {d mc ms cells slots : Nat} {pp : Int32 → Hp → Prop} {h : Hp} {t : Nat} {x1 : Int32}  (C : CmI X mX9_sortOf d mc ms pp)  (k0 : At X cells slots 2 [some (va_rf (some t)), some (.int x1), none] [.int x1, va_rf (some t)] h) : At X cells slots 0 [some (va_rf (some t)), some (.int x1), none] [] h := by
  refine st_aload_n (pc := 0) C.1 (some t) dX9_sortOf_0 rfl rfl ?_
  refine st_iload_n (pc := 1) C.1 dX9_sortOf_1 rfl rfl ?_
  exact k0

theorem sgX9_sortOf_5 {X : CX} {d mc ms cells slots : Nat} {pp : Int32 → Hp → Prop} {h : Hp} {t : Nat} {x1 : Int32} {u0 : Int32}  (C : CmI X mX9_sortOf d mc ms pp) (hc : cells ≤ mc) (hs : slots ≤ ms)  (k0 : ¬ u0 = (-1) → At X cells slots 16 [some (va_rf (some t)), some (.int x1), some (.int u0)] [.int u0, va_rf (some t), .int x1] h) (k1 : u0 = (-1) → pp 3 h) : At X cells slots 5 [some (va_rf (some t)), some (.int x1), none] [.int u0] h := by
  refine sv_istore_n (pc := 5) (i := 2) C.1 [some (va_rf (some t)), some (.int x1), some (.int u0)] dX9_sortOf_5 rfl (Nat.le_of_ble_eq_true rfl) (by rw [C.2.1]; exact Nat.le_of_ble_eq_true rfl) rfl rfl ?_
  refine st_iload_n (pc := 6) C.1 dX9_sortOf_6 rfl rfl ?_
  refine st_iconst (pc := 7) (v := (-1)) C.1 dX9_sortOf_7 (by decide) ?_
  refine st_icmp_ne (pc := 8) (tgt := 13) C.1 dX9_sortOf_8 (by decide) (fun c0 => ?_) (fun c0 => ?_)
  · refine st_iload_n (pc := 13) C.1 dX9_sortOf_13 rfl rfl ?_
    refine st_aload_n (pc := 14) C.1 (some t) dX9_sortOf_14 rfl rfl ?_
    refine st_iload_n (pc := 15) C.1 dX9_sortOf_15 rfl rfl ?_
    exact (k0 c0)
  · refine st_iconst (pc := 11) (v := 3) C.1 dX9_sortOf_11 (by decide) ?_
    exact rt_i C (Or.inl rfl) dX9_sortOf_12 hc hs ⟨_, rfl, (k1 c0)⟩

theorem sgX9_sortOf_19 {X : CX} {d mc ms cells slots : Nat} {pp : Int32 → Hp → Prop} {h : Hp} {t : Nat} {x1 : Int32} {x2 : Int32} {u0 : Int32} {u1 : Int32}  (C : CmI X mX9_sortOf d mc ms pp) (hc : cells ≤ mc) (hs : slots ≤ ms)  (k0 : u1 < u0 → pp 2 h) (k1 : ¬ u1 < u0 → At X cells slots 25 [some (va_rf (some t)), some (.int x1), some (.int x2)] [.int x2, va_rf (some t), .int x1] h) : At X cells slots 19 [some (va_rf (some t)), some (.int x1), some (.int x2)] [.int u0, .int u1] h := by
  refine st_icmp_lt (pc := 19) (tgt := 38) C.1 dX9_sortOf_19 (by decide) (fun c0 => ?_) (fun c0 => ?_)
  · refine st_iconst (pc := 38) (v := 2) C.1 dX9_sortOf_38 (by decide) ?_
    exact rt_i C (Or.inl rfl) dX9_sortOf_39 hc hs ⟨_, rfl, (k0 c0)⟩
  · refine st_iload_n (pc := 22) C.1 dX9_sortOf_22 rfl rfl ?_
    refine st_aload_n (pc := 23) C.1 (some t) dX9_sortOf_23 rfl rfl ?_
    refine st_iload_n (pc := 24) C.1 dX9_sortOf_24 rfl rfl ?_
    exact (k1 c0)

theorem sgX9_sortOf_28 {X : CX} {d mc ms cells slots : Nat} {pp : Int32 → Hp → Prop} {h : Hp} {t : Nat} {x1 : Int32} {x2 : Int32} {u0 : Int32} {u1 : Int32} {r0 : Nat} (C : CmI X mX9_sortOf d mc ms pp) (hc : cells ≤ mc) (hs : slots ≤ ms) (h0 : h.K t = 10) (h1 : h.R 909 t = some r0) (h2 : h.K r0 = 11) (h3 : vp_in x2 (h.N r0)) (k0 : u1 < u0 + (h.AI r0 (x2.toNatClampNeg)) → At X cells slots 42 [some (va_rf (some t)), some (.int x1), some (.int x2)] [.int x2, va_rf (some t)] h) (k1 : ¬ u1 < u0 + (h.AI r0 (x2.toNatClampNeg)) → pp 2 h) : At X cells slots 28 [some (va_rf (some t)), some (.int x1), some (.int x2)] [.int u0, .int u1] h := by
  refine st_aload_n (pc := 28) C.1 (some t) dX9_sortOf_28 rfl rfl ?_
  refine gR_RX9_26 (pc := 29) C.1 (some r0) dX9_sortOf_29 h0 h1 ?_
  refine st_iload_n (pc := 32) C.1 dX9_sortOf_32 rfl rfl ?_
  refine sv_iaload (pc := 33) C.1 (h.AI r0 (x2.toNatClampNeg)) dX9_sortOf_33 h2 h3 rfl ?_
  refine st_iadd (pc := 34) C.1 dX9_sortOf_34 ?_
  refine st_icmp_lt (pc := 35) (tgt := 40) C.1 dX9_sortOf_35 (by decide) (fun c0 => ?_) (fun c0 => ?_)
  · refine st_aload_n (pc := 40) C.1 (some t) dX9_sortOf_40 rfl rfl ?_
    refine st_iload_n (pc := 41) C.1 dX9_sortOf_41 rfl rfl ?_
    exact (k0 c0)
  · refine st_iconst (pc := 38) (v := 2) C.1 dX9_sortOf_38 (by decide) ?_
    exact rt_i C (Or.inl rfl) dX9_sortOf_39 hc hs ⟨_, rfl, (k1 c0)⟩

theorem sgX9_sortOf_45 {X : CX} {d mc ms cells slots : Nat} {pp : Int32 → Hp → Prop} {h : Hp} {t : Nat} {x1 : Int32} {x2 : Int32} {u0 : Int32}  (C : CmI X mX9_sortOf d mc ms pp) (hc : cells ≤ mc) (hs : slots ≤ ms)  (k0 : u0 = 0 → pp 1 h) (k1 : ¬ u0 = 0 → pp 0 h) : At X cells slots 45 [some (va_rf (some t)), some (.int x1), some (.int x2)] [.int u0] h := by
  refine st_if_eq (pc := 45) (tgt := 52) C.1 dX9_sortOf_45 (by decide) (fun c0 => ?_) (fun c0 => ?_)
  · refine st_iconst (pc := 52) (v := 1) C.1 dX9_sortOf_52 (by decide) ?_
    exact rt_i C (Or.inl rfl) dX9_sortOf_53 hc hs ⟨_, rfl, (k0 c0)⟩
  · refine st_iconst (pc := 48) (v := 0) C.1 dX9_sortOf_48 (by decide) ?_
    refine st_goto (pc := 49) (tgt := 53) C.1 dX9_sortOf_49 (by decide) ?_
    exact rt_i C (Or.inl rfl) dX9_sortOf_53 hc hs ⟨_, rfl, (k1 c0)⟩

theorem clX9_sortOf_2 {X : CX} {d0 mc0 ms0 d mc ms cells slots : Nat} {pp : Int32 → Hp → Prop} {h : Hp} {ls : List (Option Value)} {rest : List Value} {b : Nat} {a0 : Value} {post : Int32 → Hp → Prop} (C : CmI X mX9_sortOf d0 mc0 ms0 pp) (hct : CtI mX9_blockOf d mc ms [va_rf (some b), a0] h post) (hK : h.K b = 10) (hdd : d < d0) (hmc : cells + mc ≤ mc0) (hms : slots + ms ≤ ms0) (hcat : (rest.map fun v => v.category).sum ≤ 8) (kk : ∀ r h', post r h' → At X (cells + mc) (slots + ms) 5 ls (.int r :: rest) h') : At X cells slots 2 ls (a0 :: va_rf (some b) :: rest) h :=
  st_callV (pc := 2) (M := mX9_blockOf) (idx := 95) (As := [a0]) C.1 C.2.2.1 C.2.2.2.2.2.2 ⟨wM_RX9_95, wC_X9_blockOf, wI_RX9, by decide +kernel, by decide⟩ wV_X9_blockOf wS_X9_blockOf (ci := 9) (n := 1) rfl rfl (by decide) dX9_sortOf_2 rfl hdd hcat hK hct hmc hms (fun v h2 hp => by obtain ⟨r, rfl, hp⟩ := hp; exact kk r h2 hp)
theorem clX9_sortOf_16 {X : CX} {d0 mc0 ms0 d mc ms cells slots : Nat} {pp : Int32 → Hp → Prop} {h : Hp} {ls : List (Option Value)} {rest : List Value} {b : Nat} {a0 : Value} {post : Int32 → Hp → Prop} (C : CmI X mX9_sortOf d0 mc0 ms0 pp) (hct : CtI mX9_start d mc ms [va_rf (some b), a0] h post) (hK : h.K b = 10) (hdd : d < d0) (hmc : cells + mc ≤ mc0) (hms : slots + ms ≤ ms0) (hcat : (rest.map fun v => v.category).sum ≤ 8) (kk : ∀ r h', post r h' → At X (cells + mc) (slots + ms) 19 ls (.int r :: rest) h') : At X cells slots 16 ls (a0 :: va_rf (some b) :: rest) h :=
  st_callV (pc := 16) (M := mX9_start) (idx := 91) (As := [a0]) C.1 C.2.2.1 C.2.2.2.2.2.2 ⟨wM_RX9_91, wC_X9_start, wI_RX9, by decide +kernel, by decide⟩ wV_X9_start wS_X9_start (ci := 9) (n := 1) rfl rfl (by decide) dX9_sortOf_16 rfl hdd hcat hK hct hmc hms (fun v h2 hp => by obtain ⟨r, rfl, hp⟩ := hp; exact kk r h2 hp)
theorem clX9_sortOf_25 {X : CX} {d0 mc0 ms0 d mc ms cells slots : Nat} {pp : Int32 → Hp → Prop} {h : Hp} {ls : List (Option Value)} {rest : List Value} {b : Nat} {a0 : Value} {post : Int32 → Hp → Prop} (C : CmI X mX9_sortOf d0 mc0 ms0 pp) (hct : CtI mX9_start d mc ms [va_rf (some b), a0] h post) (hK : h.K b = 10) (hdd : d < d0) (hmc : cells + mc ≤ mc0) (hms : slots + ms ≤ ms0) (hcat : (rest.map fun v => v.category).sum ≤ 8) (kk : ∀ r h', post r h' → At X (cells + mc) (slots + ms) 28 ls (.int r :: rest) h') : At X cells slots 25 ls (a0 :: va_rf (some b) :: rest) h :=
  st_callV (pc := 25) (M := mX9_start) (idx := 91) (As := [a0]) C.1 C.2.2.1 C.2.2.2.2.2.2 ⟨wM_RX9_91, wC_X9_start, wI_RX9, by decide +kernel, by decide⟩ wV_X9_start wS_X9_start (ci := 9) (n := 1) rfl rfl (by decide) dX9_sortOf_25 rfl hdd hcat hK hct hmc hms (fun v h2 hp => by obtain ⟨r, rfl, hp⟩ := hp; exact kk r h2 hp)
theorem clX9_sortOf_42 {X : CX} {d0 mc0 ms0 d mc ms cells slots : Nat} {pp : Int32 → Hp → Prop} {h : Hp} {ls : List (Option Value)} {rest : List Value} {b : Nat} {a0 : Value} {post : Int32 → Hp → Prop} (C : CmI X mX9_sortOf d0 mc0 ms0 pp) (hct : CtI mX9_isLive d mc ms [va_rf (some b), a0] h post) (hK : h.K b = 10) (hdd : d < d0) (hmc : cells + mc ≤ mc0) (hms : slots + ms ≤ ms0) (hcat : (rest.map fun v => v.category).sum ≤ 8) (kk : ∀ r h', post r h' → At X (cells + mc) (slots + ms) 45 ls (.int r :: rest) h') : At X cells slots 42 ls (a0 :: va_rf (some b) :: rest) h :=
  st_callV (pc := 42) (M := mX9_isLive) (idx := 98) (As := [a0]) C.1 C.2.2.1 C.2.2.2.2.2.2 ⟨wM_RX9_98, wC_X9_isLive, wI_RX9, by decide +kernel, by decide⟩ wV_X9_isLive wS_X9_isLive (ci := 9) (n := 1) rfl rfl (by decide) dX9_sortOf_42 rfl hdd hcat hK hct hmc hms (fun v h2 hp => by obtain ⟨r, rfl, hp⟩ := hp; exact kk r h2 hp)
theorem sgX9_drop_0 {X : CX} {d mc ms cells slots : Nat} {pp : Hp → Prop} {h : Hp} {t : Nat} {x1 : Int32} {r0 : Nat} {r1 : Nat} {r2 : Nat} {r3 : Nat} {r4 : Nat} (C : CmV X mX9_drop d mc ms pp) (hc : cells ≤ mc) (hs : slots ≤ ms) (h0 : h.K t = 10) (h1 : h.R 907 t = some r0) (h2 : h.K r0 = 11) (h3 : vp_in ((h.sI 912 t ((h.I 912 t) - 1)).I 912 t) (h.N r0)) (h4 : vp_in x1 (h.N r0)) (h5 : h.R 908 t = some r1) (h6 : h.K r1 = 11) (h7 : vp_in ((h.sI 912 t ((h.I 912 t) - 1)).I 912 t) (h.N r1)) (h8 : vp_in x1 (h.N r1)) (h9 : h.R 909 t = some r2) (h10 : h.K r2 = 11) (h11 : vp_in ((h.sI 912 t ((h.I 912 t) - 1)).I 912 t) (h.N r2)) (h12 : vp_in x1 (h.N r2)) (h13 : h.R 910 t = some r3) (h14 : h.K r3 = 11) (h15 : vp_in ((h.sI 912 t ((h.I 912 t) - 1)).I 912 t) (h.N r3)) (h16 : vp_in x1 (h.N r3)) (h17 : h.R 911 t = some r4) (h18 : h.K r4 = 11) (h19 : vp_in ((h.sI 912 t ((h.I 912 t) - 1)).I 912 t) (h.N r4)) (h20 : vp_in x1 (h.N r4)) (k0 : pp ((((((h.sI 912 t ((h.I 912 t) - 1)).sAI r0 (x1.toNatClampNeg) (h.AI r0 (((h.sI 912 t ((h.I 912 t) - 1)).I 912 t).toNatClampNeg))).sAI r1 (x1.toNatClampNeg) (((h.sI 912 t ((h.I 912 t) - 1)).sAI r0 (x1.toNatClampNeg) (h.AI r0 (((h.sI 912 t ((h.I 912 t) - 1)).I 912 t).toNatClampNeg))).AI r1 (((h.sI 912 t ((h.I 912 t) - 1)).I 912 t).toNatClampNeg))).sAI r2 (x1.toNatClampNeg) ((((h.sI 912 t ((h.I 912 t) - 1)).sAI r0 (x1.toNatClampNeg) (h.AI r0 (((h.sI 912 t ((h.I 912 t) - 1)).I 912 t).toNatClampNeg))).sAI r1 (x1.toNatClampNeg) (((h.sI 912 t ((h.I 912 t) - 1)).sAI r0 (x1.toNatClampNeg) (h.AI r0 (((h.sI 912 t ((h.I 912 t) - 1)).I 912 t).toNatClampNeg))).AI r1 (((h.sI 912 t ((h.I 912 t) - 1)).I 912 t).toNatClampNeg))).AI r2 (((h.sI 912 t ((h.I 912 t) - 1)).I 912 t).toNatClampNeg))).sAI r3 (x1.toNatClampNeg) (((((h.sI 912 t ((h.I 912 t) - 1)).sAI r0 (x1.toNatClampNeg) (h.AI r0 (((h.sI 912 t ((h.I 912 t) - 1)).I 912 t).toNatClampNeg))).sAI r1 (x1.toNatClampNeg) (((h.sI 912 t ((h.I 912 t) - 1)).sAI r0 (x1.toNatClampNeg) (h.AI r0 (((h.sI 912 t ((h.I 912 t) - 1)).I 912 t).toNatClampNeg))).AI r1 (((h.sI 912 t ((h.I 912 t) - 1)).I 912 t).toNatClampNeg))).sAI r2 (x1.toNatClampNeg) ((((h.sI 912 t ((h.I 912 t) - 1)).sAI r0 (x1.toNatClampNeg) (h.AI r0 (((h.sI 912 t ((h.I 912 t) - 1)).I 912 t).toNatClampNeg))).sAI r1 (x1.toNatClampNeg) (((h.sI 912 t ((h.I 912 t) - 1)).sAI r0 (x1.toNatClampNeg) (h.AI r0 (((h.sI 912 t ((h.I 912 t) - 1)).I 912 t).toNatClampNeg))).AI r1 (((h.sI 912 t ((h.I 912 t) - 1)).I 912 t).toNatClampNeg))).AI r2 (((h.sI 912 t ((h.I 912 t) - 1)).I 912 t).toNatClampNeg))).AI r3 (((h.sI 912 t ((h.I 912 t) - 1)).I 912 t).toNatClampNeg))).sAI r4 (x1.toNatClampNeg) ((((((h.sI 912 t ((h.I 912 t) - 1)).sAI r0 (x1.toNatClampNeg) (h.AI r0 (((h.sI 912 t ((h.I 912 t) - 1)).I 912 t).toNatClampNeg))).sAI r1 (x1.toNatClampNeg) (((h.sI 912 t ((h.I 912 t) - 1)).sAI r0 (x1.toNatClampNeg) (h.AI r0 (((h.sI 912 t ((h.I 912 t) - 1)).I 912 t).toNatClampNeg))).AI r1 (((h.sI 912 t ((h.I 912 t) - 1)).I 912 t).toNatClampNeg))).sAI r2 (x1.toNatClampNeg) ((((h.sI 912 t ((h.I 912 t) - 1)).sAI r0 (x1.toNatClampNeg) (h.AI r0 (((h.sI 912 t ((h.I 912 t) - 1)).I 912 t).toNatClampNeg))).sAI r1 (x1.toNatClampNeg) (((h.sI 912 t ((h.I 912 t) - 1)).sAI r0 (x1.toNatClampNeg) (h.AI r0 (((h.sI 912 t ((h.I 912 t) - 1)).I 912 t).toNatClampNeg))).AI r1 (((h.sI 912 t ((h.I 912 t) - 1)).I 912 t).toNatClampNeg))).AI r2 (((h.sI 912 t ((h.I 912 t) - 1)).I 912 t).toNatClampNeg))).sAI r3 (x1.toNatClampNeg) (((((h.sI 912 t ((h.I 912 t) - 1)).sAI r0 (x1.toNatClampNeg) (h.AI r0 (((h.sI 912 t ((h.I 912 t) - 1)).I 912 t).toNatClampNeg))).sAI r1 (x1.toNatClampNeg) (((h.sI 912 t ((h.I 912 t) - 1)).sAI r0 (x1.toNatClampNeg) (h.AI r0 (((h.sI 912 t ((h.I 912 t) - 1)).I 912 t).toNatClampNeg))).AI r1 (((h.sI 912 t ((h.I 912 t) - 1)).I 912 t).toNatClampNeg))).sAI r2 (x1.toNatClampNeg) ((((h.sI 912 t ((h.I 912 t) - 1)).sAI r0 (x1.toNatClampNeg) (h.AI r0 (((h.sI 912 t ((h.I 912 t) - 1)).I 912 t).toNatClampNeg))).sAI r1 (x1.toNatClampNeg) (((h.sI 912 t ((h.I 912 t) - 1)).sAI r0 (x1.toNatClampNeg) (h.AI r0 (((h.sI 912 t ((h.I 912 t) - 1)).I 912 t).toNatClampNeg))).AI r1 (((h.sI 912 t ((h.I 912 t) - 1)).I 912 t).toNatClampNeg))).AI r2 (((h.sI 912 t ((h.I 912 t) - 1)).I 912 t).toNatClampNeg))).AI r3 (((h.sI 912 t ((h.I 912 t) - 1)).I 912 t).toNatClampNeg))).AI r4 (((h.sI 912 t ((h.I 912 t) - 1)).I 912 t).toNatClampNeg)))) : At X cells slots 0 [some (va_rf (some t)), some (.int x1)] [] h := by
  refine st_aload_n (pc := 0) C.1 (some t) dX9_drop_0 rfl rfl ?_
  refine st_dup (pc := 1) C.1 dX9_drop_1 (rf_cat (some t)) ?_
  refine gI_RX9_88 (pc := 2) C.1 (h.I 912 t) dX9_drop_2 h0 rfl ?_
  refine st_iconst (pc := 5) (v := 1) C.1 dX9_drop_5 (by decide) ?_
  refine st_isub (pc := 6) C.1 dX9_drop_6 ?_
  refine pI_RX9_88 (pc := 7) C.1 dX9_drop_7 h0 ?_
  refine st_aload_n (pc := 10) C.1 (some t) dX9_drop_10 rfl rfl ?_
  refine gR_RX9_20 (pc := 11) C.1 (some r0) dX9_drop_11 h0 h1 ?_
  refine st_iload_n (pc := 14) C.1 dX9_drop_14 rfl rfl ?_
  refine st_aload_n (pc := 15) C.1 (some t) dX9_drop_15 rfl rfl ?_
  refine gR_RX9_20 (pc := 16) C.1 (some r0) dX9_drop_16 h0 h1 ?_
  refine st_aload_n (pc := 19) C.1 (some t) dX9_drop_19 rfl rfl ?_
  refine gI_RX9_88 (pc := 20) C.1 ((h.sI 912 t ((h.I 912 t) - 1)).I 912 t) dX9_drop_20 h0 rfl ?_
  refine sv_iaload (pc := 23) C.1 (h.AI r0 (((h.sI 912 t ((h.I 912 t) - 1)).I 912 t).toNatClampNeg)) dX9_drop_23 h2 h3 rfl ?_
  refine st_iastore (pc := 24) C.1 dX9_drop_24 h2 h4 ?_
  refine st_aload_n (pc := 25) C.1 (some t) dX9_drop_25 rfl rfl ?_
  refine gR_RX9_23 (pc := 26) C.1 (some r1) dX9_drop_26 h0 h5 ?_
  refine st_iload_n (pc := 29) C.1 dX9_drop_29 rfl rfl ?_
  refine st_aload_n (pc := 30) C.1 (some t) dX9_drop_30 rfl rfl ?_
  refine gR_RX9_23 (pc := 31) C.1 (some r1) dX9_drop_31 h0 h5 ?_
  refine st_aload_n (pc := 34) C.1 (some t) dX9_drop_34 rfl rfl ?_
  refine gI_RX9_88 (pc := 35) C.1 ((h.sI 912 t ((h.I 912 t) - 1)).I 912 t) dX9_drop_35 h0 rfl ?_
  refine sv_iaload (pc := 38) C.1 (((h.sI 912 t ((h.I 912 t) - 1)).sAI r0 (x1.toNatClampNeg) (h.AI r0 (((h.sI 912 t ((h.I 912 t) - 1)).I 912 t).toNatClampNeg))).AI r1 (((h.sI 912 t ((h.I 912 t) - 1)).I 912 t).toNatClampNeg)) dX9_drop_38 h6 h7 rfl ?_
  refine st_iastore (pc := 39) C.1 dX9_drop_39 h6 h8 ?_
  refine st_aload_n (pc := 40) C.1 (some t) dX9_drop_40 rfl rfl ?_
  refine gR_RX9_26 (pc := 41) C.1 (some r2) dX9_drop_41 h0 h9 ?_
  refine st_iload_n (pc := 44) C.1 dX9_drop_44 rfl rfl ?_
  refine st_aload_n (pc := 45) C.1 (some t) dX9_drop_45 rfl rfl ?_
  refine gR_RX9_26 (pc := 46) C.1 (some r2) dX9_drop_46 h0 h9 ?_
  refine st_aload_n (pc := 49) C.1 (some t) dX9_drop_49 rfl rfl ?_
  refine gI_RX9_88 (pc := 50) C.1 ((h.sI 912 t ((h.I 912 t) - 1)).I 912 t) dX9_drop_50 h0 rfl ?_
  refine sv_iaload (pc := 53) C.1 ((((h.sI 912 t ((h.I 912 t) - 1)).sAI r0 (x1.toNatClampNeg) (h.AI r0 (((h.sI 912 t ((h.I 912 t) - 1)).I 912 t).toNatClampNeg))).sAI r1 (x1.toNatClampNeg) (((h.sI 912 t ((h.I 912 t) - 1)).sAI r0 (x1.toNatClampNeg) (h.AI r0 (((h.sI 912 t ((h.I 912 t) - 1)).I 912 t).toNatClampNeg))).AI r1 (((h.sI 912 t ((h.I 912 t) - 1)).I 912 t).toNatClampNeg))).AI r2 (((h.sI 912 t ((h.I 912 t) - 1)).I 912 t).toNatClampNeg)) dX9_drop_53 h10 h11 rfl ?_
  refine st_iastore (pc := 54) C.1 dX9_drop_54 h10 h12 ?_
  refine st_aload_n (pc := 55) C.1 (some t) dX9_drop_55 rfl rfl ?_
  refine gR_RX9_29 (pc := 56) C.1 (some r3) dX9_drop_56 h0 h13 ?_
  refine st_iload_n (pc := 59) C.1 dX9_drop_59 rfl rfl ?_
  refine st_aload_n (pc := 60) C.1 (some t) dX9_drop_60 rfl rfl ?_
  refine gR_RX9_29 (pc := 61) C.1 (some r3) dX9_drop_61 h0 h13 ?_
  refine st_aload_n (pc := 64) C.1 (some t) dX9_drop_64 rfl rfl ?_
  refine gI_RX9_88 (pc := 65) C.1 ((h.sI 912 t ((h.I 912 t) - 1)).I 912 t) dX9_drop_65 h0 rfl ?_
  refine sv_iaload (pc := 68) C.1 (((((h.sI 912 t ((h.I 912 t) - 1)).sAI r0 (x1.toNatClampNeg) (h.AI r0 (((h.sI 912 t ((h.I 912 t) - 1)).I 912 t).toNatClampNeg))).sAI r1 (x1.toNatClampNeg) (((h.sI 912 t ((h.I 912 t) - 1)).sAI r0 (x1.toNatClampNeg) (h.AI r0 (((h.sI 912 t ((h.I 912 t) - 1)).I 912 t).toNatClampNeg))).AI r1 (((h.sI 912 t ((h.I 912 t) - 1)).I 912 t).toNatClampNeg))).sAI r2 (x1.toNatClampNeg) ((((h.sI 912 t ((h.I 912 t) - 1)).sAI r0 (x1.toNatClampNeg) (h.AI r0 (((h.sI 912 t ((h.I 912 t) - 1)).I 912 t).toNatClampNeg))).sAI r1 (x1.toNatClampNeg) (((h.sI 912 t ((h.I 912 t) - 1)).sAI r0 (x1.toNatClampNeg) (h.AI r0 (((h.sI 912 t ((h.I 912 t) - 1)).I 912 t).toNatClampNeg))).AI r1 (((h.sI 912 t ((h.I 912 t) - 1)).I 912 t).toNatClampNeg))).AI r2 (((h.sI 912 t ((h.I 912 t) - 1)).I 912 t).toNatClampNeg))).AI r3 (((h.sI 912 t ((h.I 912 t) - 1)).I 912 t).toNatClampNeg)) dX9_drop_68 h14 h15 rfl ?_
  refine st_iastore (pc := 69) C.1 dX9_drop_69 h14 h16 ?_
  refine st_aload_n (pc := 70) C.1 (some t) dX9_drop_70 rfl rfl ?_
  refine gR_RX9_32 (pc := 71) C.1 (some r4) dX9_drop_71 h0 h17 ?_
  refine st_iload_n (pc := 74) C.1 dX9_drop_74 rfl rfl ?_
  refine st_aload_n (pc := 75) C.1 (some t) dX9_drop_75 rfl rfl ?_
  refine gR_RX9_32 (pc := 76) C.1 (some r4) dX9_drop_76 h0 h17 ?_
  refine st_aload_n (pc := 79) C.1 (some t) dX9_drop_79 rfl rfl ?_
  refine gI_RX9_88 (pc := 80) C.1 ((h.sI 912 t ((h.I 912 t) - 1)).I 912 t) dX9_drop_80 h0 rfl ?_
  refine sv_iaload (pc := 83) C.1 ((((((h.sI 912 t ((h.I 912 t) - 1)).sAI r0 (x1.toNatClampNeg) (h.AI r0 (((h.sI 912 t ((h.I 912 t) - 1)).I 912 t).toNatClampNeg))).sAI r1 (x1.toNatClampNeg) (((h.sI 912 t ((h.I 912 t) - 1)).sAI r0 (x1.toNatClampNeg) (h.AI r0 (((h.sI 912 t ((h.I 912 t) - 1)).I 912 t).toNatClampNeg))).AI r1 (((h.sI 912 t ((h.I 912 t) - 1)).I 912 t).toNatClampNeg))).sAI r2 (x1.toNatClampNeg) ((((h.sI 912 t ((h.I 912 t) - 1)).sAI r0 (x1.toNatClampNeg) (h.AI r0 (((h.sI 912 t ((h.I 912 t) - 1)).I 912 t).toNatClampNeg))).sAI r1 (x1.toNatClampNeg) (((h.sI 912 t ((h.I 912 t) - 1)).sAI r0 (x1.toNatClampNeg) (h.AI r0 (((h.sI 912 t ((h.I 912 t) - 1)).I 912 t).toNatClampNeg))).AI r1 (((h.sI 912 t ((h.I 912 t) - 1)).I 912 t).toNatClampNeg))).AI r2 (((h.sI 912 t ((h.I 912 t) - 1)).I 912 t).toNatClampNeg))).sAI r3 (x1.toNatClampNeg) (((((h.sI 912 t ((h.I 912 t) - 1)).sAI r0 (x1.toNatClampNeg) (h.AI r0 (((h.sI 912 t ((h.I 912 t) - 1)).I 912 t).toNatClampNeg))).sAI r1 (x1.toNatClampNeg) (((h.sI 912 t ((h.I 912 t) - 1)).sAI r0 (x1.toNatClampNeg) (h.AI r0 (((h.sI 912 t ((h.I 912 t) - 1)).I 912 t).toNatClampNeg))).AI r1 (((h.sI 912 t ((h.I 912 t) - 1)).I 912 t).toNatClampNeg))).sAI r2 (x1.toNatClampNeg) ((((h.sI 912 t ((h.I 912 t) - 1)).sAI r0 (x1.toNatClampNeg) (h.AI r0 (((h.sI 912 t ((h.I 912 t) - 1)).I 912 t).toNatClampNeg))).sAI r1 (x1.toNatClampNeg) (((h.sI 912 t ((h.I 912 t) - 1)).sAI r0 (x1.toNatClampNeg) (h.AI r0 (((h.sI 912 t ((h.I 912 t) - 1)).I 912 t).toNatClampNeg))).AI r1 (((h.sI 912 t ((h.I 912 t) - 1)).I 912 t).toNatClampNeg))).AI r2 (((h.sI 912 t ((h.I 912 t) - 1)).I 912 t).toNatClampNeg))).AI r3 (((h.sI 912 t ((h.I 912 t) - 1)).I 912 t).toNatClampNeg))).AI r4 (((h.sI 912 t ((h.I 912 t) - 1)).I 912 t).toNatClampNeg)) dX9_drop_83 h18 h19 rfl ?_
  refine st_iastore (pc := 84) C.1 dX9_drop_84 h18 h20 ?_
  exact rt_v C rfl dX9_drop_85 hc hs ⟨rfl, k0⟩

theorem sgX9_faulty_0 {X : CX} {d mc ms cells slots : Nat} {pp : Hp → Prop} {h : Hp} {t : Nat} {x1 : Int32} {x2 : Int32} {r0 : Nat} {r1 : Nat} (C : CmV X mX9_faulty d mc ms pp) (hc : cells ≤ mc) (hs : slots ≤ ms) (h0 : h.K t = 10) (h1 : h.R 923 t = some r0) (h2 : h.K r0 = 11) (h3 : vp_in ((h.I 921 t) - (h.I 921 t) / 32 * 32) (h.N r0)) (h4 : h.R 924 t = some r1) (h5 : h.K r1 = 11) (h6 : vp_in ((h.I 921 t) - (h.I 921 t) / 32 * 32) (h.N r1)) (k0 : pp (((h.sAI r0 (((h.I 921 t) - (h.I 921 t) / 32 * 32).toNatClampNeg) x1).sAI r1 (((h.I 921 t) - (h.I 921 t) / 32 * 32).toNatClampNeg) x2).sI 921 t ((h.I 921 t) + 1))) : At X cells slots 0 [some (va_rf (some t)), some (.int x1), some (.int x2)] [] h := by
  refine st_aload_n (pc := 0) C.1 (some t) dX9_faulty_0 rfl rfl ?_
  refine gR_RX9_44 (pc := 1) C.1 (some r0) dX9_faulty_1 h0 h1 ?_
  refine st_aload_n (pc := 4) C.1 (some t) dX9_faulty_4 rfl rfl ?_
  refine gI_RX9_102 (pc := 5) C.1 (h.I 921 t) dX9_faulty_5 h0 rfl ?_
  refine st_bipush (pc := 8) (v := 32) C.1 dX9_faulty_8 (by decide) ?_
  refine st_irem (pc := 10) C.1 dX9_faulty_10 (by decide) ?_
  refine st_iload_n (pc := 11) C.1 dX9_faulty_11 rfl rfl ?_
  refine st_iastore (pc := 12) C.1 dX9_faulty_12 h2 h3 ?_
  refine st_aload_n (pc := 13) C.1 (some t) dX9_faulty_13 rfl rfl ?_
  refine gR_RX9_47 (pc := 14) C.1 (some r1) dX9_faulty_14 h0 h4 ?_
  refine st_aload_n (pc := 17) C.1 (some t) dX9_faulty_17 rfl rfl ?_
  refine gI_RX9_102 (pc := 18) C.1 (h.I 921 t) dX9_faulty_18 h0 rfl ?_
  refine st_bipush (pc := 21) (v := 32) C.1 dX9_faulty_21 (by decide) ?_
  refine st_irem (pc := 23) C.1 dX9_faulty_23 (by decide) ?_
  refine st_iload_n (pc := 24) C.1 dX9_faulty_24 rfl rfl ?_
  refine st_iastore (pc := 25) C.1 dX9_faulty_25 h5 h6 ?_
  refine st_aload_n (pc := 26) C.1 (some t) dX9_faulty_26 rfl rfl ?_
  refine st_dup (pc := 27) C.1 dX9_faulty_27 (rf_cat (some t)) ?_
  refine gI_RX9_102 (pc := 28) C.1 (h.I 921 t) dX9_faulty_28 h0 rfl ?_
  refine st_iconst (pc := 31) (v := 1) C.1 dX9_faulty_31 (by decide) ?_
  refine st_iadd (pc := 32) C.1 dX9_faulty_32 ?_
  refine pI_RX9_102 (pc := 33) C.1 dX9_faulty_33 h0 ?_
  exact rt_v C rfl dX9_faulty_36 hc hs ⟨rfl, k0⟩

theorem sgX9_takeFree_0 {X : CX} {d mc ms cells slots : Nat} {pp : Hp → Prop} {h : Hp} {t : Nat} {x1 : Int32}  (C : CmV X mX9_takeFree d mc ms pp) (h0 : h.K t = 10) (k0 : At X cells slots 12 [some (va_rf (some t)), some (.int x1), some (.int x1)] [] (h.sI 915 t ((h.I 915 t) - 1))) : At X cells slots 0 [some (va_rf (some t)), some (.int x1), none] [] h := by
  refine st_aload_n (pc := 0) C.1 (some t) dX9_takeFree_0 rfl rfl ?_
  refine st_dup (pc := 1) C.1 dX9_takeFree_1 (rf_cat (some t)) ?_
  refine gI_RX9_105 (pc := 2) C.1 (h.I 915 t) dX9_takeFree_2 h0 rfl ?_
  refine st_iconst (pc := 5) (v := 1) C.1 dX9_takeFree_5 (by decide) ?_
  refine st_isub (pc := 6) C.1 dX9_takeFree_6 ?_
  refine pI_RX9_105 (pc := 7) C.1 dX9_takeFree_7 h0 ?_
  refine st_iload_n (pc := 10) C.1 dX9_takeFree_10 rfl rfl ?_
  refine sv_istore_n (pc := 11) (i := 2) C.1 [some (va_rf (some t)), some (.int x1), some (.int x1)] dX9_takeFree_11 rfl (Nat.le_of_ble_eq_true rfl) (by rw [C.2.1]; exact Nat.le_of_ble_eq_true rfl) rfl rfl ?_
  exact k0

theorem sgX9_takeFree_12 {X : CX} {d mc ms cells slots : Nat} {pp : Hp → Prop} {h : Hp} {t : Nat} {x1 : Int32} {x2 : Int32} {r0 : Nat} {r1 : Nat} (C : CmV X mX9_takeFree d mc ms pp) (hc : cells ≤ mc) (hs : slots ≤ ms) (h0 : h.K t = 10) (h1 : h.R 913 t = some r0) (h2 : h.K r0 = 11) (h3 : ¬ h.I 915 t ≤ x2 → vp_in (x2 + 1) (h.N r0)) (h4 : ¬ h.I 915 t ≤ x2 → vp_in x2 (h.N r0)) (h5 : h.R 914 t = some r1) (h6 : h.K r1 = 11) (h7 : ¬ h.I 915 t ≤ x2 → vp_in (x2 + 1) (h.N r1)) (h8 : ¬ h.I 915 t ≤ x2 → vp_in x2 (h.N r1)) (k0 : h.I 915 t ≤ x2 → pp h) (k1 : ¬ h.I 915 t ≤ x2 → At X cells slots 12 [some (va_rf (some t)), some (.int x1), some (.int (x2 + 1))] [] ((h.sAI r0 (x2.toNatClampNeg) (h.AI r0 ((x2 + 1).toNatClampNeg))).sAI r1 (x2.toNatClampNeg) ((h.sAI r0 (x2.toNatClampNeg) (h.AI r0 ((x2 + 1).toNatClampNeg))).AI r1 ((x2 + 1).toNatClampNeg)))) : At X cells slots 12 [some (va_rf (some t)), some (.int x1), some (.int x2)] [] h := by
  refine st_iload_n (pc := 12) C.1 dX9_takeFree_12 rfl rfl ?_
  refine st_aload_n (pc := 13) C.1 (some t) dX9_takeFree_13 rfl rfl ?_
  refine gI_RX9_105 (pc := 14) C.1 (h.I 915 t) dX9_takeFree_14 h0 rfl ?_
  refine st_icmp_ge (pc := 17) (tgt := 54) C.1 dX9_takeFree_17 (by decide) (fun c0 => ?_) (fun c0 => ?_)
  · exact rt_v C rfl dX9_takeFree_54 hc hs ⟨rfl, (k0 c0)⟩
  · refine st_aload_n (pc := 20) C.1 (some t) dX9_takeFree_20 rfl rfl ?_
    refine gR_RX9_35 (pc := 21) C.1 (some r0) dX9_takeFree_21 h0 h1 ?_
    refine st_iload_n (pc := 24) C.1 dX9_takeFree_24 rfl rfl ?_
    refine st_aload_n (pc := 25) C.1 (some t) dX9_takeFree_25 rfl rfl ?_
    refine gR_RX9_35 (pc := 26) C.1 (some r0) dX9_takeFree_26 h0 h1 ?_
    refine st_iload_n (pc := 29) C.1 dX9_takeFree_29 rfl rfl ?_
    refine st_iconst (pc := 30) (v := 1) C.1 dX9_takeFree_30 (by decide) ?_
    refine st_iadd (pc := 31) C.1 dX9_takeFree_31 ?_
    refine sv_iaload (pc := 32) C.1 (h.AI r0 ((x2 + 1).toNatClampNeg)) dX9_takeFree_32 h2 (h3 c0) rfl ?_
    refine st_iastore (pc := 33) C.1 dX9_takeFree_33 h2 (h4 c0) ?_
    refine st_aload_n (pc := 34) C.1 (some t) dX9_takeFree_34 rfl rfl ?_
    refine gR_RX9_38 (pc := 35) C.1 (some r1) dX9_takeFree_35 h0 h5 ?_
    refine st_iload_n (pc := 38) C.1 dX9_takeFree_38 rfl rfl ?_
    refine st_aload_n (pc := 39) C.1 (some t) dX9_takeFree_39 rfl rfl ?_
    refine gR_RX9_38 (pc := 40) C.1 (some r1) dX9_takeFree_40 h0 h5 ?_
    refine st_iload_n (pc := 43) C.1 dX9_takeFree_43 rfl rfl ?_
    refine st_iconst (pc := 44) (v := 1) C.1 dX9_takeFree_44 (by decide) ?_
    refine st_iadd (pc := 45) C.1 dX9_takeFree_45 ?_
    refine sv_iaload (pc := 46) C.1 ((h.sAI r0 (x2.toNatClampNeg) (h.AI r0 ((x2 + 1).toNatClampNeg))).AI r1 ((x2 + 1).toNatClampNeg)) dX9_takeFree_46 h6 (h7 c0) rfl ?_
    refine st_iastore (pc := 47) C.1 dX9_takeFree_47 h6 (h8 c0) ?_
    refine sv_iinc (pc := 48) (i := 2) (v := x2 + 1) C.1 [some (va_rf (some t)), some (.int x1), some (.int (x2 + 1))] dX9_takeFree_48 rfl rfl (by rw [C.2.1]; exact Nat.le_of_ble_eq_true rfl) rfl rfl ?_
    refine st_goto (pc := 51) (tgt := 12) C.1 dX9_takeFree_51 (by decide) ?_
    exact (k1 c0)

theorem sgX9_addFree_0 {X : CX} {d mc ms cells slots : Nat} {pp : Hp → Prop} {h : Hp} {t : Nat} {x1 : Int32} {x2 : Int32} {r0 : Nat} {r1 : Nat} (C : CmV X mX9_addFree d mc ms pp) (hc : cells ≤ mc) (hs : slots ≤ ms) (h0 : h.K t = 10) (h1 : h.R 913 t = some r0) (h2 : h.K r0 = 11) (h3 : vp_in (h.I 915 t) (h.N r0)) (h4 : h.R 914 t = some r1) (h5 : h.K r1 = 11) (h6 : vp_in (h.I 915 t) (h.N r1)) (k0 : pp (((h.sAI r0 ((h.I 915 t).toNatClampNeg) x1).sAI r1 ((h.I 915 t).toNatClampNeg) x2).sI 915 t ((h.I 915 t) + 1))) : At X cells slots 0 [some (va_rf (some t)), some (.int x1), some (.int x2)] [] h := by
  refine st_aload_n (pc := 0) C.1 (some t) dX9_addFree_0 rfl rfl ?_
  refine gR_RX9_35 (pc := 1) C.1 (some r0) dX9_addFree_1 h0 h1 ?_
  refine st_aload_n (pc := 4) C.1 (some t) dX9_addFree_4 rfl rfl ?_
  refine gI_RX9_105 (pc := 5) C.1 (h.I 915 t) dX9_addFree_5 h0 rfl ?_
  refine st_iload_n (pc := 8) C.1 dX9_addFree_8 rfl rfl ?_
  refine st_iastore (pc := 9) C.1 dX9_addFree_9 h2 h3 ?_
  refine st_aload_n (pc := 10) C.1 (some t) dX9_addFree_10 rfl rfl ?_
  refine gR_RX9_38 (pc := 11) C.1 (some r1) dX9_addFree_11 h0 h4 ?_
  refine st_aload_n (pc := 14) C.1 (some t) dX9_addFree_14 rfl rfl ?_
  refine gI_RX9_105 (pc := 15) C.1 (h.I 915 t) dX9_addFree_15 h0 rfl ?_
  refine st_iload_n (pc := 18) C.1 dX9_addFree_18 rfl rfl ?_
  refine st_iastore (pc := 19) C.1 dX9_addFree_19 h5 h6 ?_
  refine st_aload_n (pc := 20) C.1 (some t) dX9_addFree_20 rfl rfl ?_
  refine st_dup (pc := 21) C.1 dX9_addFree_21 (rf_cat (some t)) ?_
  refine gI_RX9_105 (pc := 22) C.1 (h.I 915 t) dX9_addFree_22 h0 rfl ?_
  refine st_iconst (pc := 25) (v := 1) C.1 dX9_addFree_25 (by decide) ?_
  refine st_iadd (pc := 26) C.1 dX9_addFree_26 ?_
  refine pI_RX9_105 (pc := 27) C.1 dX9_addFree_27 h0 ?_
  exact rt_v C rfl dX9_addFree_30 hc hs ⟨rfl, k0⟩

theorem sgX9_greatBeside_0 {X : CX} {d mc ms cells slots : Nat} {pp : Int32 → Hp → Prop} {h : Hp} {t : Nat} {x1 : Int32} {x2 : Int32}  (C : CmI X mX9_greatBeside d mc ms pp)  (k0 : At X cells slots 2 [some (va_rf (some t)), some (.int x1), some (.int x2), some (.int 0)] [] h) : At X cells slots 0 [some (va_rf (some t)), some (.int x1), some (.int x2), none] [] h := by
  refine st_iconst (pc := 0) (v := 0) C.1 dX9_greatBeside_0 (by decide) ?_
  refine sv_istore_n (pc := 1) (i := 3) C.1 [some (va_rf (some t)), some (.int x1), some (.int x2), some (.int 0)] dX9_greatBeside_1 rfl (Nat.le_of_ble_eq_true rfl) (by rw [C.2.1]; exact Nat.le_of_ble_eq_true rfl) rfl rfl ?_
  exact k0

theorem sgX9_greatBeside_2 {X : CX} {d mc ms cells slots : Nat} {pp : Int32 → Hp → Prop} {h : Hp} {t : Nat} {x1 : Int32} {x2 : Int32} {x3 : Int32} {r0 : Nat} {r1 : Nat} (C : CmI X mX9_greatBeside d mc ms pp) (hc : cells ≤ mc) (hs : slots ≤ ms) (h0 : h.K t = 10) (h1 : h.R 914 t = some r0) (h2 : h.K r0 = 11) (h3 : ¬ h.I 915 t ≤ x3 → vp_in x3 (h.N r0)) (h4 : h.R 913 t = some r1) (h5 : h.K r1 = 11) (h6 : ¬ h.I 915 t ≤ x3 → ¬ h.AI r0 (x3.toNatClampNeg) ≤ 64 → vp_in x3 (h.N r1)) (h7 : ¬ h.I 915 t ≤ x3 → ¬ h.AI r0 (x3.toNatClampNeg) ≤ 64 → ¬ x2 = 0 → vp_in x3 (h.N r0)) (k0 : h.I 915 t ≤ x3 → pp (-1) h) (k1 : ¬ h.I 915 t ≤ x3 → h.AI r0 (x3.toNatClampNeg) ≤ 64 → At X cells slots 2 [some (va_rf (some t)), some (.int x1), some (.int x2), some (.int (x3 + 1))] [] h) (k2 : ¬ h.I 915 t ≤ x3 → ¬ h.AI r0 (x3.toNatClampNeg) ≤ 64 → x2 = 0 → ¬ (h.AI r1 (x3.toNatClampNeg)) + 0 = x1 → At X cells slots 2 [some (va_rf (some t)), some (.int x1), some (.int x2), some (.int (x3 + 1))] [] h) (k3 : ¬ h.I 915 t ≤ x3 → ¬ h.AI r0 (x3.toNatClampNeg) ≤ 64 → x2 = 0 → (h.AI r1 (x3.toNatClampNeg)) + 0 = x1 → pp x3 h) (k4 : ¬ h.I 915 t ≤ x3 → ¬ h.AI r0 (x3.toNatClampNeg) ≤ 64 → ¬ x2 = 0 → ¬ (h.AI r1 (x3.toNatClampNeg)) + (h.AI r0 (x3.toNatClampNeg)) = x1 → At X cells slots 2 [some (va_rf (some t)), some (.int x1), some (.int x2), some (.int (x3 + 1))] [] h) (k5 : ¬ h.I 915 t ≤ x3 → ¬ h.AI r0 (x3.toNatClampNeg) ≤ 64 → ¬ x2 = 0 → (h.AI r1 (x3.toNatClampNeg)) + (h.AI r0 (x3.toNatClampNeg)) = x1 → pp x3 h) : At X cells slots 2 [some (va_rf (some t)), some (.int x1), some (.int x2), some (.int x3)] [] h := by
  refine st_iload_n (pc := 2) C.1 dX9_greatBeside_2 rfl rfl ?_
  refine st_aload_n (pc := 3) C.1 (some t) dX9_greatBeside_3 rfl rfl ?_
  refine gI_RX9_105 (pc := 4) C.1 (h.I 915 t) dX9_greatBeside_4 h0 rfl ?_
  refine st_icmp_ge (pc := 7) (tgt := 54) C.1 dX9_greatBeside_7 (by decide) (fun c0 => ?_) (fun c0 => ?_)
  · refine st_iconst (pc := 54) (v := (-1)) C.1 dX9_greatBeside_54 (by decide) ?_
    exact rt_i C (Or.inl rfl) dX9_greatBeside_55 hc hs ⟨_, rfl, (k0 c0)⟩
  · refine st_aload_n (pc := 10) C.1 (some t) dX9_greatBeside_10 rfl rfl ?_
    refine gR_RX9_38 (pc := 11) C.1 (some r0) dX9_greatBeside_11 h0 h1 ?_
    refine st_iload_n (pc := 14) C.1 dX9_greatBeside_14 rfl rfl ?_
    refine sv_iaload (pc := 15) C.1 (h.AI r0 (x3.toNatClampNeg)) dX9_greatBeside_15 h2 (h3 c0) rfl ?_
    refine st_bipush (pc := 16) (v := 64) C.1 dX9_greatBeside_16 (by decide) ?_
    refine st_icmp_le (pc := 18) (tgt := 48) C.1 dX9_greatBeside_18 (by decide) (fun c1 => ?_) (fun c1 => ?_)
    · refine sv_iinc (pc := 48) (i := 3) (v := x3 + 1) C.1 [some (va_rf (some t)), some (.int x1), some (.int x2), some (.int (x3 + 1))] dX9_greatBeside_48 rfl rfl (by rw [C.2.1]; exact Nat.le_of_ble_eq_true rfl) rfl rfl ?_
      refine st_goto (pc := 51) (tgt := 2) C.1 dX9_greatBeside_51 (by decide) ?_
      exact (k1 c0 c1)
    · refine st_aload_n (pc := 21) C.1 (some t) dX9_greatBeside_21 rfl rfl ?_
      refine gR_RX9_35 (pc := 22) C.1 (some r1) dX9_greatBeside_22 h0 h4 ?_
      refine st_iload_n (pc := 25) C.1 dX9_greatBeside_25 rfl rfl ?_
      refine sv_iaload (pc := 26) C.1 (h.AI r1 (x3.toNatClampNeg)) dX9_greatBeside_26 h5 (h6 c0 c1) rfl ?_
      refine st_iload_n (pc := 27) C.1 dX9_greatBeside_27 rfl rfl ?_
      refine st_if_eq (pc := 28) (tgt := 40) C.1 dX9_greatBeside_28 (by decide) (fun c2 => ?_) (fun c2 => ?_)
      · refine st_iconst (pc := 40) (v := 0) C.1 dX9_greatBeside_40 (by decide) ?_
        refine st_iadd (pc := 41) C.1 dX9_greatBeside_41 ?_
        refine st_iload_n (pc := 42) C.1 dX9_greatBeside_42 rfl rfl ?_
        refine st_icmp_ne (pc := 43) (tgt := 48) C.1 dX9_greatBeside_43 (by decide) (fun c3 => ?_) (fun c3 => ?_)
        · refine sv_iinc (pc := 48) (i := 3) (v := x3 + 1) C.1 [some (va_rf (some t)), some (.int x1), some (.int x2), some (.int (x3 + 1))] dX9_greatBeside_48 rfl rfl (by rw [C.2.1]; exact Nat.le_of_ble_eq_true rfl) rfl rfl ?_
          refine st_goto (pc := 51) (tgt := 2) C.1 dX9_greatBeside_51 (by decide) ?_
          exact (k2 c0 c1 c2 c3)
        · refine st_iload_n (pc := 46) C.1 dX9_greatBeside_46 rfl rfl ?_
          exact rt_i C (Or.inl rfl) dX9_greatBeside_47 hc hs ⟨_, rfl, (k3 c0 c1 c2 c3)⟩
      · refine st_aload_n (pc := 31) C.1 (some t) dX9_greatBeside_31 rfl rfl ?_
        refine gR_RX9_38 (pc := 32) C.1 (some r0) dX9_greatBeside_32 h0 h1 ?_
        refine st_iload_n (pc := 35) C.1 dX9_greatBeside_35 rfl rfl ?_
        refine sv_iaload (pc := 36) C.1 (h.AI r0 (x3.toNatClampNeg)) dX9_greatBeside_36 h2 (h7 c0 c1 c2) rfl ?_
        refine st_goto (pc := 37) (tgt := 41) C.1 dX9_greatBeside_37 (by decide) ?_
        refine st_iadd (pc := 41) C.1 dX9_greatBeside_41 ?_
        refine st_iload_n (pc := 42) C.1 dX9_greatBeside_42 rfl rfl ?_
        refine st_icmp_ne (pc := 43) (tgt := 48) C.1 dX9_greatBeside_43 (by decide) (fun c4 => ?_) (fun c4 => ?_)
        · refine sv_iinc (pc := 48) (i := 3) (v := x3 + 1) C.1 [some (va_rf (some t)), some (.int x1), some (.int x2), some (.int (x3 + 1))] dX9_greatBeside_48 rfl rfl (by rw [C.2.1]; exact Nat.le_of_ble_eq_true rfl) rfl rfl ?_
          refine st_goto (pc := 51) (tgt := 2) C.1 dX9_greatBeside_51 (by decide) ?_
          exact (k4 c0 c1 c2 c4)
        · refine st_iload_n (pc := 46) C.1 dX9_greatBeside_46 rfl rfl ?_
          exact rt_i C (Or.inl rfl) dX9_greatBeside_47 hc hs ⟨_, rfl, (k5 c0 c1 c2 c4)⟩

theorem sgX9_release_0 {X : CX} {d mc ms cells slots : Nat} {pp : Hp → Prop} {h : Hp} {t : Nat} {x1 : Int32} {x2 : Int32}  (C : CmV X mX9_release d mc ms pp)  (k0 : 64 < x2 → At X cells slots 23 [some (va_rf (some t)), some (.int x1), some (.int x2), some (.int x1), some (.int x2), none] [.int 1, .int x1, va_rf (some t)] h) (k1 : ¬ 64 < x2 → At X cells slots 16 [some (va_rf (some t)), some (.int x1), some (.int x2), some (.int x1), some (.int x2), none] [.int x2, .int x1, va_rf (some t)] h) : At X cells slots 0 [some (va_rf (some t)), some (.int x1), some (.int x2), none, none, none] [] h := by
  refine st_iload_n (pc := 0) C.1 dX9_release_0 rfl rfl ?_
  refine sv_istore_n (pc := 1) (i := 3) C.1 [some (va_rf (some t)), some (.int x1), some (.int x2), some (.int x1), none, none] dX9_release_1 rfl (Nat.le_of_ble_eq_true rfl) (by rw [C.2.1]; exact Nat.le_of_ble_eq_true rfl) rfl rfl ?_
  refine st_iload_n (pc := 2) C.1 dX9_release_2 rfl rfl ?_
  refine sv_istore (pc := 3) (i := 4) C.1 [some (va_rf (some t)), some (.int x1), some (.int x2), some (.int x1), some (.int x2), none] dX9_release_3 (Nat.le_of_ble_eq_true rfl) (by rw [C.2.1]; exact Nat.le_of_ble_eq_true rfl) rfl rfl ?_
  refine st_iload (pc := 5) C.1 dX9_release_5 rfl ?_
  refine st_bipush (pc := 7) (v := 64) C.1 dX9_release_7 (by decide) ?_
  refine st_icmp_gt (pc := 9) (tgt := 20) C.1 dX9_release_9 (by decide) (fun c0 => ?_) (fun c0 => ?_)
  · refine st_aload_n (pc := 20) C.1 (some t) dX9_release_20 rfl rfl ?_
    refine st_iload_n (pc := 21) C.1 dX9_release_21 rfl rfl ?_
    refine st_iconst (pc := 22) (v := 1) C.1 dX9_release_22 (by decide) ?_
    exact (k0 c0)
  · refine st_aload_n (pc := 12) C.1 (some t) dX9_release_12 rfl rfl ?_
    refine st_iload_n (pc := 13) C.1 dX9_release_13 rfl rfl ?_
    refine st_iload (pc := 14) C.1 dX9_release_14 rfl ?_
    exact (k1 c0)

theorem sgX9_release_19 {X : CX} {d mc ms cells slots : Nat} {pp : Hp → Prop} {h : Hp} {t : Nat} {x1 : Int32} {x2 : Int32} {x3 : Int32} {x4 : Int32}  (C : CmV X mX9_release d mc ms pp) (hc : cells ≤ mc) (hs : slots ≤ ms)  (k0 : pp h) : At X cells slots 19 [some (va_rf (some t)), some (.int x1), some (.int x2), some (.int x3), some (.int x4), none] [] h := by
  exact rt_v C rfl dX9_release_19 hc hs ⟨rfl, k0⟩

theorem sgX9_release_26 {X : CX} {d mc ms cells slots : Nat} {pp : Hp → Prop} {h : Hp} {t : Nat} {x1 : Int32} {x2 : Int32} {x3 : Int32} {x4 : Int32} {u0 : Int32} {r0 : Nat} {r1 : Nat} (C : CmV X mX9_release d mc ms pp) (h0 : h.K t = 10) (h1 : h.R 913 t = some r0) (h2 : h.K r0 = 11) (h3 : ¬ u0 = (-1) → vp_in u0 (h.N r0)) (h4 : h.R 914 t = some r1) (h5 : h.K r1 = 11) (h6 : ¬ u0 = (-1) → vp_in u0 (h.N r1)) (k0 : u0 = (-1) → At X cells slots 76 [some (va_rf (some t)), some (.int x1), some (.int x2), some (.int x3), some (.int x4), some (.int u0)] [.int 0, .int (x3 + x4), va_rf (some t)] h) (k1 : ¬ u0 = (-1) → At X cells slots 57 [some (va_rf (some t)), some (.int x1), some (.int x2), some (.int (h.AI r0 (u0.toNatClampNeg))), some (.int (x4 + (h.AI r1 (u0.toNatClampNeg)))), some (.int u0)] [.int u0, va_rf (some t)] h) : At X cells slots 26 [some (va_rf (some t)), some (.int x1), some (.int x2), some (.int x3), some (.int x4), none] [.int u0] h := by
  refine sv_istore (pc := 26) (i := 5) C.1 [some (va_rf (some t)), some (.int x1), some (.int x2), some (.int x3), some (.int x4), some (.int u0)] dX9_release_26 (Nat.le_of_ble_eq_true rfl) (by rw [C.2.1]; exact Nat.le_of_ble_eq_true rfl) rfl rfl ?_
  refine st_iload (pc := 28) C.1 dX9_release_28 rfl ?_
  refine st_iconst (pc := 30) (v := (-1)) C.1 dX9_release_30 (by decide) ?_
  refine st_icmp_eq (pc := 31) (tgt := 70) C.1 dX9_release_31 (by decide) (fun c0 => ?_) (fun c0 => ?_)
  · refine st_aload_n (pc := 70) C.1 (some t) dX9_release_70 rfl rfl ?_
    refine st_iload_n (pc := 71) C.1 dX9_release_71 rfl rfl ?_
    refine st_iload (pc := 72) C.1 dX9_release_72 rfl ?_
    refine st_iadd (pc := 74) C.1 dX9_release_74 ?_
    refine st_iconst (pc := 75) (v := 0) C.1 dX9_release_75 (by decide) ?_
    exact (k0 c0)
  · refine st_aload_n (pc := 34) C.1 (some t) dX9_release_34 rfl rfl ?_
    refine gR_RX9_35 (pc := 35) C.1 (some r0) dX9_release_35 h0 h1 ?_
    refine st_iload (pc := 38) C.1 dX9_release_38 rfl ?_
    refine sv_iaload (pc := 40) C.1 (h.AI r0 (u0.toNatClampNeg)) dX9_release_40 h2 (h3 c0) rfl ?_
    refine sv_istore_n (pc := 41) (i := 3) C.1 [some (va_rf (some t)), some (.int x1), some (.int x2), some (.int (h.AI r0 (u0.toNatClampNeg))), some (.int x4), some (.int u0)] dX9_release_41 rfl (Nat.le_of_ble_eq_true rfl) (by rw [C.2.1]; exact Nat.le_of_ble_eq_true rfl) rfl rfl ?_
    refine st_iload (pc := 42) C.1 dX9_release_42 rfl ?_
    refine st_aload_n (pc := 44) C.1 (some t) dX9_release_44 rfl rfl ?_
    refine gR_RX9_38 (pc := 45) C.1 (some r1) dX9_release_45 h0 h4 ?_
    refine st_iload (pc := 48) C.1 dX9_release_48 rfl ?_
    refine sv_iaload (pc := 50) C.1 (h.AI r1 (u0.toNatClampNeg)) dX9_release_50 h5 (h6 c0) rfl ?_
    refine st_iadd (pc := 51) C.1 dX9_release_51 ?_
    refine sv_istore (pc := 52) (i := 4) C.1 [some (va_rf (some t)), some (.int x1), some (.int x2), some (.int (h.AI r0 (u0.toNatClampNeg))), some (.int (x4 + (h.AI r1 (u0.toNatClampNeg)))), some (.int u0)] dX9_release_52 (Nat.le_of_ble_eq_true rfl) (by rw [C.2.1]; exact Nat.le_of_ble_eq_true rfl) rfl rfl ?_
    refine st_aload_n (pc := 54) C.1 (some t) dX9_release_54 rfl rfl ?_
    refine st_iload (pc := 55) C.1 dX9_release_55 rfl ?_
    exact (k1 c0)

theorem sgX9_release_60 {X : CX} {d mc ms cells slots : Nat} {pp : Hp → Prop} {h : Hp} {t : Nat} {x1 : Int32} {x2 : Int32} {x3 : Int32} {x4 : Int32} {x5 : Int32}  (C : CmV X mX9_release d mc ms pp) (h0 : h.K t = 10) (k0 : At X cells slots 76 [some (va_rf (some t)), some (.int x1), some (.int x2), some (.int x3), some (.int x4), some (.int x5)] [.int 0, .int (x3 + x4), va_rf (some t)] (h.sI 920 t ((h.I 920 t) + 1))) : At X cells slots 60 [some (va_rf (some t)), some (.int x1), some (.int x2), some (.int x3), some (.int x4), some (.int x5)] [] h := by
  refine st_aload_n (pc := 60) C.1 (some t) dX9_release_60 rfl rfl ?_
  refine st_dup (pc := 61) C.1 dX9_release_61 (rf_cat (some t)) ?_
  refine gI_RX9_120 (pc := 62) C.1 (h.I 920 t) dX9_release_62 h0 rfl ?_
  refine st_iconst (pc := 65) (v := 1) C.1 dX9_release_65 (by decide) ?_
  refine st_iadd (pc := 66) C.1 dX9_release_66 ?_
  refine pI_RX9_120 (pc := 67) C.1 dX9_release_67 h0 ?_
  refine st_aload_n (pc := 70) C.1 (some t) dX9_release_70 rfl rfl ?_
  refine st_iload_n (pc := 71) C.1 dX9_release_71 rfl rfl ?_
  refine st_iload (pc := 72) C.1 dX9_release_72 rfl ?_
  refine st_iadd (pc := 74) C.1 dX9_release_74 ?_
  refine st_iconst (pc := 75) (v := 0) C.1 dX9_release_75 (by decide) ?_
  exact k0

theorem sgX9_release_79 {X : CX} {d mc ms cells slots : Nat} {pp : Hp → Prop} {h : Hp} {t : Nat} {x1 : Int32} {x2 : Int32} {x3 : Int32} {x4 : Int32} {x5 : Int32} {u0 : Int32} {r0 : Nat} (C : CmV X mX9_release d mc ms pp) (hc : cells ≤ mc) (hs : slots ≤ ms) (h0 : h.K t = 10) (h1 : h.R 914 t = some r0) (h2 : h.K r0 = 11) (h3 : ¬ u0 = (-1) → vp_in u0 (h.N r0)) (k0 : u0 = (-1) → ¬ x3 + x4 = h.I 905 t → At X cells slots 138 [some (va_rf (some t)), some (.int x1), some (.int x2), some (.int x3), some (.int x4), some (.int u0)] [.int x4, .int x3, va_rf (some t)] h) (k1 : u0 = (-1) → x3 + x4 = h.I 905 t → pp (h.sI 905 t x3)) (k2 : ¬ u0 = (-1) → At X cells slots 102 [some (va_rf (some t)), some (.int x1), some (.int x2), some (.int x3), some (.int (x4 + (h.AI r0 (u0.toNatClampNeg)))), some (.int u0)] [.int u0, va_rf (some t)] h) : At X cells slots 79 [some (va_rf (some t)), some (.int x1), some (.int x2), some (.int x3), some (.int x4), some (.int x5)] [.int u0] h := by
  refine sv_istore (pc := 79) (i := 5) C.1 [some (va_rf (some t)), some (.int x1), some (.int x2), some (.int x3), some (.int x4), some (.int u0)] dX9_release_79 (Nat.le_of_ble_eq_true rfl) (by rw [C.2.1]; exact Nat.le_of_ble_eq_true rfl) rfl rfl ?_
  refine st_iload (pc := 81) C.1 dX9_release_81 rfl ?_
  refine st_iconst (pc := 83) (v := (-1)) C.1 dX9_release_83 (by decide) ?_
  refine st_icmp_eq (pc := 84) (tgt := 115) C.1 dX9_release_84 (by decide) (fun c0 => ?_) (fun c0 => ?_)
  · refine st_iload_n (pc := 115) C.1 dX9_release_115 rfl rfl ?_
    refine st_iload (pc := 116) C.1 dX9_release_116 rfl ?_
    refine st_iadd (pc := 118) C.1 dX9_release_118 ?_
    refine st_aload_n (pc := 119) C.1 (some t) dX9_release_119 rfl rfl ?_
    refine gI_RX9_13 (pc := 120) C.1 (h.I 905 t) dX9_release_120 h0 rfl ?_
    refine st_icmp_ne (pc := 123) (tgt := 134) C.1 dX9_release_123 (by decide) (fun c1 => ?_) (fun c1 => ?_)
    · refine st_aload_n (pc := 134) C.1 (some t) dX9_release_134 rfl rfl ?_
      refine st_iload_n (pc := 135) C.1 dX9_release_135 rfl rfl ?_
      refine st_iload (pc := 136) C.1 dX9_release_136 rfl ?_
      exact (k0 c0 c1)
    · refine st_aload_n (pc := 126) C.1 (some t) dX9_release_126 rfl rfl ?_
      refine st_iload_n (pc := 127) C.1 dX9_release_127 rfl rfl ?_
      refine pI_RX9_13 (pc := 128) C.1 dX9_release_128 h0 ?_
      refine st_goto (pc := 131) (tgt := 141) C.1 dX9_release_131 (by decide) ?_
      exact rt_v C rfl dX9_release_141 hc hs ⟨rfl, (k1 c0 c1)⟩
  · refine st_iload (pc := 87) C.1 dX9_release_87 rfl ?_
    refine st_aload_n (pc := 89) C.1 (some t) dX9_release_89 rfl rfl ?_
    refine gR_RX9_38 (pc := 90) C.1 (some r0) dX9_release_90 h0 h1 ?_
    refine st_iload (pc := 93) C.1 dX9_release_93 rfl ?_
    refine sv_iaload (pc := 95) C.1 (h.AI r0 (u0.toNatClampNeg)) dX9_release_95 h2 (h3 c0) rfl ?_
    refine st_iadd (pc := 96) C.1 dX9_release_96 ?_
    refine sv_istore (pc := 97) (i := 4) C.1 [some (va_rf (some t)), some (.int x1), some (.int x2), some (.int x3), some (.int (x4 + (h.AI r0 (u0.toNatClampNeg)))), some (.int u0)] dX9_release_97 (Nat.le_of_ble_eq_true rfl) (by rw [C.2.1]; exact Nat.le_of_ble_eq_true rfl) rfl rfl ?_
    refine st_aload_n (pc := 99) C.1 (some t) dX9_release_99 rfl rfl ?_
    refine st_iload (pc := 100) C.1 dX9_release_100 rfl ?_
    exact (k2 c0)

theorem sgX9_release_105 {X : CX} {d mc ms cells slots : Nat} {pp : Hp → Prop} {h : Hp} {t : Nat} {x1 : Int32} {x2 : Int32} {x3 : Int32} {x4 : Int32} {x5 : Int32}  (C : CmV X mX9_release d mc ms pp) (hc : cells ≤ mc) (hs : slots ≤ ms) (h0 : h.K t = 10) (k0 : ¬ x3 + x4 = h.I 905 t → At X cells slots 138 [some (va_rf (some t)), some (.int x1), some (.int x2), some (.int x3), some (.int x4), some (.int x5)] [.int x4, .int x3, va_rf (some t)] (h.sI 920 t ((h.I 920 t) + 1))) (k1 : x3 + x4 = h.I 905 t → pp ((h.sI 920 t ((h.I 920 t) + 1)).sI 905 t x3)) : At X cells slots 105 [some (va_rf (some t)), some (.int x1), some (.int x2), some (.int x3), some (.int x4), some (.int x5)] [] h := by
  refine st_aload_n (pc := 105) C.1 (some t) dX9_release_105 rfl rfl ?_
  refine st_dup (pc := 106) C.1 dX9_release_106 (rf_cat (some t)) ?_
  refine gI_RX9_120 (pc := 107) C.1 (h.I 920 t) dX9_release_107 h0 rfl ?_
  refine st_iconst (pc := 110) (v := 1) C.1 dX9_release_110 (by decide) ?_
  refine st_iadd (pc := 111) C.1 dX9_release_111 ?_
  refine pI_RX9_120 (pc := 112) C.1 dX9_release_112 h0 ?_
  refine st_iload_n (pc := 115) C.1 dX9_release_115 rfl rfl ?_
  refine st_iload (pc := 116) C.1 dX9_release_116 rfl ?_
  refine st_iadd (pc := 118) C.1 dX9_release_118 ?_
  refine st_aload_n (pc := 119) C.1 (some t) dX9_release_119 rfl rfl ?_
  refine gI_RX9_13 (pc := 120) C.1 (h.I 905 t) dX9_release_120 h0 rfl ?_
  refine st_icmp_ne (pc := 123) (tgt := 134) C.1 dX9_release_123 (by decide) (fun c0 => ?_) (fun c0 => ?_)
  · refine st_aload_n (pc := 134) C.1 (some t) dX9_release_134 rfl rfl ?_
    refine st_iload_n (pc := 135) C.1 dX9_release_135 rfl rfl ?_
    refine st_iload (pc := 136) C.1 dX9_release_136 rfl ?_
    exact (k0 c0)
  · refine st_aload_n (pc := 126) C.1 (some t) dX9_release_126 rfl rfl ?_
    refine st_iload_n (pc := 127) C.1 dX9_release_127 rfl rfl ?_
    refine pI_RX9_13 (pc := 128) C.1 dX9_release_128 h0 ?_
    refine st_goto (pc := 131) (tgt := 141) C.1 dX9_release_131 (by decide) ?_
    exact rt_v C rfl dX9_release_141 hc hs ⟨rfl, (k1 c0)⟩

theorem sgX9_release_141 {X : CX} {d mc ms cells slots : Nat} {pp : Hp → Prop} {h : Hp} {t : Nat} {x1 : Int32} {x2 : Int32} {x3 : Int32} {x4 : Int32} {x5 : Int32}  (C : CmV X mX9_release d mc ms pp) (hc : cells ≤ mc) (hs : slots ≤ ms)  (k0 : pp h) : At X cells slots 141 [some (va_rf (some t)), some (.int x1), some (.int x2), some (.int x3), some (.int x4), some (.int x5)] [] h := by
  exact rt_v C rfl dX9_release_141 hc hs ⟨rfl, k0⟩

theorem clX9_release_16 {X : CX} {d0 mc0 ms0 d mc ms cells slots : Nat} {pp : Hp → Prop} {h : Hp} {ls : List (Option Value)} {rest : List Value} {b : Nat} {a0 a1 : Value} {post : Hp → Prop} (C : CmV X mX9_release d0 mc0 ms0 pp) (hct : CtV mX9_addFree d mc ms [va_rf (some b), a0, a1] h post) (hK : h.K b = 10) (hdd : d < d0) (hmc : cells + mc ≤ mc0) (hms : slots + ms ≤ ms0) (hcat : (rest.map fun v => v.category).sum ≤ 8) (kk : ∀ h', post h' → At X (cells + mc) (slots + ms) 19 ls rest h') : At X cells slots 16 ls (a1 :: a0 :: va_rf (some b) :: rest) h :=
  st_callV (pc := 16) (M := mX9_addFree) (idx := 108) (As := [a0, a1]) C.1 C.2.2.1 C.2.2.2.2.2.2 ⟨wM_RX9_108, wC_X9_addFree, wI_RX9, by decide +kernel, by decide⟩ wV_X9_addFree wS_X9_addFree (ci := 9) (n := 2) rfl rfl (by decide) dX9_release_16 rfl hdd hcat hK hct hmc hms (fun v h2 hp => by obtain ⟨rfl, hp⟩ := hp; exact kk h2 hp)
theorem clX9_release_23 {X : CX} {d0 mc0 ms0 d mc ms cells slots : Nat} {pp : Hp → Prop} {h : Hp} {ls : List (Option Value)} {rest : List Value} {b : Nat} {a0 a1 : Value} {post : Int32 → Hp → Prop} (C : CmV X mX9_release d0 mc0 ms0 pp) (hct : CtI mX9_greatBeside d mc ms [va_rf (some b), a0, a1] h post) (hK : h.K b = 10) (hdd : d < d0) (hmc : cells + mc ≤ mc0) (hms : slots + ms ≤ ms0) (hcat : (rest.map fun v => v.category).sum ≤ 8) (kk : ∀ r h', post r h' → At X (cells + mc) (slots + ms) 26 ls (.int r :: rest) h') : At X cells slots 23 ls (a1 :: a0 :: va_rf (some b) :: rest) h :=
  st_callV (pc := 23) (M := mX9_greatBeside) (idx := 112) (As := [a0, a1]) C.1 C.2.2.1 C.2.2.2.2.2.2 ⟨wM_RX9_112, wC_X9_greatBeside, wI_RX9, by decide +kernel, by decide⟩ wV_X9_greatBeside wS_X9_greatBeside (ci := 9) (n := 2) rfl rfl (by decide) dX9_release_23 rfl hdd hcat hK hct hmc hms (fun v h2 hp => by obtain ⟨r, rfl, hp⟩ := hp; exact kk r h2 hp)
theorem clX9_release_57 {X : CX} {d0 mc0 ms0 d mc ms cells slots : Nat} {pp : Hp → Prop} {h : Hp} {ls : List (Option Value)} {rest : List Value} {b : Nat} {a0 : Value} {post : Hp → Prop} (C : CmV X mX9_release d0 mc0 ms0 pp) (hct : CtV mX9_takeFree d mc ms [va_rf (some b), a0] h post) (hK : h.K b = 10) (hdd : d < d0) (hmc : cells + mc ≤ mc0) (hms : slots + ms ≤ ms0) (hcat : (rest.map fun v => v.category).sum ≤ 8) (kk : ∀ h', post h' → At X (cells + mc) (slots + ms) 60 ls rest h') : At X cells slots 57 ls (a0 :: va_rf (some b) :: rest) h :=
  st_callV (pc := 57) (M := mX9_takeFree) (idx := 116) (As := [a0]) C.1 C.2.2.1 C.2.2.2.2.2.2 ⟨wM_RX9_116, wC_X9_takeFree, wI_RX9, by decide +kernel, by decide⟩ wV_X9_takeFree wS_X9_takeFree (ci := 9) (n := 1) rfl rfl (by decide) dX9_release_57 rfl hdd hcat hK hct hmc hms (fun v h2 hp => by obtain ⟨rfl, hp⟩ := hp; exact kk h2 hp)
theorem clX9_release_76 {X : CX} {d0 mc0 ms0 d mc ms cells slots : Nat} {pp : Hp → Prop} {h : Hp} {ls : List (Option Value)} {rest : List Value} {b : Nat} {a0 a1 : Value} {post : Int32 → Hp → Prop} (C : CmV X mX9_release d0 mc0 ms0 pp) (hct : CtI mX9_greatBeside d mc ms [va_rf (some b), a0, a1] h post) (hK : h.K b = 10) (hdd : d < d0) (hmc : cells + mc ≤ mc0) (hms : slots + ms ≤ ms0) (hcat : (rest.map fun v => v.category).sum ≤ 8) (kk : ∀ r h', post r h' → At X (cells + mc) (slots + ms) 79 ls (.int r :: rest) h') : At X cells slots 76 ls (a1 :: a0 :: va_rf (some b) :: rest) h :=
  st_callV (pc := 76) (M := mX9_greatBeside) (idx := 112) (As := [a0, a1]) C.1 C.2.2.1 C.2.2.2.2.2.2 ⟨wM_RX9_112, wC_X9_greatBeside, wI_RX9, by decide +kernel, by decide⟩ wV_X9_greatBeside wS_X9_greatBeside (ci := 9) (n := 2) rfl rfl (by decide) dX9_release_76 rfl hdd hcat hK hct hmc hms (fun v h2 hp => by obtain ⟨r, rfl, hp⟩ := hp; exact kk r h2 hp)
theorem clX9_release_102 {X : CX} {d0 mc0 ms0 d mc ms cells slots : Nat} {pp : Hp → Prop} {h : Hp} {ls : List (Option Value)} {rest : List Value} {b : Nat} {a0 : Value} {post : Hp → Prop} (C : CmV X mX9_release d0 mc0 ms0 pp) (hct : CtV mX9_takeFree d mc ms [va_rf (some b), a0] h post) (hK : h.K b = 10) (hdd : d < d0) (hmc : cells + mc ≤ mc0) (hms : slots + ms ≤ ms0) (hcat : (rest.map fun v => v.category).sum ≤ 8) (kk : ∀ h', post h' → At X (cells + mc) (slots + ms) 105 ls rest h') : At X cells slots 102 ls (a0 :: va_rf (some b) :: rest) h :=
  st_callV (pc := 102) (M := mX9_takeFree) (idx := 116) (As := [a0]) C.1 C.2.2.1 C.2.2.2.2.2.2 ⟨wM_RX9_116, wC_X9_takeFree, wI_RX9, by decide +kernel, by decide⟩ wV_X9_takeFree wS_X9_takeFree (ci := 9) (n := 1) rfl rfl (by decide) dX9_release_102 rfl hdd hcat hK hct hmc hms (fun v h2 hp => by obtain ⟨rfl, hp⟩ := hp; exact kk h2 hp)
theorem clX9_release_138 {X : CX} {d0 mc0 ms0 d mc ms cells slots : Nat} {pp : Hp → Prop} {h : Hp} {ls : List (Option Value)} {rest : List Value} {b : Nat} {a0 a1 : Value} {post : Hp → Prop} (C : CmV X mX9_release d0 mc0 ms0 pp) (hct : CtV mX9_addFree d mc ms [va_rf (some b), a0, a1] h post) (hK : h.K b = 10) (hdd : d < d0) (hmc : cells + mc ≤ mc0) (hms : slots + ms ≤ ms0) (hcat : (rest.map fun v => v.category).sum ≤ 8) (kk : ∀ h', post h' → At X (cells + mc) (slots + ms) 141 ls rest h') : At X cells slots 138 ls (a1 :: a0 :: va_rf (some b) :: rest) h :=
  st_callV (pc := 138) (M := mX9_addFree) (idx := 108) (As := [a0, a1]) C.1 C.2.2.1 C.2.2.2.2.2.2 ⟨wM_RX9_108, wC_X9_addFree, wI_RX9, by decide +kernel, by decide⟩ wV_X9_addFree wS_X9_addFree (ci := 9) (n := 2) rfl rfl (by decide) dX9_release_138 rfl hdd hcat hK hct hmc hms (fun v h2 hp => by obtain ⟨rfl, hp⟩ := hp; exact kk h2 hp)
theorem sgX9_fits_0 {X : CX} {d mc ms cells slots : Nat} {pp : Int32 → Hp → Prop} {h : Hp} {t : Nat} {x1 : Int32}  (C : CmI X mX9_fits d mc ms pp)  (k0 : At X cells slots 4 [some (va_rf (some t)), some (.int x1), some (.int (-1)), some (.int 0)] [] h) : At X cells slots 0 [some (va_rf (some t)), some (.int x1), none, none] [] h := by
  refine st_iconst (pc := 0) (v := (-1)) C.1 dX9_fits_0 (by decide) ?_
  refine sv_istore_n (pc := 1) (i := 2) C.1 [some (va_rf (some t)), some (.int x1), some (.int (-1)), none] dX9_fits_1 rfl (Nat.le_of_ble_eq_true rfl) (by rw [C.2.1]; exact Nat.le_of_ble_eq_true rfl) rfl rfl ?_
  refine st_iconst (pc := 2) (v := 0) C.1 dX9_fits_2 (by decide) ?_
  refine sv_istore_n (pc := 3) (i := 3) C.1 [some (va_rf (some t)), some (.int x1), some (.int (-1)), some (.int 0)] dX9_fits_3 rfl (Nat.le_of_ble_eq_true rfl) (by rw [C.2.1]; exact Nat.le_of_ble_eq_true rfl) rfl rfl ?_
  exact k0

theorem sgX9_fits_4 {X : CX} {d mc ms cells slots : Nat} {pp : Int32 → Hp → Prop} {h : Hp} {t : Nat} {x1 : Int32} {x2 : Int32} {x3 : Int32} {r0 : Nat} (C : CmI X mX9_fits d mc ms pp) (hc : cells ≤ mc) (hs : slots ≤ ms) (h0 : h.K t = 10) (h1 : h.R 914 t = some r0) (h2 : h.K r0 = 11) (h3 : ¬ h.I 915 t ≤ x3 → vp_in x3 (h.N r0)) (h4 : ¬ h.I 915 t ≤ x3 → ¬ h.AI r0 (x3.toNatClampNeg) < x1 → vp_in x3 (h.N r0)) (h5 : ¬ h.I 915 t ≤ x3 → ¬ h.AI r0 (x3.toNatClampNeg) < x1 → h.AI r0 (x3.toNatClampNeg) ≤ 64 → ¬ x2 = (-1) → vp_in x3 (h.N r0)) (h6 : ¬ h.I 915 t ≤ x3 → ¬ h.AI r0 (x3.toNatClampNeg) < x1 → h.AI r0 (x3.toNatClampNeg) ≤ 64 → ¬ x2 = (-1) → vp_in x2 (h.N r0)) (k0 : h.I 915 t ≤ x3 → x2 = (-1) → At X cells slots 73 [some (va_rf (some t)), some (.int x1), some (.int x2), some (.int 0)] [] h) (k1 : h.I 915 t ≤ x3 → ¬ x2 = (-1) → pp x2 h) (k2 : ¬ h.I 915 t ≤ x3 → h.AI r0 (x3.toNatClampNeg) < x1 → At X cells slots 4 [some (va_rf (some t)), some (.int x1), some (.int x2), some (.int (x3 + 1))] [] h) (k3 : ¬ h.I 915 t ≤ x3 → ¬ h.AI r0 (x3.toNatClampNeg) < x1 → h.AI r0 (x3.toNatClampNeg) ≤ 64 → x2 = (-1) → At X cells slots 4 [some (va_rf (some t)), some (.int x1), some (.int x3), some (.int (x3 + 1))] [] h) (k4 : ¬ h.I 915 t ≤ x3 → ¬ h.AI r0 (x3.toNatClampNeg) < x1 → h.AI r0 (x3.toNatClampNeg) ≤ 64 → ¬ x2 = (-1) → h.AI r0 (x2.toNatClampNeg) < h.AI r0 (x3.toNatClampNeg) → At X cells slots 4 [some (va_rf (some t)), some (.int x1), some (.int x2), some (.int (x3 + 1))] [] h) (k5 : ¬ h.I 915 t ≤ x3 → ¬ h.AI r0 (x3.toNatClampNeg) < x1 → h.AI r0 (x3.toNatClampNeg) ≤ 64 → ¬ x2 = (-1) → ¬ h.AI r0 (x2.toNatClampNeg) < h.AI r0 (x3.toNatClampNeg) → At X cells slots 4 [some (va_rf (some t)), some (.int x1), some (.int x3), some (.int (x3 + 1))] [] h) (k6 : ¬ h.I 915 t ≤ x3 → ¬ h.AI r0 (x3.toNatClampNeg) < x1 → ¬ h.AI r0 (x3.toNatClampNeg) ≤ 64 → At X cells slots 4 [some (va_rf (some t)), some (.int x1), some (.int x2), some (.int (x3 + 1))] [] h) : At X cells slots 4 [some (va_rf (some t)), some (.int x1), some (.int x2), some (.int x3)] [] h := by
  refine st_iload_n (pc := 4) C.1 dX9_fits_4 rfl rfl ?_
  refine st_aload_n (pc := 5) C.1 (some t) dX9_fits_5 rfl rfl ?_
  refine gI_RX9_105 (pc := 6) C.1 (h.I 915 t) dX9_fits_6 h0 rfl ?_
  refine st_icmp_ge (pc := 9) (tgt := 64) C.1 dX9_fits_9 (by decide) (fun c0 => ?_) (fun c0 => ?_)
  · refine st_iload_n (pc := 64) C.1 dX9_fits_64 rfl rfl ?_
    refine st_iconst (pc := 65) (v := (-1)) C.1 dX9_fits_65 (by decide) ?_
    refine st_icmp_eq (pc := 66) (tgt := 71) C.1 dX9_fits_66 (by decide) (fun c1 => ?_) (fun c1 => ?_)
    · refine st_iconst (pc := 71) (v := 0) C.1 dX9_fits_71 (by decide) ?_
      refine sv_istore_n (pc := 72) (i := 3) C.1 [some (va_rf (some t)), some (.int x1), some (.int x2), some (.int 0)] dX9_fits_72 rfl (Nat.le_of_ble_eq_true rfl) (by rw [C.2.1]; exact Nat.le_of_ble_eq_true rfl) rfl rfl ?_
      exact (k0 c0 c1)
    · refine st_iload_n (pc := 69) C.1 dX9_fits_69 rfl rfl ?_
      exact rt_i C (Or.inl rfl) dX9_fits_70 hc hs ⟨_, rfl, (k1 c0 c1)⟩
  · refine st_aload_n (pc := 12) C.1 (some t) dX9_fits_12 rfl rfl ?_
    refine gR_RX9_38 (pc := 13) C.1 (some r0) dX9_fits_13 h0 h1 ?_
    refine st_iload_n (pc := 16) C.1 dX9_fits_16 rfl rfl ?_
    refine sv_iaload (pc := 17) C.1 (h.AI r0 (x3.toNatClampNeg)) dX9_fits_17 h2 (h3 c0) rfl ?_
    refine st_iload_n (pc := 18) C.1 dX9_fits_18 rfl rfl ?_
    refine st_icmp_lt (pc := 19) (tgt := 58) C.1 dX9_fits_19 (by decide) (fun c2 => ?_) (fun c2 => ?_)
    · refine sv_iinc (pc := 58) (i := 3) (v := x3 + 1) C.1 [some (va_rf (some t)), some (.int x1), some (.int x2), some (.int (x3 + 1))] dX9_fits_58 rfl rfl (by rw [C.2.1]; exact Nat.le_of_ble_eq_true rfl) rfl rfl ?_
      refine st_goto (pc := 61) (tgt := 4) C.1 dX9_fits_61 (by decide) ?_
      exact (k2 c0 c2)
    · refine st_aload_n (pc := 22) C.1 (some t) dX9_fits_22 rfl rfl ?_
      refine gR_RX9_38 (pc := 23) C.1 (some r0) dX9_fits_23 h0 h1 ?_
      refine st_iload_n (pc := 26) C.1 dX9_fits_26 rfl rfl ?_
      refine sv_iaload (pc := 27) C.1 (h.AI r0 (x3.toNatClampNeg)) dX9_fits_27 h2 (h4 c0 c2) rfl ?_
      refine st_bipush (pc := 28) (v := 64) C.1 dX9_fits_28 (by decide) ?_
      refine st_icmp_le (pc := 30) (tgt := 36) C.1 dX9_fits_30 (by decide) (fun c3 => ?_) (fun c3 => ?_)
      · refine st_iload_n (pc := 36) C.1 dX9_fits_36 rfl rfl ?_
        refine st_iconst (pc := 37) (v := (-1)) C.1 dX9_fits_37 (by decide) ?_
        refine st_icmp_eq (pc := 38) (tgt := 56) C.1 dX9_fits_38 (by decide) (fun c4 => ?_) (fun c4 => ?_)
        · refine st_iload_n (pc := 56) C.1 dX9_fits_56 rfl rfl ?_
          refine sv_istore_n (pc := 57) (i := 2) C.1 [some (va_rf (some t)), some (.int x1), some (.int x3), some (.int x3)] dX9_fits_57 rfl (Nat.le_of_ble_eq_true rfl) (by rw [C.2.1]; exact Nat.le_of_ble_eq_true rfl) rfl rfl ?_
          refine sv_iinc (pc := 58) (i := 3) (v := x3 + 1) C.1 [some (va_rf (some t)), some (.int x1), some (.int x3), some (.int (x3 + 1))] dX9_fits_58 rfl rfl (by rw [C.2.1]; exact Nat.le_of_ble_eq_true rfl) rfl rfl ?_
          refine st_goto (pc := 61) (tgt := 4) C.1 dX9_fits_61 (by decide) ?_
          exact (k3 c0 c2 c3 c4)
        · refine st_aload_n (pc := 41) C.1 (some t) dX9_fits_41 rfl rfl ?_
          refine gR_RX9_38 (pc := 42) C.1 (some r0) dX9_fits_42 h0 h1 ?_
          refine st_iload_n (pc := 45) C.1 dX9_fits_45 rfl rfl ?_
          refine sv_iaload (pc := 46) C.1 (h.AI r0 (x3.toNatClampNeg)) dX9_fits_46 h2 (h5 c0 c2 c3 c4) rfl ?_
          refine st_aload_n (pc := 47) C.1 (some t) dX9_fits_47 rfl rfl ?_
          refine gR_RX9_38 (pc := 48) C.1 (some r0) dX9_fits_48 h0 h1 ?_
          refine st_iload_n (pc := 51) C.1 dX9_fits_51 rfl rfl ?_
          refine sv_iaload (pc := 52) C.1 (h.AI r0 (x2.toNatClampNeg)) dX9_fits_52 h2 (h6 c0 c2 c3 c4) rfl ?_
          refine st_icmp_gt (pc := 53) (tgt := 58) C.1 dX9_fits_53 (by decide) (fun c5 => ?_) (fun c5 => ?_)
          · refine sv_iinc (pc := 58) (i := 3) (v := x3 + 1) C.1 [some (va_rf (some t)), some (.int x1), some (.int x2), some (.int (x3 + 1))] dX9_fits_58 rfl rfl (by rw [C.2.1]; exact Nat.le_of_ble_eq_true rfl) rfl rfl ?_
            refine st_goto (pc := 61) (tgt := 4) C.1 dX9_fits_61 (by decide) ?_
            exact (k4 c0 c2 c3 c4 c5)
          · refine st_iload_n (pc := 56) C.1 dX9_fits_56 rfl rfl ?_
            refine sv_istore_n (pc := 57) (i := 2) C.1 [some (va_rf (some t)), some (.int x1), some (.int x3), some (.int x3)] dX9_fits_57 rfl (Nat.le_of_ble_eq_true rfl) (by rw [C.2.1]; exact Nat.le_of_ble_eq_true rfl) rfl rfl ?_
            refine sv_iinc (pc := 58) (i := 3) (v := x3 + 1) C.1 [some (va_rf (some t)), some (.int x1), some (.int x3), some (.int (x3 + 1))] dX9_fits_58 rfl rfl (by rw [C.2.1]; exact Nat.le_of_ble_eq_true rfl) rfl rfl ?_
            refine st_goto (pc := 61) (tgt := 4) C.1 dX9_fits_61 (by decide) ?_
            exact (k5 c0 c2 c3 c4 c5)
      · refine st_goto (pc := 33) (tgt := 58) C.1 dX9_fits_33 (by decide) ?_
        refine sv_iinc (pc := 58) (i := 3) (v := x3 + 1) C.1 [some (va_rf (some t)), some (.int x1), some (.int x2), some (.int (x3 + 1))] dX9_fits_58 rfl rfl (by rw [C.2.1]; exact Nat.le_of_ble_eq_true rfl) rfl rfl ?_
        refine st_goto (pc := 61) (tgt := 4) C.1 dX9_fits_61 (by decide) ?_
        exact (k6 c0 c2 c3)

theorem sgX9_fits_73 {X : CX} {d mc ms cells slots : Nat} {pp : Int32 → Hp → Prop} {h : Hp} {t : Nat} {x1 : Int32} {x2 : Int32} {x3 : Int32} {r0 : Nat} {r1 : Nat} (C : CmI X mX9_fits d mc ms pp) (hc : cells ≤ mc) (hs : slots ≤ ms) (h0 : h.K t = 10) (h1 : h.R 914 t = some r0) (h2 : h.K r0 = 11) (h3 : ¬ h.I 915 t ≤ x3 → vp_in x3 (h.N r0)) (h4 : ¬ h.I 915 t ≤ x3 → ¬ h.AI r0 (x3.toNatClampNeg) < x1 → vp_in x3 (h.N r0)) (h5 : ¬ h.I 915 t ≤ x3 → ¬ h.AI r0 (x3.toNatClampNeg) < x1 → 64 < h.AI r0 (x3.toNatClampNeg) → ¬ x2 = (-1) → vp_in x3 (h.N r0)) (h6 : ¬ h.I 915 t ≤ x3 → ¬ h.AI r0 (x3.toNatClampNeg) < x1 → 64 < h.AI r0 (x3.toNatClampNeg) → ¬ x2 = (-1) → vp_in x2 (h.N r0)) (h7 : ¬ h.I 915 t ≤ x3 → ¬ h.AI r0 (x3.toNatClampNeg) < x1 → 64 < h.AI r0 (x3.toNatClampNeg) → ¬ x2 = (-1) → ¬ h.AI r0 (x3.toNatClampNeg) < h.AI r0 (x2.toNatClampNeg) → vp_in x3 (h.N r0)) (h8 : ¬ h.I 915 t ≤ x3 → ¬ h.AI r0 (x3.toNatClampNeg) < x1 → 64 < h.AI r0 (x3.toNatClampNeg) → ¬ x2 = (-1) → ¬ h.AI r0 (x3.toNatClampNeg) < h.AI r0 (x2.toNatClampNeg) → vp_in x2 (h.N r0)) (h9 : h.R 913 t = some r1) (h10 : h.K r1 = 11) (h11 : ¬ h.I 915 t ≤ x3 → ¬ h.AI r0 (x3.toNatClampNeg) < x1 → 64 < h.AI r0 (x3.toNatClampNeg) → ¬ x2 = (-1) → ¬ h.AI r0 (x3.toNatClampNeg) < h.AI r0 (x2.toNatClampNeg) → h.AI r0 (x3.toNatClampNeg) = h.AI r0 (x2.toNatClampNeg) → vp_in x3 (h.N r1)) (h12 : ¬ h.I 915 t ≤ x3 → ¬ h.AI r0 (x3.toNatClampNeg) < x1 → 64 < h.AI r0 (x3.toNatClampNeg) → ¬ x2 = (-1) → ¬ h.AI r0 (x3.toNatClampNeg) < h.AI r0 (x2.toNatClampNeg) → h.AI r0 (x3.toNatClampNeg) = h.AI r0 (x2.toNatClampNeg) → vp_in x2 (h.N r1)) (k0 : h.I 915 t ≤ x3 → pp x2 h) (k1 : ¬ h.I 915 t ≤ x3 → h.AI r0 (x3.toNatClampNeg) < x1 → At X cells slots 73 [some (va_rf (some t)), some (.int x1), some (.int x2), some (.int (x3 + 1))] [] h) (k2 : ¬ h.I 915 t ≤ x3 → ¬ h.AI r0 (x3.toNatClampNeg) < x1 → 64 < h.AI r0 (x3.toNatClampNeg) → x2 = (-1) → At X cells slots 73 [some (va_rf (some t)), some (.int x1), some (.int x3), some (.int (x3 + 1))] [] h) (k3 : ¬ h.I 915 t ≤ x3 → ¬ h.AI r0 (x3.toNatClampNeg) < x1 → 64 < h.AI r0 (x3.toNatClampNeg) → ¬ x2 = (-1) → h.AI r0 (x3.toNatClampNeg) < h.AI r0 (x2.toNatClampNeg) → At X cells slots 73 [some (va_rf (some t)), some (.int x1), some (.int x3), some (.int (x3 + 1))] [] h) (k4 : ¬ h.I 915 t ≤ x3 → ¬ h.AI r0 (x3.toNatClampNeg) < x1 → 64 < h.AI r0 (x3.toNatClampNeg) → ¬ x2 = (-1) → ¬ h.AI r0 (x3.toNatClampNeg) < h.AI r0 (x2.toNatClampNeg) → ¬ h.AI r0 (x3.toNatClampNeg) = h.AI r0 (x2.toNatClampNeg) → At X cells slots 73 [some (va_rf (some t)), some (.int x1), some (.int x2), some (.int (x3 + 1))] [] h) (k5 : ¬ h.I 915 t ≤ x3 → ¬ h.AI r0 (x3.toNatClampNeg) < x1 → 64 < h.AI r0 (x3.toNatClampNeg) → ¬ x2 = (-1) → ¬ h.AI r0 (x3.toNatClampNeg) < h.AI r0 (x2.toNatClampNeg) → h.AI r0 (x3.toNatClampNeg) = h.AI r0 (x2.toNatClampNeg) → h.AI r1 (x2.toNatClampNeg) ≤ h.AI r1 (x3.toNatClampNeg) → At X cells slots 73 [some (va_rf (some t)), some (.int x1), some (.int x2), some (.int (x3 + 1))] [] h) (k6 : ¬ h.I 915 t ≤ x3 → ¬ h.AI r0 (x3.toNatClampNeg) < x1 → 64 < h.AI r0 (x3.toNatClampNeg) → ¬ x2 = (-1) → ¬ h.AI r0 (x3.toNatClampNeg) < h.AI r0 (x2.toNatClampNeg) → h.AI r0 (x3.toNatClampNeg) = h.AI r0 (x2.toNatClampNeg) → ¬ h.AI r1 (x2.toNatClampNeg) ≤ h.AI r1 (x3.toNatClampNeg) → At X cells slots 73 [some (va_rf (some t)), some (.int x1), some (.int x3), some (.int (x3 + 1))] [] h) (k7 : ¬ h.I 915 t ≤ x3 → ¬ h.AI r0 (x3.toNatClampNeg) < x1 → ¬ 64 < h.AI r0 (x3.toNatClampNeg) → At X cells slots 73 [some (va_rf (some t)), some (.int x1), some (.int x2), some (.int (x3 + 1))] [] h) : At X cells slots 73 [some (va_rf (some t)), some (.int x1), some (.int x2), some (.int x3)] [] h := by
  refine st_iload_n (pc := 73) C.1 dX9_fits_73 rfl rfl ?_
  refine st_aload_n (pc := 74) C.1 (some t) dX9_fits_74 rfl rfl ?_
  refine gI_RX9_105 (pc := 75) C.1 (h.I 915 t) dX9_fits_75 h0 rfl ?_
  refine st_icmp_ge (pc := 78) (tgt := 163) C.1 dX9_fits_78 (by decide) (fun c0 => ?_) (fun c0 => ?_)
  · refine st_iload_n (pc := 163) C.1 dX9_fits_163 rfl rfl ?_
    exact rt_i C (Or.inl rfl) dX9_fits_164 hc hs ⟨_, rfl, (k0 c0)⟩
  · refine st_aload_n (pc := 81) C.1 (some t) dX9_fits_81 rfl rfl ?_
    refine gR_RX9_38 (pc := 82) C.1 (some r0) dX9_fits_82 h0 h1 ?_
    refine st_iload_n (pc := 85) C.1 dX9_fits_85 rfl rfl ?_
    refine sv_iaload (pc := 86) C.1 (h.AI r0 (x3.toNatClampNeg)) dX9_fits_86 h2 (h3 c0) rfl ?_
    refine st_iload_n (pc := 87) C.1 dX9_fits_87 rfl rfl ?_
    refine st_icmp_lt (pc := 88) (tgt := 157) C.1 dX9_fits_88 (by decide) (fun c1 => ?_) (fun c1 => ?_)
    · refine sv_iinc (pc := 157) (i := 3) (v := x3 + 1) C.1 [some (va_rf (some t)), some (.int x1), some (.int x2), some (.int (x3 + 1))] dX9_fits_157 rfl rfl (by rw [C.2.1]; exact Nat.le_of_ble_eq_true rfl) rfl rfl ?_
      refine st_goto (pc := 160) (tgt := 73) C.1 dX9_fits_160 (by decide) ?_
      exact (k1 c0 c1)
    · refine st_aload_n (pc := 91) C.1 (some t) dX9_fits_91 rfl rfl ?_
      refine gR_RX9_38 (pc := 92) C.1 (some r0) dX9_fits_92 h0 h1 ?_
      refine st_iload_n (pc := 95) C.1 dX9_fits_95 rfl rfl ?_
      refine sv_iaload (pc := 96) C.1 (h.AI r0 (x3.toNatClampNeg)) dX9_fits_96 h2 (h4 c0 c1) rfl ?_
      refine st_bipush (pc := 97) (v := 64) C.1 dX9_fits_97 (by decide) ?_
      refine st_icmp_gt (pc := 99) (tgt := 105) C.1 dX9_fits_99 (by decide) (fun c2 => ?_) (fun c2 => ?_)
      · refine st_iload_n (pc := 105) C.1 dX9_fits_105 rfl rfl ?_
        refine st_iconst (pc := 106) (v := (-1)) C.1 dX9_fits_106 (by decide) ?_
        refine st_icmp_eq (pc := 107) (tgt := 155) C.1 dX9_fits_107 (by decide) (fun c3 => ?_) (fun c3 => ?_)
        · refine st_iload_n (pc := 155) C.1 dX9_fits_155 rfl rfl ?_
          refine sv_istore_n (pc := 156) (i := 2) C.1 [some (va_rf (some t)), some (.int x1), some (.int x3), some (.int x3)] dX9_fits_156 rfl (Nat.le_of_ble_eq_true rfl) (by rw [C.2.1]; exact Nat.le_of_ble_eq_true rfl) rfl rfl ?_
          refine sv_iinc (pc := 157) (i := 3) (v := x3 + 1) C.1 [some (va_rf (some t)), some (.int x1), some (.int x3), some (.int (x3 + 1))] dX9_fits_157 rfl rfl (by rw [C.2.1]; exact Nat.le_of_ble_eq_true rfl) rfl rfl ?_
          refine st_goto (pc := 160) (tgt := 73) C.1 dX9_fits_160 (by decide) ?_
          exact (k2 c0 c1 c2 c3)
        · refine st_aload_n (pc := 110) C.1 (some t) dX9_fits_110 rfl rfl ?_
          refine gR_RX9_38 (pc := 111) C.1 (some r0) dX9_fits_111 h0 h1 ?_
          refine st_iload_n (pc := 114) C.1 dX9_fits_114 rfl rfl ?_
          refine sv_iaload (pc := 115) C.1 (h.AI r0 (x3.toNatClampNeg)) dX9_fits_115 h2 (h5 c0 c1 c2 c3) rfl ?_
          refine st_aload_n (pc := 116) C.1 (some t) dX9_fits_116 rfl rfl ?_
          refine gR_RX9_38 (pc := 117) C.1 (some r0) dX9_fits_117 h0 h1 ?_
          refine st_iload_n (pc := 120) C.1 dX9_fits_120 rfl rfl ?_
          refine sv_iaload (pc := 121) C.1 (h.AI r0 (x2.toNatClampNeg)) dX9_fits_121 h2 (h6 c0 c1 c2 c3) rfl ?_
          refine st_icmp_lt (pc := 122) (tgt := 155) C.1 dX9_fits_122 (by decide) (fun c4 => ?_) (fun c4 => ?_)
          · refine st_iload_n (pc := 155) C.1 dX9_fits_155 rfl rfl ?_
            refine sv_istore_n (pc := 156) (i := 2) C.1 [some (va_rf (some t)), some (.int x1), some (.int x3), some (.int x3)] dX9_fits_156 rfl (Nat.le_of_ble_eq_true rfl) (by rw [C.2.1]; exact Nat.le_of_ble_eq_true rfl) rfl rfl ?_
            refine sv_iinc (pc := 157) (i := 3) (v := x3 + 1) C.1 [some (va_rf (some t)), some (.int x1), some (.int x3), some (.int (x3 + 1))] dX9_fits_157 rfl rfl (by rw [C.2.1]; exact Nat.le_of_ble_eq_true rfl) rfl rfl ?_
            refine st_goto (pc := 160) (tgt := 73) C.1 dX9_fits_160 (by decide) ?_
            exact (k3 c0 c1 c2 c3 c4)
          · refine st_aload_n (pc := 125) C.1 (some t) dX9_fits_125 rfl rfl ?_
            refine gR_RX9_38 (pc := 126) C.1 (some r0) dX9_fits_126 h0 h1 ?_
            refine st_iload_n (pc := 129) C.1 dX9_fits_129 rfl rfl ?_
            refine sv_iaload (pc := 130) C.1 (h.AI r0 (x3.toNatClampNeg)) dX9_fits_130 h2 (h7 c0 c1 c2 c3 c4) rfl ?_
            refine st_aload_n (pc := 131) C.1 (some t) dX9_fits_131 rfl rfl ?_
            refine gR_RX9_38 (pc := 132) C.1 (some r0) dX9_fits_132 h0 h1 ?_
            refine st_iload_n (pc := 135) C.1 dX9_fits_135 rfl rfl ?_
            refine sv_iaload (pc := 136) C.1 (h.AI r0 (x2.toNatClampNeg)) dX9_fits_136 h2 (h8 c0 c1 c2 c3 c4) rfl ?_
            refine st_icmp_ne (pc := 137) (tgt := 157) C.1 dX9_fits_137 (by decide) (fun c5 => ?_) (fun c5 => ?_)
            · refine sv_iinc (pc := 157) (i := 3) (v := x3 + 1) C.1 [some (va_rf (some t)), some (.int x1), some (.int x2), some (.int (x3 + 1))] dX9_fits_157 rfl rfl (by rw [C.2.1]; exact Nat.le_of_ble_eq_true rfl) rfl rfl ?_
              refine st_goto (pc := 160) (tgt := 73) C.1 dX9_fits_160 (by decide) ?_
              exact (k4 c0 c1 c2 c3 c4 c5)
            · refine st_aload_n (pc := 140) C.1 (some t) dX9_fits_140 rfl rfl ?_
              refine gR_RX9_35 (pc := 141) C.1 (some r1) dX9_fits_141 h0 h9 ?_
              refine st_iload_n (pc := 144) C.1 dX9_fits_144 rfl rfl ?_
              refine sv_iaload (pc := 145) C.1 (h.AI r1 (x3.toNatClampNeg)) dX9_fits_145 h10 (h11 c0 c1 c2 c3 c4 c5) rfl ?_
              refine st_aload_n (pc := 146) C.1 (some t) dX9_fits_146 rfl rfl ?_
              refine gR_RX9_35 (pc := 147) C.1 (some r1) dX9_fits_147 h0 h9 ?_
              refine st_iload_n (pc := 150) C.1 dX9_fits_150 rfl rfl ?_
              refine sv_iaload (pc := 151) C.1 (h.AI r1 (x2.toNatClampNeg)) dX9_fits_151 h10 (h12 c0 c1 c2 c3 c4 c5) rfl ?_
              refine st_icmp_ge (pc := 152) (tgt := 157) C.1 dX9_fits_152 (by decide) (fun c6 => ?_) (fun c6 => ?_)
              · refine sv_iinc (pc := 157) (i := 3) (v := x3 + 1) C.1 [some (va_rf (some t)), some (.int x1), some (.int x2), some (.int (x3 + 1))] dX9_fits_157 rfl rfl (by rw [C.2.1]; exact Nat.le_of_ble_eq_true rfl) rfl rfl ?_
                refine st_goto (pc := 160) (tgt := 73) C.1 dX9_fits_160 (by decide) ?_
                exact (k5 c0 c1 c2 c3 c4 c5 c6)
              · refine st_iload_n (pc := 155) C.1 dX9_fits_155 rfl rfl ?_
                refine sv_istore_n (pc := 156) (i := 2) C.1 [some (va_rf (some t)), some (.int x1), some (.int x3), some (.int x3)] dX9_fits_156 rfl (Nat.le_of_ble_eq_true rfl) (by rw [C.2.1]; exact Nat.le_of_ble_eq_true rfl) rfl rfl ?_
                refine sv_iinc (pc := 157) (i := 3) (v := x3 + 1) C.1 [some (va_rf (some t)), some (.int x1), some (.int x3), some (.int (x3 + 1))] dX9_fits_157 rfl rfl (by rw [C.2.1]; exact Nat.le_of_ble_eq_true rfl) rfl rfl ?_
                refine st_goto (pc := 160) (tgt := 73) C.1 dX9_fits_160 (by decide) ?_
                exact (k6 c0 c1 c2 c3 c4 c5 c6)
      · refine st_goto (pc := 102) (tgt := 157) C.1 dX9_fits_102 (by decide) ?_
        refine sv_iinc (pc := 157) (i := 3) (v := x3 + 1) C.1 [some (va_rf (some t)), some (.int x1), some (.int x2), some (.int (x3 + 1))] dX9_fits_157 rfl rfl (by rw [C.2.1]; exact Nat.le_of_ble_eq_true rfl) rfl rfl ?_
        refine st_goto (pc := 160) (tgt := 73) C.1 dX9_fits_160 (by decide) ?_
        exact (k7 c0 c1 c2)

theorem sgX9_find_0 {X : CX} {d mc ms cells slots : Nat} {pp : Int32 → Hp → Prop} {h : Hp} {t : Nat} {x1 : Int32}  (C : CmI X mX9_find d mc ms pp)  (k0 : At X cells slots 2 [some (va_rf (some t)), some (.int x1), none, none, none] [.int x1, va_rf (some t)] h) : At X cells slots 0 [some (va_rf (some t)), some (.int x1), none, none, none] [] h := by
  refine st_aload_n (pc := 0) C.1 (some t) dX9_find_0 rfl rfl ?_
  refine st_iload_n (pc := 1) C.1 dX9_find_1 rfl rfl ?_
  exact k0

theorem sgX9_find_5 {X : CX} {d mc ms cells slots : Nat} {pp : Int32 → Hp → Prop} {h : Hp} {t : Nat} {x1 : Int32} {u0 : Int32} {r0 : Nat} {r1 : Nat} (C : CmI X mX9_find d mc ms pp) (hc : cells ≤ mc) (hs : slots ≤ ms) (h0 : h.K t = 10) (h1 : h.R 913 t = some r0) (h2 : h.K r0 = 11) (h3 : ¬ u0 = (-1) → vp_in u0 (h.N r0)) (h4 : h.R 914 t = some r1) (h5 : h.K r1 = 11) (h6 : ¬ u0 = (-1) → vp_in u0 (h.N r1)) (k0 : ¬ u0 = (-1) → At X cells slots 86 [some (va_rf (some t)), some (.int x1), some (.int u0), some (.int (h.AI r0 (u0.toNatClampNeg))), some (.int (h.AI r1 (u0.toNatClampNeg)))] [.int u0, va_rf (some t)] h) (k1 : u0 = (-1) → x1 ≤ (h.I 900 t) - (h.I 905 t) → (h.sI 905 t ((h.I 905 t) + x1)).I 905 t ≤ h.I 906 t → pp (h.I 905 t) ((h.sI 905 t ((h.I 905 t) + x1)).sI 906 t (h.I 906 t))) (k2 : u0 = (-1) → x1 ≤ (h.I 900 t) - (h.I 905 t) → ¬ (h.sI 905 t ((h.I 905 t) + x1)).I 905 t ≤ h.I 906 t → pp (h.I 905 t) ((h.sI 905 t ((h.I 905 t) + x1)).sI 906 t ((h.sI 905 t ((h.I 905 t) + x1)).I 905 t))) (k3 : u0 = (-1) → ¬ x1 ≤ (h.I 900 t) - (h.I 905 t) → pp (-1) h) : At X cells slots 5 [some (va_rf (some t)), some (.int x1), none, none, none] [.int u0] h := by
  refine sv_istore_n (pc := 5) (i := 2) C.1 [some (va_rf (some t)), some (.int x1), some (.int u0), none, none] dX9_find_5 rfl (Nat.le_of_ble_eq_true rfl) (by rw [C.2.1]; exact Nat.le_of_ble_eq_true rfl) rfl rfl ?_
  refine st_iload_n (pc := 6) C.1 dX9_find_6 rfl rfl ?_
  refine st_iconst (pc := 7) (v := (-1)) C.1 dX9_find_7 (by decide) ?_
  refine st_icmp_ne (pc := 8) (tgt := 69) C.1 dX9_find_8 (by decide) (fun c0 => ?_) (fun c0 => ?_)
  · refine st_aload_n (pc := 69) C.1 (some t) dX9_find_69 rfl rfl ?_
    refine gR_RX9_35 (pc := 70) C.1 (some r0) dX9_find_70 h0 h1 ?_
    refine st_iload_n (pc := 73) C.1 dX9_find_73 rfl rfl ?_
    refine sv_iaload (pc := 74) C.1 (h.AI r0 (u0.toNatClampNeg)) dX9_find_74 h2 (h3 c0) rfl ?_
    refine sv_istore_n (pc := 75) (i := 3) C.1 [some (va_rf (some t)), some (.int x1), some (.int u0), some (.int (h.AI r0 (u0.toNatClampNeg))), none] dX9_find_75 rfl (Nat.le_of_ble_eq_true rfl) (by rw [C.2.1]; exact Nat.le_of_ble_eq_true rfl) rfl rfl ?_
    refine st_aload_n (pc := 76) C.1 (some t) dX9_find_76 rfl rfl ?_
    refine gR_RX9_38 (pc := 77) C.1 (some r1) dX9_find_77 h0 h4 ?_
    refine st_iload_n (pc := 80) C.1 dX9_find_80 rfl rfl ?_
    refine sv_iaload (pc := 81) C.1 (h.AI r1 (u0.toNatClampNeg)) dX9_find_81 h5 (h6 c0) rfl ?_
    refine sv_istore (pc := 82) (i := 4) C.1 [some (va_rf (some t)), some (.int x1), some (.int u0), some (.int (h.AI r0 (u0.toNatClampNeg))), some (.int (h.AI r1 (u0.toNatClampNeg)))] dX9_find_82 (Nat.le_of_ble_eq_true rfl) (by rw [C.2.1]; exact Nat.le_of_ble_eq_true rfl) rfl rfl ?_
    refine st_aload_n (pc := 84) C.1 (some t) dX9_find_84 rfl rfl ?_
    refine st_iload_n (pc := 85) C.1 dX9_find_85 rfl rfl ?_
    exact (k0 c0)
  · refine st_iload_n (pc := 11) C.1 dX9_find_11 rfl rfl ?_
    refine st_aload_n (pc := 12) C.1 (some t) dX9_find_12 rfl rfl ?_
    refine gI_RX9_76 (pc := 13) C.1 (h.I 900 t) dX9_find_13 h0 rfl ?_
    refine st_aload_n (pc := 16) C.1 (some t) dX9_find_16 rfl rfl ?_
    refine gI_RX9_13 (pc := 17) C.1 (h.I 905 t) dX9_find_17 h0 rfl ?_
    refine st_isub (pc := 20) C.1 dX9_find_20 ?_
    refine st_icmp_le (pc := 21) (tgt := 26) C.1 dX9_find_21 (by decide) (fun c1 => ?_) (fun c1 => ?_)
    · refine st_aload_n (pc := 26) C.1 (some t) dX9_find_26 rfl rfl ?_
      refine gI_RX9_13 (pc := 27) C.1 (h.I 905 t) dX9_find_27 h0 rfl ?_
      refine sv_istore_n (pc := 30) (i := 3) C.1 [some (va_rf (some t)), some (.int x1), some (.int u0), some (.int (h.I 905 t)), none] dX9_find_30 rfl (Nat.le_of_ble_eq_true rfl) (by rw [C.2.1]; exact Nat.le_of_ble_eq_true rfl) rfl rfl ?_
      refine st_aload_n (pc := 31) C.1 (some t) dX9_find_31 rfl rfl ?_
      refine st_dup (pc := 32) C.1 dX9_find_32 (rf_cat (some t)) ?_
      refine gI_RX9_13 (pc := 33) C.1 (h.I 905 t) dX9_find_33 h0 rfl ?_
      refine st_iload_n (pc := 36) C.1 dX9_find_36 rfl rfl ?_
      refine st_iadd (pc := 37) C.1 dX9_find_37 ?_
      refine pI_RX9_13 (pc := 38) C.1 dX9_find_38 h0 ?_
      refine st_aload_n (pc := 41) C.1 (some t) dX9_find_41 rfl rfl ?_
      refine st_aload_n (pc := 42) C.1 (some t) dX9_find_42 rfl rfl ?_
      refine gI_RX9_13 (pc := 43) C.1 ((h.sI 905 t ((h.I 905 t) + x1)).I 905 t) dX9_find_43 h0 rfl ?_
      refine st_aload_n (pc := 46) C.1 (some t) dX9_find_46 rfl rfl ?_
      refine gI_RX9_17 (pc := 47) C.1 (h.I 906 t) dX9_find_47 h0 rfl ?_
      refine st_icmp_le (pc := 50) (tgt := 60) C.1 dX9_find_50 (by decide) (fun c2 => ?_) (fun c2 => ?_)
      · refine st_aload_n (pc := 60) C.1 (some t) dX9_find_60 rfl rfl ?_
        refine gI_RX9_17 (pc := 61) C.1 (h.I 906 t) dX9_find_61 h0 rfl ?_
        refine pI_RX9_17 (pc := 64) C.1 dX9_find_64 h0 ?_
        refine st_iload_n (pc := 67) C.1 dX9_find_67 rfl rfl ?_
        exact rt_i C (Or.inl rfl) dX9_find_68 hc hs ⟨_, rfl, (k1 c0 c1 c2)⟩
      · refine st_aload_n (pc := 53) C.1 (some t) dX9_find_53 rfl rfl ?_
        refine gI_RX9_13 (pc := 54) C.1 ((h.sI 905 t ((h.I 905 t) + x1)).I 905 t) dX9_find_54 h0 rfl ?_
        refine st_goto (pc := 57) (tgt := 64) C.1 dX9_find_57 (by decide) ?_
        refine pI_RX9_17 (pc := 64) C.1 dX9_find_64 h0 ?_
        refine st_iload_n (pc := 67) C.1 dX9_find_67 rfl rfl ?_
        exact rt_i C (Or.inl rfl) dX9_find_68 hc hs ⟨_, rfl, (k2 c0 c1 c2)⟩
    · refine st_iconst (pc := 24) (v := (-1)) C.1 dX9_find_24 (by decide) ?_
      exact rt_i C (Or.inl rfl) dX9_find_25 hc hs ⟨_, rfl, (k3 c0 c1)⟩

theorem sgX9_find_89 {X : CX} {d mc ms cells slots : Nat} {pp : Int32 → Hp → Prop} {h : Hp} {t : Nat} {x1 : Int32} {x2 : Int32} {x3 : Int32} {x4 : Int32}  (C : CmI X mX9_find d mc ms pp) (hc : cells ≤ mc) (hs : slots ≤ ms) (h0 : h.K t = 10) (k0 : x4 ≤ x1 → pp x3 h) (k1 : ¬ x4 ≤ x1 → At X cells slots 113 [some (va_rf (some t)), some (.int x1), some (.int x2), some (.int x3), some (.int x4)] [.int (x4 - x1), .int (x3 + x1), va_rf (some t)] (h.sI 919 t ((h.I 919 t) + 1))) : At X cells slots 89 [some (va_rf (some t)), some (.int x1), some (.int x2), some (.int x3), some (.int x4)] [] h := by
  refine st_iload (pc := 89) C.1 dX9_find_89 rfl ?_
  refine st_iload_n (pc := 91) C.1 dX9_find_91 rfl rfl ?_
  refine st_icmp_le (pc := 92) (tgt := 116) C.1 dX9_find_92 (by decide) (fun c0 => ?_) (fun c0 => ?_)
  · refine st_iload_n (pc := 116) C.1 dX9_find_116 rfl rfl ?_
    exact rt_i C (Or.inl rfl) dX9_find_117 hc hs ⟨_, rfl, (k0 c0)⟩
  · refine st_aload_n (pc := 95) C.1 (some t) dX9_find_95 rfl rfl ?_
    refine st_dup (pc := 96) C.1 dX9_find_96 (rf_cat (some t)) ?_
    refine gI_RX9_126 (pc := 97) C.1 (h.I 919 t) dX9_find_97 h0 rfl ?_
    refine st_iconst (pc := 100) (v := 1) C.1 dX9_find_100 (by decide) ?_
    refine st_iadd (pc := 101) C.1 dX9_find_101 ?_
    refine pI_RX9_126 (pc := 102) C.1 dX9_find_102 h0 ?_
    refine st_aload_n (pc := 105) C.1 (some t) dX9_find_105 rfl rfl ?_
    refine st_iload_n (pc := 106) C.1 dX9_find_106 rfl rfl ?_
    refine st_iload_n (pc := 107) C.1 dX9_find_107 rfl rfl ?_
    refine st_iadd (pc := 108) C.1 dX9_find_108 ?_
    refine st_iload (pc := 109) C.1 dX9_find_109 rfl ?_
    refine st_iload_n (pc := 111) C.1 dX9_find_111 rfl rfl ?_
    refine st_isub (pc := 112) C.1 dX9_find_112 ?_
    exact (k1 c0)

theorem sgX9_find_116 {X : CX} {d mc ms cells slots : Nat} {pp : Int32 → Hp → Prop} {h : Hp} {t : Nat} {x1 : Int32} {x2 : Int32} {x3 : Int32} {x4 : Int32}  (C : CmI X mX9_find d mc ms pp) (hc : cells ≤ mc) (hs : slots ≤ ms)  (k0 : pp x3 h) : At X cells slots 116 [some (va_rf (some t)), some (.int x1), some (.int x2), some (.int x3), some (.int x4)] [] h := by
  refine st_iload_n (pc := 116) C.1 dX9_find_116 rfl rfl ?_
  exact rt_i C (Or.inl rfl) dX9_find_117 hc hs ⟨_, rfl, k0⟩

theorem clX9_find_2 {X : CX} {d0 mc0 ms0 d mc ms cells slots : Nat} {pp : Int32 → Hp → Prop} {h : Hp} {ls : List (Option Value)} {rest : List Value} {b : Nat} {a0 : Value} {post : Int32 → Hp → Prop} (C : CmI X mX9_find d0 mc0 ms0 pp) (hct : CtI mX9_fits d mc ms [va_rf (some b), a0] h post) (hK : h.K b = 10) (hdd : d < d0) (hmc : cells + mc ≤ mc0) (hms : slots + ms ≤ ms0) (hcat : (rest.map fun v => v.category).sum ≤ 8) (kk : ∀ r h', post r h' → At X (cells + mc) (slots + ms) 5 ls (.int r :: rest) h') : At X cells slots 2 ls (a0 :: va_rf (some b) :: rest) h :=
  st_callV (pc := 2) (M := mX9_fits) (idx := 123) (As := [a0]) C.1 C.2.2.1 C.2.2.2.2.2.2 ⟨wM_RX9_123, wC_X9_fits, wI_RX9, by decide +kernel, by decide⟩ wV_X9_fits wS_X9_fits (ci := 9) (n := 1) rfl rfl (by decide) dX9_find_2 rfl hdd hcat hK hct hmc hms (fun v h2 hp => by obtain ⟨r, rfl, hp⟩ := hp; exact kk r h2 hp)
theorem clX9_find_86 {X : CX} {d0 mc0 ms0 d mc ms cells slots : Nat} {pp : Int32 → Hp → Prop} {h : Hp} {ls : List (Option Value)} {rest : List Value} {b : Nat} {a0 : Value} {post : Hp → Prop} (C : CmI X mX9_find d0 mc0 ms0 pp) (hct : CtV mX9_takeFree d mc ms [va_rf (some b), a0] h post) (hK : h.K b = 10) (hdd : d < d0) (hmc : cells + mc ≤ mc0) (hms : slots + ms ≤ ms0) (hcat : (rest.map fun v => v.category).sum ≤ 8) (kk : ∀ h', post h' → At X (cells + mc) (slots + ms) 89 ls rest h') : At X cells slots 86 ls (a0 :: va_rf (some b) :: rest) h :=
  st_callV (pc := 86) (M := mX9_takeFree) (idx := 116) (As := [a0]) C.1 C.2.2.1 C.2.2.2.2.2.2 ⟨wM_RX9_116, wC_X9_takeFree, wI_RX9, by decide +kernel, by decide⟩ wV_X9_takeFree wS_X9_takeFree (ci := 9) (n := 1) rfl rfl (by decide) dX9_find_86 rfl hdd hcat hK hct hmc hms (fun v h2 hp => by obtain ⟨rfl, hp⟩ := hp; exact kk h2 hp)
theorem clX9_find_113 {X : CX} {d0 mc0 ms0 d mc ms cells slots : Nat} {pp : Int32 → Hp → Prop} {h : Hp} {ls : List (Option Value)} {rest : List Value} {b : Nat} {a0 a1 : Value} {post : Hp → Prop} (C : CmI X mX9_find d0 mc0 ms0 pp) (hct : CtV mX9_release d mc ms [va_rf (some b), a0, a1] h post) (hK : h.K b = 10) (hdd : d < d0) (hmc : cells + mc ≤ mc0) (hms : slots + ms ≤ ms0) (hcat : (rest.map fun v => v.category).sum ≤ 8) (kk : ∀ h', post h' → At X (cells + mc) (slots + ms) 116 ls rest h') : At X cells slots 113 ls (a1 :: a0 :: va_rf (some b) :: rest) h :=
  st_callV (pc := 113) (M := mX9_release) (idx := 129) (As := [a0, a1]) C.1 C.2.2.1 C.2.2.2.2.2.2 ⟨wM_RX9_129, wC_X9_release, wI_RX9, by decide +kernel, by decide⟩ wV_X9_release wS_X9_release (ci := 9) (n := 2) rfl rfl (by decide) dX9_find_113 rfl hdd hcat hK hct hmc hms (fun v h2 hp => by obtain ⟨rfl, hp⟩ := hp; exact kk h2 hp)
theorem sgX9_longest_0 {X : CX} {d mc ms cells slots : Nat} {pp : Int32 → Hp → Prop} {h : Hp} {t : Nat}  (C : CmI X mX9_longest d mc ms pp)  (k0 : At X cells slots 4 [some (va_rf (some t)), some (.int (-1)), some (.int 0)] [] h) : At X cells slots 0 [some (va_rf (some t)), none, none] [] h := by
  refine st_iconst (pc := 0) (v := (-1)) C.1 dX9_longest_0 (by decide) ?_
  refine sv_istore_n (pc := 1) (i := 1) C.1 [some (va_rf (some t)), some (.int (-1)), none] dX9_longest_1 rfl (Nat.le_of_ble_eq_true rfl) (by rw [C.2.1]; exact Nat.le_of_ble_eq_true rfl) rfl rfl ?_
  refine st_iconst (pc := 2) (v := 0) C.1 dX9_longest_2 (by decide) ?_
  refine sv_istore_n (pc := 3) (i := 2) C.1 [some (va_rf (some t)), some (.int (-1)), some (.int 0)] dX9_longest_3 rfl (Nat.le_of_ble_eq_true rfl) (by rw [C.2.1]; exact Nat.le_of_ble_eq_true rfl) rfl rfl ?_
  exact k0

theorem sgX9_longest_4 {X : CX} {d mc ms cells slots : Nat} {pp : Int32 → Hp → Prop} {h : Hp} {t : Nat} {x1 : Int32} {x2 : Int32}  (C : CmI X mX9_longest d mc ms pp) (hc : cells ≤ mc) (hs : slots ≤ ms) (h0 : h.K t = 10) (k0 : h.I 912 t ≤ x2 → pp x1 h) (k1 : ¬ h.I 912 t ≤ x2 → At X cells slots 14 [some (va_rf (some t)), some (.int x1), some (.int x2)] [.int x2, va_rf (some t)] h) : At X cells slots 4 [some (va_rf (some t)), some (.int x1), some (.int x2)] [] h := by
  refine st_iload_n (pc := 4) C.1 dX9_longest_4 rfl rfl ?_
  refine st_aload_n (pc := 5) C.1 (some t) dX9_longest_5 rfl rfl ?_
  refine gI_RX9_88 (pc := 6) C.1 (h.I 912 t) dX9_longest_6 h0 rfl ?_
  refine st_icmp_ge (pc := 9) (tgt := 48) C.1 dX9_longest_9 (by decide) (fun c0 => ?_) (fun c0 => ?_)
  · refine st_iload_n (pc := 48) C.1 dX9_longest_48 rfl rfl ?_
    exact rt_i C (Or.inl rfl) dX9_longest_49 hc hs ⟨_, rfl, (k0 c0)⟩
  · refine st_aload_n (pc := 12) C.1 (some t) dX9_longest_12 rfl rfl ?_
    refine st_iload_n (pc := 13) C.1 dX9_longest_13 rfl rfl ?_
    exact (k1 c0)

theorem sgX9_longest_17 {X : CX} {d mc ms cells slots : Nat} {pp : Int32 → Hp → Prop} {h : Hp} {t : Nat} {x1 : Int32} {x2 : Int32} {u0 : Int32} {r0 : Nat} (C : CmI X mX9_longest d mc ms pp) (h0 : h.K t = 10) (h1 : h.R 911 t = some r0) (h2 : h.K r0 = 11) (h3 : u0 = 0 → ¬ x1 = (-1) → vp_in x2 (h.N r0)) (h4 : u0 = 0 → ¬ x1 = (-1) → vp_in x1 (h.N r0)) (k0 : ¬ u0 = 0 → At X cells slots 4 [some (va_rf (some t)), some (.int x1), some (.int (x2 + 1))] [] h) (k1 : u0 = 0 → x1 = (-1) → At X cells slots 4 [some (va_rf (some t)), some (.int x2), some (.int (x2 + 1))] [] h) (k2 : u0 = 0 → ¬ x1 = (-1) → h.AI r0 (x1.toNatClampNeg) ≤ h.AI r0 (x2.toNatClampNeg) → At X cells slots 4 [some (va_rf (some t)), some (.int x1), some (.int (x2 + 1))] [] h) (k3 : u0 = 0 → ¬ x1 = (-1) → ¬ h.AI r0 (x1.toNatClampNeg) ≤ h.AI r0 (x2.toNatClampNeg) → At X cells slots 4 [some (va_rf (some t)), some (.int x2), some (.int (x2 + 1))] [] h) : At X cells slots 17 [some (va_rf (some t)), some (.int x1), some (.int x2)] [.int u0] h := by
  refine st_if_ne (pc := 17) (tgt := 42) C.1 dX9_longest_17 (by decide) (fun c0 => ?_) (fun c0 => ?_)
  · refine sv_iinc (pc := 42) (i := 2) (v := x2 + 1) C.1 [some (va_rf (some t)), some (.int x1), some (.int (x2 + 1))] dX9_longest_42 rfl rfl (by rw [C.2.1]; exact Nat.le_of_ble_eq_true rfl) rfl rfl ?_
    refine st_goto (pc := 45) (tgt := 4) C.1 dX9_longest_45 (by decide) ?_
    exact (k0 c0)
  · refine st_iload_n (pc := 20) C.1 dX9_longest_20 rfl rfl ?_
    refine st_iconst (pc := 21) (v := (-1)) C.1 dX9_longest_21 (by decide) ?_
    refine st_icmp_eq (pc := 22) (tgt := 40) C.1 dX9_longest_22 (by decide) (fun c1 => ?_) (fun c1 => ?_)
    · refine st_iload_n (pc := 40) C.1 dX9_longest_40 rfl rfl ?_
      refine sv_istore_n (pc := 41) (i := 1) C.1 [some (va_rf (some t)), some (.int x2), some (.int x2)] dX9_longest_41 rfl (Nat.le_of_ble_eq_true rfl) (by rw [C.2.1]; exact Nat.le_of_ble_eq_true rfl) rfl rfl ?_
      refine sv_iinc (pc := 42) (i := 2) (v := x2 + 1) C.1 [some (va_rf (some t)), some (.int x2), some (.int (x2 + 1))] dX9_longest_42 rfl rfl (by rw [C.2.1]; exact Nat.le_of_ble_eq_true rfl) rfl rfl ?_
      refine st_goto (pc := 45) (tgt := 4) C.1 dX9_longest_45 (by decide) ?_
      exact (k1 c0 c1)
    · refine st_aload_n (pc := 25) C.1 (some t) dX9_longest_25 rfl rfl ?_
      refine gR_RX9_32 (pc := 26) C.1 (some r0) dX9_longest_26 h0 h1 ?_
      refine st_iload_n (pc := 29) C.1 dX9_longest_29 rfl rfl ?_
      refine sv_iaload (pc := 30) C.1 (h.AI r0 (x2.toNatClampNeg)) dX9_longest_30 h2 (h3 c0 c1) rfl ?_
      refine st_aload_n (pc := 31) C.1 (some t) dX9_longest_31 rfl rfl ?_
      refine gR_RX9_32 (pc := 32) C.1 (some r0) dX9_longest_32 h0 h1 ?_
      refine st_iload_n (pc := 35) C.1 dX9_longest_35 rfl rfl ?_
      refine sv_iaload (pc := 36) C.1 (h.AI r0 (x1.toNatClampNeg)) dX9_longest_36 h2 (h4 c0 c1) rfl ?_
      refine st_icmp_ge (pc := 37) (tgt := 42) C.1 dX9_longest_37 (by decide) (fun c2 => ?_) (fun c2 => ?_)
      · refine sv_iinc (pc := 42) (i := 2) (v := x2 + 1) C.1 [some (va_rf (some t)), some (.int x1), some (.int (x2 + 1))] dX9_longest_42 rfl rfl (by rw [C.2.1]; exact Nat.le_of_ble_eq_true rfl) rfl rfl ?_
        refine st_goto (pc := 45) (tgt := 4) C.1 dX9_longest_45 (by decide) ?_
        exact (k2 c0 c1 c2)
      · refine st_iload_n (pc := 40) C.1 dX9_longest_40 rfl rfl ?_
        refine sv_istore_n (pc := 41) (i := 1) C.1 [some (va_rf (some t)), some (.int x2), some (.int x2)] dX9_longest_41 rfl (Nat.le_of_ble_eq_true rfl) (by rw [C.2.1]; exact Nat.le_of_ble_eq_true rfl) rfl rfl ?_
        refine sv_iinc (pc := 42) (i := 2) (v := x2 + 1) C.1 [some (va_rf (some t)), some (.int x2), some (.int (x2 + 1))] dX9_longest_42 rfl rfl (by rw [C.2.1]; exact Nat.le_of_ble_eq_true rfl) rfl rfl ?_
        refine st_goto (pc := 45) (tgt := 4) C.1 dX9_longest_45 (by decide) ?_
        exact (k3 c0 c1 c2)

theorem clX9_longest_14 {X : CX} {d0 mc0 ms0 d mc ms cells slots : Nat} {pp : Int32 → Hp → Prop} {h : Hp} {ls : List (Option Value)} {rest : List Value} {b : Nat} {a0 : Value} {post : Int32 → Hp → Prop} (C : CmI X mX9_longest d0 mc0 ms0 pp) (hct : CtI mX9_isLive d mc ms [va_rf (some b), a0] h post) (hK : h.K b = 10) (hdd : d < d0) (hmc : cells + mc ≤ mc0) (hms : slots + ms ≤ ms0) (hcat : (rest.map fun v => v.category).sum ≤ 8) (kk : ∀ r h', post r h' → At X (cells + mc) (slots + ms) 17 ls (.int r :: rest) h') : At X cells slots 14 ls (a0 :: va_rf (some b) :: rest) h :=
  st_callV (pc := 14) (M := mX9_isLive) (idx := 98) (As := [a0]) C.1 C.2.2.1 C.2.2.2.2.2.2 ⟨wM_RX9_98, wC_X9_isLive, wI_RX9, by decide +kernel, by decide⟩ wV_X9_isLive wS_X9_isLive (ci := 9) (n := 1) rfl rfl (by decide) dX9_longest_14 rfl hdd hcat hK hct hmc hms (fun v h2 hp => by obtain ⟨r, rfl, hp⟩ := hp; exact kk r h2 hp)
theorem sgX9_oneGoes_0 {X : CX} {d mc ms cells slots : Nat} {pp : Int32 → Hp → Prop} {h : Hp} {t : Nat}  (C : CmI X mX9_oneGoes d mc ms pp)  (k0 : At X cells slots 1 [some (va_rf (some t)), none, none, none] [va_rf (some t)] h) : At X cells slots 0 [some (va_rf (some t)), none, none, none] [] h := by
  refine st_aload_n (pc := 0) C.1 (some t) dX9_oneGoes_0 rfl rfl ?_
  exact k0

theorem sgX9_oneGoes_4 {X : CX} {d mc ms cells slots : Nat} {pp : Int32 → Hp → Prop} {h : Hp} {t : Nat} {u0 : Int32} {r0 : Nat} {r1 : Nat} (C : CmI X mX9_oneGoes d mc ms pp) (hc : cells ≤ mc) (hs : slots ≤ ms) (h0 : h.K t = 10) (h1 : h.R 907 t = some r0) (h2 : h.K r0 = 11) (h3 : ¬ u0 = (-1) → vp_in u0 (h.N r0)) (h4 : h.R 908 t = some r1) (h5 : h.K r1 = 11) (h6 : ¬ u0 = (-1) → vp_in u0 (h.N r1)) (k0 : ¬ u0 = (-1) → At X cells slots 28 [some (va_rf (some t)), some (.int u0), some (.int (h.AI r0 (u0.toNatClampNeg))), some (.int (h.AI r1 (u0.toNatClampNeg)))] [.int u0, va_rf (some t)] h) (k1 : u0 = (-1) → pp 0 h) : At X cells slots 4 [some (va_rf (some t)), none, none, none] [.int u0] h := by
  refine sv_istore_n (pc := 4) (i := 1) C.1 [some (va_rf (some t)), some (.int u0), none, none] dX9_oneGoes_4 rfl (Nat.le_of_ble_eq_true rfl) (by rw [C.2.1]; exact Nat.le_of_ble_eq_true rfl) rfl rfl ?_
  refine st_iload_n (pc := 5) C.1 dX9_oneGoes_5 rfl rfl ?_
  refine st_iconst (pc := 6) (v := (-1)) C.1 dX9_oneGoes_6 (by decide) ?_
  refine st_icmp_ne (pc := 7) (tgt := 12) C.1 dX9_oneGoes_7 (by decide) (fun c0 => ?_) (fun c0 => ?_)
  · refine st_aload_n (pc := 12) C.1 (some t) dX9_oneGoes_12 rfl rfl ?_
    refine gR_RX9_20 (pc := 13) C.1 (some r0) dX9_oneGoes_13 h0 h1 ?_
    refine st_iload_n (pc := 16) C.1 dX9_oneGoes_16 rfl rfl ?_
    refine sv_iaload (pc := 17) C.1 (h.AI r0 (u0.toNatClampNeg)) dX9_oneGoes_17 h2 (h3 c0) rfl ?_
    refine sv_istore_n (pc := 18) (i := 2) C.1 [some (va_rf (some t)), some (.int u0), some (.int (h.AI r0 (u0.toNatClampNeg))), none] dX9_oneGoes_18 rfl (Nat.le_of_ble_eq_true rfl) (by rw [C.2.1]; exact Nat.le_of_ble_eq_true rfl) rfl rfl ?_
    refine st_aload_n (pc := 19) C.1 (some t) dX9_oneGoes_19 rfl rfl ?_
    refine gR_RX9_23 (pc := 20) C.1 (some r1) dX9_oneGoes_20 h0 h4 ?_
    refine st_iload_n (pc := 23) C.1 dX9_oneGoes_23 rfl rfl ?_
    refine sv_iaload (pc := 24) C.1 (h.AI r1 (u0.toNatClampNeg)) dX9_oneGoes_24 h5 (h6 c0) rfl ?_
    refine sv_istore_n (pc := 25) (i := 3) C.1 [some (va_rf (some t)), some (.int u0), some (.int (h.AI r0 (u0.toNatClampNeg))), some (.int (h.AI r1 (u0.toNatClampNeg)))] dX9_oneGoes_25 rfl (Nat.le_of_ble_eq_true rfl) (by rw [C.2.1]; exact Nat.le_of_ble_eq_true rfl) rfl rfl ?_
    refine st_aload_n (pc := 26) C.1 (some t) dX9_oneGoes_26 rfl rfl ?_
    refine st_iload_n (pc := 27) C.1 dX9_oneGoes_27 rfl rfl ?_
    exact (k0 c0)
  · refine st_iconst (pc := 10) (v := 0) C.1 dX9_oneGoes_10 (by decide) ?_
    exact rt_i C (Or.inr ⟨rfl, (Or.inl rfl)⟩) dX9_oneGoes_11 hc hs ⟨_, rfl, (k1 c0)⟩

theorem sgX9_oneGoes_31 {X : CX} {d mc ms cells slots : Nat} {pp : Int32 → Hp → Prop} {h : Hp} {t : Nat} {x1 : Int32} {x2 : Int32} {x3 : Int32}  (C : CmI X mX9_oneGoes d mc ms pp) (h0 : h.K t = 10) (k0 : At X cells slots 44 [some (va_rf (some t)), some (.int x1), some (.int x2), some (.int x3)] [.int x3, .int x2, va_rf (some t)] (h.sI 918 t ((h.I 918 t) + 1))) : At X cells slots 31 [some (va_rf (some t)), some (.int x1), some (.int x2), some (.int x3)] [] h := by
  refine st_aload_n (pc := 31) C.1 (some t) dX9_oneGoes_31 rfl rfl ?_
  refine st_dup (pc := 32) C.1 dX9_oneGoes_32 (rf_cat (some t)) ?_
  refine gI_RX9_139 (pc := 33) C.1 (h.I 918 t) dX9_oneGoes_33 h0 rfl ?_
  refine st_iconst (pc := 36) (v := 1) C.1 dX9_oneGoes_36 (by decide) ?_
  refine st_iadd (pc := 37) C.1 dX9_oneGoes_37 ?_
  refine pI_RX9_139 (pc := 38) C.1 dX9_oneGoes_38 h0 ?_
  refine st_aload_n (pc := 41) C.1 (some t) dX9_oneGoes_41 rfl rfl ?_
  refine st_iload_n (pc := 42) C.1 dX9_oneGoes_42 rfl rfl ?_
  refine st_iload_n (pc := 43) C.1 dX9_oneGoes_43 rfl rfl ?_
  exact k0

theorem sgX9_oneGoes_47 {X : CX} {d mc ms cells slots : Nat} {pp : Int32 → Hp → Prop} {h : Hp} {t : Nat} {x1 : Int32} {x2 : Int32} {x3 : Int32}  (C : CmI X mX9_oneGoes d mc ms pp) (hc : cells ≤ mc) (hs : slots ≤ ms)  (k0 : pp 1 h) : At X cells slots 47 [some (va_rf (some t)), some (.int x1), some (.int x2), some (.int x3)] [] h := by
  refine st_iconst (pc := 47) (v := 1) C.1 dX9_oneGoes_47 (by decide) ?_
  exact rt_i C (Or.inr ⟨rfl, (Or.inr rfl)⟩) dX9_oneGoes_48 hc hs ⟨_, rfl, k0⟩

theorem clX9_oneGoes_1 {X : CX} {d0 mc0 ms0 d mc ms cells slots : Nat} {pp : Int32 → Hp → Prop} {h : Hp} {ls : List (Option Value)} {rest : List Value} {b : Nat} {post : Int32 → Hp → Prop} (C : CmI X mX9_oneGoes d0 mc0 ms0 pp) (hct : CtI mX9_longest d mc ms [va_rf (some b)] h post) (hK : h.K b = 10) (hdd : d < d0) (hmc : cells + mc ≤ mc0) (hms : slots + ms ≤ ms0) (hcat : (rest.map fun v => v.category).sum ≤ 8) (kk : ∀ r h', post r h' → At X (cells + mc) (slots + ms) 4 ls (.int r :: rest) h') : At X cells slots 1 ls (va_rf (some b) :: rest) h :=
  st_callV (pc := 1) (M := mX9_longest) (idx := 132) (As := []) C.1 C.2.2.1 C.2.2.2.2.2.2 ⟨wM_RX9_132, wC_X9_longest, wI_RX9, by decide +kernel, by decide⟩ wV_X9_longest wS_X9_longest (ci := 9) (n := 0) rfl rfl (by decide) dX9_oneGoes_1 rfl hdd hcat hK hct hmc hms (fun v h2 hp => by obtain ⟨r, rfl, hp⟩ := hp; exact kk r h2 hp)
theorem clX9_oneGoes_28 {X : CX} {d0 mc0 ms0 d mc ms cells slots : Nat} {pp : Int32 → Hp → Prop} {h : Hp} {ls : List (Option Value)} {rest : List Value} {b : Nat} {a0 : Value} {post : Hp → Prop} (C : CmI X mX9_oneGoes d0 mc0 ms0 pp) (hct : CtV mX9_drop d mc ms [va_rf (some b), a0] h post) (hK : h.K b = 10) (hdd : d < d0) (hmc : cells + mc ≤ mc0) (hms : slots + ms ≤ ms0) (hcat : (rest.map fun v => v.category).sum ≤ 8) (kk : ∀ h', post h' → At X (cells + mc) (slots + ms) 31 ls rest h') : At X cells slots 28 ls (a0 :: va_rf (some b) :: rest) h :=
  st_callV (pc := 28) (M := mX9_drop) (idx := 136) (As := [a0]) C.1 C.2.2.1 C.2.2.2.2.2.2 ⟨wM_RX9_136, wC_X9_drop, wI_RX9, by decide +kernel, by decide⟩ wV_X9_drop wS_X9_drop (ci := 9) (n := 1) rfl rfl (by decide) dX9_oneGoes_28 rfl hdd hcat hK hct hmc hms (fun v h2 hp => by obtain ⟨rfl, hp⟩ := hp; exact kk h2 hp)
theorem clX9_oneGoes_44 {X : CX} {d0 mc0 ms0 d mc ms cells slots : Nat} {pp : Int32 → Hp → Prop} {h : Hp} {ls : List (Option Value)} {rest : List Value} {b : Nat} {a0 a1 : Value} {post : Hp → Prop} (C : CmI X mX9_oneGoes d0 mc0 ms0 pp) (hct : CtV mX9_release d mc ms [va_rf (some b), a0, a1] h post) (hK : h.K b = 10) (hdd : d < d0) (hmc : cells + mc ≤ mc0) (hms : slots + ms ≤ ms0) (hcat : (rest.map fun v => v.category).sum ≤ 8) (kk : ∀ h', post h' → At X (cells + mc) (slots + ms) 47 ls rest h') : At X cells slots 44 ls (a1 :: a0 :: va_rf (some b) :: rest) h :=
  st_callV (pc := 44) (M := mX9_release) (idx := 129) (As := [a0, a1]) C.1 C.2.2.1 C.2.2.2.2.2.2 ⟨wM_RX9_129, wC_X9_release, wI_RX9, by decide +kernel, by decide⟩ wV_X9_release wS_X9_release (ci := 9) (n := 2) rfl rfl (by decide) dX9_oneGoes_44 rfl hdd hcat hK hct hmc hms (fun v h2 hp => by obtain ⟨rfl, hp⟩ := hp; exact kk h2 hp)
theorem sgX9_waits_0 {X : CX} {d mc ms cells slots : Nat} {pp : Int32 → Hp → Prop} {h : Hp} {t : Nat}  (C : CmI X mX9_waits d mc ms pp)  (k0 : At X cells slots 4 [some (va_rf (some t)), some (.int 0), some (.int 0)] [] h) : At X cells slots 0 [some (va_rf (some t)), none, none] [] h := by
  refine st_iconst (pc := 0) (v := 0) C.1 dX9_waits_0 (by decide) ?_
  refine sv_istore_n (pc := 1) (i := 1) C.1 [some (va_rf (some t)), some (.int 0), none] dX9_waits_1 rfl (Nat.le_of_ble_eq_true rfl) (by rw [C.2.1]; exact Nat.le_of_ble_eq_true rfl) rfl rfl ?_
  refine st_iconst (pc := 2) (v := 0) C.1 dX9_waits_2 (by decide) ?_
  refine sv_istore_n (pc := 3) (i := 2) C.1 [some (va_rf (some t)), some (.int 0), some (.int 0)] dX9_waits_3 rfl (Nat.le_of_ble_eq_true rfl) (by rw [C.2.1]; exact Nat.le_of_ble_eq_true rfl) rfl rfl ?_
  exact k0

theorem sgX9_waits_4 {X : CX} {d mc ms cells slots : Nat} {pp : Int32 → Hp → Prop} {h : Hp} {t : Nat} {x1 : Int32} {x2 : Int32}  (C : CmI X mX9_waits d mc ms pp) (hc : cells ≤ mc) (hs : slots ≤ ms) (h0 : h.K t = 10) (k0 : h.I 912 t ≤ x2 → pp x1 h) (k1 : ¬ h.I 912 t ≤ x2 → At X cells slots 15 [some (va_rf (some t)), some (.int x1), some (.int x2)] [.int x2, va_rf (some t), .int x1] h) : At X cells slots 4 [some (va_rf (some t)), some (.int x1), some (.int x2)] [] h := by
  refine st_iload_n (pc := 4) C.1 dX9_waits_4 rfl rfl ?_
  refine st_aload_n (pc := 5) C.1 (some t) dX9_waits_5 rfl rfl ?_
  refine gI_RX9_88 (pc := 6) C.1 (h.I 912 t) dX9_waits_6 h0 rfl ?_
  refine st_icmp_ge (pc := 9) (tgt := 39) C.1 dX9_waits_9 (by decide) (fun c0 => ?_) (fun c0 => ?_)
  · refine st_iload_n (pc := 39) C.1 dX9_waits_39 rfl rfl ?_
    exact rt_i C (Or.inl rfl) dX9_waits_40 hc hs ⟨_, rfl, (k0 c0)⟩
  · refine st_iload_n (pc := 12) C.1 dX9_waits_12 rfl rfl ?_
    refine st_aload_n (pc := 13) C.1 (some t) dX9_waits_13 rfl rfl ?_
    refine st_iload_n (pc := 14) C.1 dX9_waits_14 rfl rfl ?_
    exact (k1 c0)

theorem sgX9_waits_18 {X : CX} {d mc ms cells slots : Nat} {pp : Int32 → Hp → Prop} {h : Hp} {t : Nat} {x1 : Int32} {x2 : Int32} {u0 : Int32} {u1 : Int32} {r0 : Nat} (C : CmI X mX9_waits d mc ms pp) (h0 : h.K t = 10) (h1 : h.R 908 t = some r0) (h2 : h.K r0 = 11) (h3 : u0 = 0 → vp_in x2 (h.N r0)) (k0 : u0 = 0 → At X cells slots 4 [some (va_rf (some t)), some (.int (u1 + (h.AI r0 (x2.toNatClampNeg)))), some (.int (x2 + 1))] [] h) (k1 : ¬ u0 = 0 → At X cells slots 4 [some (va_rf (some t)), some (.int (u1 + 0)), some (.int (x2 + 1))] [] h) : At X cells slots 18 [some (va_rf (some t)), some (.int x1), some (.int x2)] [.int u0, .int u1] h := by
  refine st_if_eq (pc := 18) (tgt := 25) C.1 dX9_waits_18 (by decide) (fun c0 => ?_) (fun c0 => ?_)
  · refine st_aload_n (pc := 25) C.1 (some t) dX9_waits_25 rfl rfl ?_
    refine gR_RX9_23 (pc := 26) C.1 (some r0) dX9_waits_26 h0 h1 ?_
    refine st_iload_n (pc := 29) C.1 dX9_waits_29 rfl rfl ?_
    refine sv_iaload (pc := 30) C.1 (h.AI r0 (x2.toNatClampNeg)) dX9_waits_30 h2 (h3 c0) rfl ?_
    refine st_iadd (pc := 31) C.1 dX9_waits_31 ?_
    refine sv_istore_n (pc := 32) (i := 1) C.1 [some (va_rf (some t)), some (.int (u1 + (h.AI r0 (x2.toNatClampNeg)))), some (.int x2)] dX9_waits_32 rfl (Nat.le_of_ble_eq_true rfl) (by rw [C.2.1]; exact Nat.le_of_ble_eq_true rfl) rfl rfl ?_
    refine sv_iinc (pc := 33) (i := 2) (v := x2 + 1) C.1 [some (va_rf (some t)), some (.int (u1 + (h.AI r0 (x2.toNatClampNeg)))), some (.int (x2 + 1))] dX9_waits_33 rfl rfl (by rw [C.2.1]; exact Nat.le_of_ble_eq_true rfl) rfl rfl ?_
    refine st_goto (pc := 36) (tgt := 4) C.1 dX9_waits_36 (by decide) ?_
    exact (k0 c0)
  · refine st_iconst (pc := 21) (v := 0) C.1 dX9_waits_21 (by decide) ?_
    refine st_goto (pc := 22) (tgt := 31) C.1 dX9_waits_22 (by decide) ?_
    refine st_iadd (pc := 31) C.1 dX9_waits_31 ?_
    refine sv_istore_n (pc := 32) (i := 1) C.1 [some (va_rf (some t)), some (.int (u1 + 0)), some (.int x2)] dX9_waits_32 rfl (Nat.le_of_ble_eq_true rfl) (by rw [C.2.1]; exact Nat.le_of_ble_eq_true rfl) rfl rfl ?_
    refine sv_iinc (pc := 33) (i := 2) (v := x2 + 1) C.1 [some (va_rf (some t)), some (.int (u1 + 0)), some (.int (x2 + 1))] dX9_waits_33 rfl rfl (by rw [C.2.1]; exact Nat.le_of_ble_eq_true rfl) rfl rfl ?_
    refine st_goto (pc := 36) (tgt := 4) C.1 dX9_waits_36 (by decide) ?_
    exact (k1 c0)

theorem clX9_waits_15 {X : CX} {d0 mc0 ms0 d mc ms cells slots : Nat} {pp : Int32 → Hp → Prop} {h : Hp} {ls : List (Option Value)} {rest : List Value} {b : Nat} {a0 : Value} {post : Int32 → Hp → Prop} (C : CmI X mX9_waits d0 mc0 ms0 pp) (hct : CtI mX9_isLive d mc ms [va_rf (some b), a0] h post) (hK : h.K b = 10) (hdd : d < d0) (hmc : cells + mc ≤ mc0) (hms : slots + ms ≤ ms0) (hcat : (rest.map fun v => v.category).sum ≤ 8) (kk : ∀ r h', post r h' → At X (cells + mc) (slots + ms) 18 ls (.int r :: rest) h') : At X cells slots 15 ls (a0 :: va_rf (some b) :: rest) h :=
  st_callV (pc := 15) (M := mX9_isLive) (idx := 98) (As := [a0]) C.1 C.2.2.1 C.2.2.2.2.2.2 ⟨wM_RX9_98, wC_X9_isLive, wI_RX9, by decide +kernel, by decide⟩ wV_X9_isLive wS_X9_isLive (ci := 9) (n := 1) rfl rfl (by decide) dX9_waits_15 rfl hdd hcat hK hct hmc hms (fun v h2 hp => by obtain ⟨r, rfl, hp⟩ := hp; exact kk r h2 hp)
theorem sgX9_give_0 {X : CX} {d mc ms cells slots : Nat} {pp : Int32 → Hp → Prop} {h : Hp} {t : Nat} {x1 : Int32}  (C : CmI X mX9_give d mc ms pp) (h0 : h.K t = 10) (k0 : lg_cmp ((((x1.toInt64 + (2 * ((h.I 901 t).toInt64))) + 3) / 4) * 4) 4000 ≤ 0 → At X cells slots 51 [some (va_rf (some t)), some (.int x1), some (.long (x1.toInt64 + (2 * ((h.I 901 t).toInt64)))), none, some (.long ((((x1.toInt64 + (2 * ((h.I 901 t).toInt64))) + 3) / 4) * 4)), none, some (.int (((((x1.toInt64 + (2 * ((h.I 901 t).toInt64))) + 3) / 4) * 4).toInt32)), none, none, none] [.int (((((x1.toInt64 + (2 * ((h.I 901 t).toInt64))) + 3) / 4) * 4).toInt32), va_rf (some t)] h) (k1 : ¬ lg_cmp ((((x1.toInt64 + (2 * ((h.I 901 t).toInt64))) + 3) / 4) * 4) 4000 ≤ 0 → At X cells slots 51 [some (va_rf (some t)), some (.int x1), some (.long (x1.toInt64 + (2 * ((h.I 901 t).toInt64)))), none, some (.long ((((x1.toInt64 + (2 * ((h.I 901 t).toInt64))) + 3) / 4) * 4)), none, some (.int 4000), none, none, none] [.int 4000, va_rf (some t)] h) : At X cells slots 0 [some (va_rf (some t)), some (.int x1), none, none, none, none, none, none, none, none] [] h := by
  refine st_iload_n (pc := 0) C.1 dX9_give_0 rfl rfl ?_
  refine st_i2l (pc := 1) C.1 dX9_give_1 ?_
  refine st_ldc2 (pc := 2) (v := 2) C.1 dX9_give_2 wL_142 ?_
  refine st_aload_n (pc := 5) C.1 (some t) dX9_give_5 rfl rfl ?_
  refine gI_RX9_79 (pc := 6) C.1 (h.I 901 t) dX9_give_6 h0 rfl ?_
  refine st_i2l (pc := 9) C.1 dX9_give_9 ?_
  refine st_lmul (pc := 10) C.1 dX9_give_10 ?_
  refine st_ladd (pc := 11) C.1 dX9_give_11 ?_
  refine sv_lstore_n (pc := 12) (i := 2) C.1 [some (va_rf (some t)), some (.int x1), some (.long (x1.toInt64 + (2 * ((h.I 901 t).toInt64)))), none, none, none, none, none, none, none] dX9_give_12 rfl (Nat.le_of_ble_eq_true rfl) (by rw [C.2.1]; exact Nat.le_of_ble_eq_true rfl) rfl rfl ?_
  refine st_lload_n (pc := 13) C.1 dX9_give_13 rfl rfl ?_
  refine st_ldc2 (pc := 14) (v := 3) C.1 dX9_give_14 wL_144 ?_
  refine st_ladd (pc := 17) C.1 dX9_give_17 ?_
  refine st_ldc2 (pc := 18) (v := 4) C.1 dX9_give_18 wL_146 ?_
  refine st_ldiv (pc := 21) C.1 dX9_give_21 (by decide) ?_
  refine st_ldc2 (pc := 22) (v := 4) C.1 dX9_give_22 wL_146 ?_
  refine st_lmul (pc := 25) C.1 dX9_give_25 ?_
  refine sv_lstore (pc := 26) (i := 4) C.1 [some (va_rf (some t)), some (.int x1), some (.long (x1.toInt64 + (2 * ((h.I 901 t).toInt64)))), none, some (.long ((((x1.toInt64 + (2 * ((h.I 901 t).toInt64))) + 3) / 4) * 4)), none, none, none, none, none] dX9_give_26 (Nat.le_of_ble_eq_true rfl) (by rw [C.2.1]; exact Nat.le_of_ble_eq_true rfl) rfl rfl ?_
  refine st_lload (pc := 28) C.1 dX9_give_28 rfl ?_
  refine st_ldc2 (pc := 30) (v := 4000) C.1 dX9_give_30 wL_148 ?_
  refine st_lcmp (pc := 33) C.1 dX9_give_33 ?_
  refine st_if_le (pc := 34) (tgt := 43) C.1 dX9_give_34 (by decide) (fun c0 => ?_) (fun c0 => ?_)
  · refine st_lload (pc := 43) C.1 dX9_give_43 rfl ?_
    refine st_l2i (pc := 45) C.1 dX9_give_45 ?_
    refine sv_istore (pc := 46) (i := 6) C.1 [some (va_rf (some t)), some (.int x1), some (.long (x1.toInt64 + (2 * ((h.I 901 t).toInt64)))), none, some (.long ((((x1.toInt64 + (2 * ((h.I 901 t).toInt64))) + 3) / 4) * 4)), none, some (.int (((((x1.toInt64 + (2 * ((h.I 901 t).toInt64))) + 3) / 4) * 4).toInt32)), none, none, none] dX9_give_46 (Nat.le_of_ble_eq_true rfl) (by rw [C.2.1]; exact Nat.le_of_ble_eq_true rfl) rfl rfl ?_
    refine st_aload_n (pc := 48) C.1 (some t) dX9_give_48 rfl rfl ?_
    refine st_iload (pc := 49) C.1 dX9_give_49 rfl ?_
    exact (k0 c0)
  · refine st_sipush (pc := 37) (v := 4000) C.1 dX9_give_37 (by decide) ?_
    refine st_goto (pc := 40) (tgt := 46) C.1 dX9_give_40 (by decide) ?_
    refine sv_istore (pc := 46) (i := 6) C.1 [some (va_rf (some t)), some (.int x1), some (.long (x1.toInt64 + (2 * ((h.I 901 t).toInt64)))), none, some (.long ((((x1.toInt64 + (2 * ((h.I 901 t).toInt64))) + 3) / 4) * 4)), none, some (.int 4000), none, none, none] dX9_give_46 (Nat.le_of_ble_eq_true rfl) (by rw [C.2.1]; exact Nat.le_of_ble_eq_true rfl) rfl rfl ?_
    refine st_aload_n (pc := 48) C.1 (some t) dX9_give_48 rfl rfl ?_
    refine st_iload (pc := 49) C.1 dX9_give_49 rfl ?_
    exact (k1 c0)

theorem sgX9_give_54 {X : CX} {d mc ms cells slots : Nat} {pp : Int32 → Hp → Prop} {h : Hp} {t : Nat} {x1 : Int32} {y2 : Int64} {y4 : Int64} {x6 : Int32} {u0 : Int32}  (C : CmI X mX9_give d mc ms pp)  (k0 : At X cells slots 59 [some (va_rf (some t)), some (.int x1), some (.long (y2)), none, some (.long (y4)), none, some (.int x6), some (.int u0), some (.int 1), none] [] h) : At X cells slots 54 [some (va_rf (some t)), some (.int x1), some (.long (y2)), none, some (.long (y4)), none, some (.int x6), none, none, none] [.int u0] h := by
  refine sv_istore (pc := 54) (i := 7) C.1 [some (va_rf (some t)), some (.int x1), some (.long (y2)), none, some (.long (y4)), none, some (.int x6), some (.int u0), none, none] dX9_give_54 (Nat.le_of_ble_eq_true rfl) (by rw [C.2.1]; exact Nat.le_of_ble_eq_true rfl) rfl rfl ?_
  refine st_iconst (pc := 56) (v := 1) C.1 dX9_give_56 (by decide) ?_
  refine sv_istore (pc := 57) (i := 8) C.1 [some (va_rf (some t)), some (.int x1), some (.long (y2)), none, some (.long (y4)), none, some (.int x6), some (.int u0), some (.int 1), none] dX9_give_57 (Nat.le_of_ble_eq_true rfl) (by rw [C.2.1]; exact Nat.le_of_ble_eq_true rfl) rfl rfl ?_
  exact k0

theorem sgX9_give_59 {X : CX} {d mc ms cells slots : Nat} {pp : Int32 → Hp → Prop} {h : Hp} {t : Nat} {x1 : Int32} {y2 : Int64} {y4 : Int64} {x6 : Int32} {x7 : Int32} {x8 : Int32} {r0 : Nat} {r1 : Nat} {r2 : Nat} {r3 : Nat} {r4 : Nat} (C : CmI X mX9_give d mc ms pp) (hc : cells ≤ mc) (hs : slots ≤ ms) (h0 : h.K t = 10) (h1 : h.R 907 t = some r0) (h2 : h.K r0 = 11) (h3 : ¬ x7 = (-1) → ¬ x7 = (-1) → vp_in (h.I 912 t) (h.N r0)) (h4 : h.R 908 t = some r1) (h5 : h.K r1 = 11) (h6 : ¬ x7 = (-1) → ¬ x7 = (-1) → vp_in (h.I 912 t) (h.N r1)) (h7 : h.R 909 t = some r2) (h8 : h.K r2 = 11) (h9 : ¬ x7 = (-1) → ¬ x7 = (-1) → vp_in (h.I 912 t) (h.N r2)) (h10 : h.R 910 t = some r3) (h11 : h.K r3 = 11) (h12 : ¬ x7 = (-1) → ¬ x7 = (-1) → vp_in (h.I 912 t) (h.N r3)) (h13 : h.R 911 t = some r4) (h14 : h.K r4 = 11) (h15 : ¬ x7 = (-1) → ¬ x7 = (-1) → vp_in (h.I 912 t) (h.N r4)) (h16 : x7 = (-1) → x8 = 0 → ¬ x7 = (-1) → vp_in (h.I 912 t) (h.N r0)) (h17 : x7 = (-1) → x8 = 0 → ¬ x7 = (-1) → vp_in (h.I 912 t) (h.N r1)) (h18 : x7 = (-1) → x8 = 0 → ¬ x7 = (-1) → vp_in (h.I 912 t) (h.N r2)) (h19 : x7 = (-1) → x8 = 0 → ¬ x7 = (-1) → vp_in (h.I 912 t) (h.N r3)) (h20 : x7 = (-1) → x8 = 0 → ¬ x7 = (-1) → vp_in (h.I 912 t) (h.N r4)) (k0 : ¬ x7 = (-1) → ¬ x7 = (-1) → At X cells slots 178 [some (va_rf (some t)), some (.int x1), some (.long (y2)), none, some (.long (y4)), none, some (.int x6), some (.int x7), some (.int x8), some (.int 0)] [] (((((((h.sAI r0 ((h.I 912 t).toNatClampNeg) x7).sAI r1 ((h.I 912 t).toNatClampNeg) x6).sAI r2 ((h.I 912 t).toNatClampNeg) x1).sAI r3 ((h.I 912 t).toNatClampNeg) (h.I 916 t)).sAI r4 ((h.I 912 t).toNatClampNeg) 0).sI 912 t ((h.I 912 t) + 1)).sI 916 t ((h.I 916 t) + 1))) (k1 : ¬ x7 = (-1) → x7 = (-1) → pp 0 h) (k2 : x7 = (-1) → x8 = 0 → ¬ x7 = (-1) → At X cells slots 178 [some (va_rf (some t)), some (.int x1), some (.long (y2)), none, some (.long (y4)), none, some (.int x6), some (.int x7), some (.int x8), some (.int 0)] [] (((((((h.sAI r0 ((h.I 912 t).toNatClampNeg) x7).sAI r1 ((h.I 912 t).toNatClampNeg) x6).sAI r2 ((h.I 912 t).toNatClampNeg) x1).sAI r3 ((h.I 912 t).toNatClampNeg) (h.I 916 t)).sAI r4 ((h.I 912 t).toNatClampNeg) 0).sI 912 t ((h.I 912 t) + 1)).sI 916 t ((h.I 916 t) + 1))) (k3 : x7 = (-1) → x8 = 0 → x7 = (-1) → pp 0 h) (k4 : x7 = (-1) → ¬ x8 = 0 → At X cells slots 71 [some (va_rf (some t)), some (.int x1), some (.long (y2)), none, some (.long (y4)), none, some (.int x6), some (.int x7), some (.int x8), none] [va_rf (some t)] h) : At X cells slots 59 [some (va_rf (some t)), some (.int x1), some (.long (y2)), none, some (.long (y4)), none, some (.int x6), some (.int x7), some (.int x8), none] [] h := by
  refine st_iload (pc := 59) C.1 dX9_give_59 rfl ?_
  refine st_iconst (pc := 61) (v := (-1)) C.1 dX9_give_61 (by decide) ?_
  refine st_icmp_ne (pc := 62) (tgt := 92) C.1 dX9_give_62 (by decide) (fun c0 => ?_) (fun c0 => ?_)
  · refine st_iload (pc := 92) C.1 dX9_give_92 rfl ?_
    refine st_iconst (pc := 94) (v := (-1)) C.1 dX9_give_94 (by decide) ?_
    refine st_icmp_ne (pc := 95) (tgt := 100) C.1 dX9_give_95 (by decide) (fun c1 => ?_) (fun c1 => ?_)
    · refine st_aload_n (pc := 100) C.1 (some t) dX9_give_100 rfl rfl ?_
      refine gR_RX9_20 (pc := 101) C.1 (some r0) dX9_give_101 h0 h1 ?_
      refine st_aload_n (pc := 104) C.1 (some t) dX9_give_104 rfl rfl ?_
      refine gI_RX9_88 (pc := 105) C.1 (h.I 912 t) dX9_give_105 h0 rfl ?_
      refine st_iload (pc := 108) C.1 dX9_give_108 rfl ?_
      refine st_iastore (pc := 110) C.1 dX9_give_110 h2 (h3 c0 c1) ?_
      refine st_aload_n (pc := 111) C.1 (some t) dX9_give_111 rfl rfl ?_
      refine gR_RX9_23 (pc := 112) C.1 (some r1) dX9_give_112 h0 h4 ?_
      refine st_aload_n (pc := 115) C.1 (some t) dX9_give_115 rfl rfl ?_
      refine gI_RX9_88 (pc := 116) C.1 (h.I 912 t) dX9_give_116 h0 rfl ?_
      refine st_iload (pc := 119) C.1 dX9_give_119 rfl ?_
      refine st_iastore (pc := 121) C.1 dX9_give_121 h5 (h6 c0 c1) ?_
      refine st_aload_n (pc := 122) C.1 (some t) dX9_give_122 rfl rfl ?_
      refine gR_RX9_26 (pc := 123) C.1 (some r2) dX9_give_123 h0 h7 ?_
      refine st_aload_n (pc := 126) C.1 (some t) dX9_give_126 rfl rfl ?_
      refine gI_RX9_88 (pc := 127) C.1 (h.I 912 t) dX9_give_127 h0 rfl ?_
      refine st_iload_n (pc := 130) C.1 dX9_give_130 rfl rfl ?_
      refine st_iastore (pc := 131) C.1 dX9_give_131 h8 (h9 c0 c1) ?_
      refine st_aload_n (pc := 132) C.1 (some t) dX9_give_132 rfl rfl ?_
      refine gR_RX9_29 (pc := 133) C.1 (some r3) dX9_give_133 h0 h10 ?_
      refine st_aload_n (pc := 136) C.1 (some t) dX9_give_136 rfl rfl ?_
      refine gI_RX9_88 (pc := 137) C.1 (h.I 912 t) dX9_give_137 h0 rfl ?_
      refine st_aload_n (pc := 140) C.1 (some t) dX9_give_140 rfl rfl ?_
      refine gI_RX9_157 (pc := 141) C.1 (h.I 916 t) dX9_give_141 h0 rfl ?_
      refine st_iastore (pc := 144) C.1 dX9_give_144 h11 (h12 c0 c1) ?_
      refine st_aload_n (pc := 145) C.1 (some t) dX9_give_145 rfl rfl ?_
      refine gR_RX9_32 (pc := 146) C.1 (some r4) dX9_give_146 h0 h13 ?_
      refine st_aload_n (pc := 149) C.1 (some t) dX9_give_149 rfl rfl ?_
      refine gI_RX9_88 (pc := 150) C.1 (h.I 912 t) dX9_give_150 h0 rfl ?_
      refine st_iconst (pc := 153) (v := 0) C.1 dX9_give_153 (by decide) ?_
      refine st_iastore (pc := 154) C.1 dX9_give_154 h14 (h15 c0 c1) ?_
      refine st_aload_n (pc := 155) C.1 (some t) dX9_give_155 rfl rfl ?_
      refine st_dup (pc := 156) C.1 dX9_give_156 (rf_cat (some t)) ?_
      refine gI_RX9_88 (pc := 157) C.1 (h.I 912 t) dX9_give_157 h0 rfl ?_
      refine st_iconst (pc := 160) (v := 1) C.1 dX9_give_160 (by decide) ?_
      refine st_iadd (pc := 161) C.1 dX9_give_161 ?_
      refine pI_RX9_88 (pc := 162) C.1 dX9_give_162 h0 ?_
      refine st_aload_n (pc := 165) C.1 (some t) dX9_give_165 rfl rfl ?_
      refine st_dup (pc := 166) C.1 dX9_give_166 (rf_cat (some t)) ?_
      refine gI_RX9_157 (pc := 167) C.1 (h.I 916 t) dX9_give_167 h0 rfl ?_
      refine st_iconst (pc := 170) (v := 1) C.1 dX9_give_170 (by decide) ?_
      refine st_iadd (pc := 171) C.1 dX9_give_171 ?_
      refine pI_RX9_157 (pc := 172) C.1 dX9_give_172 h0 ?_
      refine st_iconst (pc := 175) (v := 0) C.1 dX9_give_175 (by decide) ?_
      refine sv_istore (pc := 176) (i := 9) C.1 [some (va_rf (some t)), some (.int x1), some (.long (y2)), none, some (.long (y4)), none, some (.int x6), some (.int x7), some (.int x8), some (.int 0)] dX9_give_176 (Nat.le_of_ble_eq_true rfl) (by rw [C.2.1]; exact Nat.le_of_ble_eq_true rfl) rfl rfl ?_
      exact (k0 c0 c1)
    · refine st_iconst (pc := 98) (v := 0) C.1 dX9_give_98 (by decide) ?_
      exact rt_i C (Or.inl rfl) dX9_give_99 hc hs ⟨_, rfl, (k1 c0 c1)⟩
  · refine st_iload (pc := 65) C.1 dX9_give_65 rfl ?_
    refine st_if_eq (pc := 67) (tgt := 92) C.1 dX9_give_67 (by decide) (fun c2 => ?_) (fun c2 => ?_)
    · refine st_iload (pc := 92) C.1 dX9_give_92 rfl ?_
      refine st_iconst (pc := 94) (v := (-1)) C.1 dX9_give_94 (by decide) ?_
      refine st_icmp_ne (pc := 95) (tgt := 100) C.1 dX9_give_95 (by decide) (fun c3 => ?_) (fun c3 => ?_)
      · refine st_aload_n (pc := 100) C.1 (some t) dX9_give_100 rfl rfl ?_
        refine gR_RX9_20 (pc := 101) C.1 (some r0) dX9_give_101 h0 h1 ?_
        refine st_aload_n (pc := 104) C.1 (some t) dX9_give_104 rfl rfl ?_
        refine gI_RX9_88 (pc := 105) C.1 (h.I 912 t) dX9_give_105 h0 rfl ?_
        refine st_iload (pc := 108) C.1 dX9_give_108 rfl ?_
        refine st_iastore (pc := 110) C.1 dX9_give_110 h2 (h16 c0 c2 c3) ?_
        refine st_aload_n (pc := 111) C.1 (some t) dX9_give_111 rfl rfl ?_
        refine gR_RX9_23 (pc := 112) C.1 (some r1) dX9_give_112 h0 h4 ?_
        refine st_aload_n (pc := 115) C.1 (some t) dX9_give_115 rfl rfl ?_
        refine gI_RX9_88 (pc := 116) C.1 (h.I 912 t) dX9_give_116 h0 rfl ?_
        refine st_iload (pc := 119) C.1 dX9_give_119 rfl ?_
        refine st_iastore (pc := 121) C.1 dX9_give_121 h5 (h17 c0 c2 c3) ?_
        refine st_aload_n (pc := 122) C.1 (some t) dX9_give_122 rfl rfl ?_
        refine gR_RX9_26 (pc := 123) C.1 (some r2) dX9_give_123 h0 h7 ?_
        refine st_aload_n (pc := 126) C.1 (some t) dX9_give_126 rfl rfl ?_
        refine gI_RX9_88 (pc := 127) C.1 (h.I 912 t) dX9_give_127 h0 rfl ?_
        refine st_iload_n (pc := 130) C.1 dX9_give_130 rfl rfl ?_
        refine st_iastore (pc := 131) C.1 dX9_give_131 h8 (h18 c0 c2 c3) ?_
        refine st_aload_n (pc := 132) C.1 (some t) dX9_give_132 rfl rfl ?_
        refine gR_RX9_29 (pc := 133) C.1 (some r3) dX9_give_133 h0 h10 ?_
        refine st_aload_n (pc := 136) C.1 (some t) dX9_give_136 rfl rfl ?_
        refine gI_RX9_88 (pc := 137) C.1 (h.I 912 t) dX9_give_137 h0 rfl ?_
        refine st_aload_n (pc := 140) C.1 (some t) dX9_give_140 rfl rfl ?_
        refine gI_RX9_157 (pc := 141) C.1 (h.I 916 t) dX9_give_141 h0 rfl ?_
        refine st_iastore (pc := 144) C.1 dX9_give_144 h11 (h19 c0 c2 c3) ?_
        refine st_aload_n (pc := 145) C.1 (some t) dX9_give_145 rfl rfl ?_
        refine gR_RX9_32 (pc := 146) C.1 (some r4) dX9_give_146 h0 h13 ?_
        refine st_aload_n (pc := 149) C.1 (some t) dX9_give_149 rfl rfl ?_
        refine gI_RX9_88 (pc := 150) C.1 (h.I 912 t) dX9_give_150 h0 rfl ?_
        refine st_iconst (pc := 153) (v := 0) C.1 dX9_give_153 (by decide) ?_
        refine st_iastore (pc := 154) C.1 dX9_give_154 h14 (h20 c0 c2 c3) ?_
        refine st_aload_n (pc := 155) C.1 (some t) dX9_give_155 rfl rfl ?_
        refine st_dup (pc := 156) C.1 dX9_give_156 (rf_cat (some t)) ?_
        refine gI_RX9_88 (pc := 157) C.1 (h.I 912 t) dX9_give_157 h0 rfl ?_
        refine st_iconst (pc := 160) (v := 1) C.1 dX9_give_160 (by decide) ?_
        refine st_iadd (pc := 161) C.1 dX9_give_161 ?_
        refine pI_RX9_88 (pc := 162) C.1 dX9_give_162 h0 ?_
        refine st_aload_n (pc := 165) C.1 (some t) dX9_give_165 rfl rfl ?_
        refine st_dup (pc := 166) C.1 dX9_give_166 (rf_cat (some t)) ?_
        refine gI_RX9_157 (pc := 167) C.1 (h.I 916 t) dX9_give_167 h0 rfl ?_
        refine st_iconst (pc := 170) (v := 1) C.1 dX9_give_170 (by decide) ?_
        refine st_iadd (pc := 171) C.1 dX9_give_171 ?_
        refine pI_RX9_157 (pc := 172) C.1 dX9_give_172 h0 ?_
        refine st_iconst (pc := 175) (v := 0) C.1 dX9_give_175 (by decide) ?_
        refine sv_istore (pc := 176) (i := 9) C.1 [some (va_rf (some t)), some (.int x1), some (.long (y2)), none, some (.long (y4)), none, some (.int x6), some (.int x7), some (.int x8), some (.int 0)] dX9_give_176 (Nat.le_of_ble_eq_true rfl) (by rw [C.2.1]; exact Nat.le_of_ble_eq_true rfl) rfl rfl ?_
        exact (k2 c0 c2 c3)
      · refine st_iconst (pc := 98) (v := 0) C.1 dX9_give_98 (by decide) ?_
        exact rt_i C (Or.inl rfl) dX9_give_99 hc hs ⟨_, rfl, (k3 c0 c2 c3)⟩
    · refine st_aload_n (pc := 70) C.1 (some t) dX9_give_70 rfl rfl ?_
      exact (k4 c0 c2)

theorem sgX9_give_74 {X : CX} {d mc ms cells slots : Nat} {pp : Int32 → Hp → Prop} {h : Hp} {t : Nat} {x1 : Int32} {y2 : Int64} {y4 : Int64} {x6 : Int32} {x7 : Int32} {x8 : Int32} {u0 : Int32}  (C : CmI X mX9_give d mc ms pp)  (k0 : u0 = 0 → At X cells slots 59 [some (va_rf (some t)), some (.int x1), some (.long (y2)), none, some (.long (y4)), none, some (.int x6), some (.int x7), some (.int u0), none] [] h) (k1 : ¬ u0 = 0 → At X cells slots 84 [some (va_rf (some t)), some (.int x1), some (.long (y2)), none, some (.long (y4)), none, some (.int x6), some (.int x7), some (.int u0), none] [.int x6, va_rf (some t)] h) : At X cells slots 74 [some (va_rf (some t)), some (.int x1), some (.long (y2)), none, some (.long (y4)), none, some (.int x6), some (.int x7), some (.int x8), none] [.int u0] h := by
  refine sv_istore (pc := 74) (i := 8) C.1 [some (va_rf (some t)), some (.int x1), some (.long (y2)), none, some (.long (y4)), none, some (.int x6), some (.int x7), some (.int u0), none] dX9_give_74 (Nat.le_of_ble_eq_true rfl) (by rw [C.2.1]; exact Nat.le_of_ble_eq_true rfl) rfl rfl ?_
  refine st_iload (pc := 76) C.1 dX9_give_76 rfl ?_
  refine st_if_eq (pc := 78) (tgt := 59) C.1 dX9_give_78 (by decide) (fun c0 => ?_) (fun c0 => ?_)
  · exact (k0 c0)
  · refine st_aload_n (pc := 81) C.1 (some t) dX9_give_81 rfl rfl ?_
    refine st_iload (pc := 82) C.1 dX9_give_82 rfl ?_
    exact (k1 c0)

theorem sgX9_give_87 {X : CX} {d mc ms cells slots : Nat} {pp : Int32 → Hp → Prop} {h : Hp} {t : Nat} {x1 : Int32} {y2 : Int64} {y4 : Int64} {x6 : Int32} {x7 : Int32} {x8 : Int32} {u0 : Int32}  (C : CmI X mX9_give d mc ms pp)  (k0 : At X cells slots 59 [some (va_rf (some t)), some (.int x1), some (.long (y2)), none, some (.long (y4)), none, some (.int x6), some (.int u0), some (.int x8), none] [] h) : At X cells slots 87 [some (va_rf (some t)), some (.int x1), some (.long (y2)), none, some (.long (y4)), none, some (.int x6), some (.int x7), some (.int x8), none] [.int u0] h := by
  refine sv_istore (pc := 87) (i := 7) C.1 [some (va_rf (some t)), some (.int x1), some (.long (y2)), none, some (.long (y4)), none, some (.int x6), some (.int u0), some (.int x8), none] dX9_give_87 (Nat.le_of_ble_eq_true rfl) (by rw [C.2.1]; exact Nat.le_of_ble_eq_true rfl) rfl rfl ?_
  refine st_goto (pc := 89) (tgt := 59) C.1 dX9_give_89 (by decide) ?_
  exact k0

theorem sgX9_give_178 {X : CX} {d mc ms cells slots : Nat} {pp : Int32 → Hp → Prop} {h : Hp} {t : Nat} {x1 : Int32} {y2 : Int64} {y4 : Int64} {x6 : Int32} {x7 : Int32} {x8 : Int32} {x9 : Int32} {r0 : Nat} (C : CmI X mX9_give d mc ms pp) (hc : cells ≤ mc) (hs : slots ≤ ms) (h0 : h.K t = 10) (h1 : h.R 904 t = some r0) (h2 : h.K r0 = 11) (h3 : ¬ x1 ≤ x9 → vp_in ((x7 + (h.I 901 t)) + x9) (h.N r0)) (k0 : x1 ≤ x9 → pp (x7 + (h.I 901 t)) h) (k1 : ¬ x1 ≤ x9 → At X cells slots 178 [some (va_rf (some t)), some (.int x1), some (.long (y2)), none, some (.long (y4)), none, some (.int x6), some (.int x7), some (.int x8), some (.int (x9 + 1))] [] (h.sAI r0 (((x7 + (h.I 901 t)) + x9).toNatClampNeg) 0)) : At X cells slots 178 [some (va_rf (some t)), some (.int x1), some (.long (y2)), none, some (.long (y4)), none, some (.int x6), some (.int x7), some (.int x8), some (.int x9)] [] h := by
  refine st_iload (pc := 178) C.1 dX9_give_178 rfl ?_
  refine st_iload_n (pc := 180) C.1 dX9_give_180 rfl rfl ?_
  refine st_icmp_ge (pc := 181) (tgt := 206) C.1 dX9_give_181 (by decide) (fun c0 => ?_) (fun c0 => ?_)
  · refine st_iload (pc := 206) C.1 dX9_give_206 rfl ?_
    refine st_aload_n (pc := 208) C.1 (some t) dX9_give_208 rfl rfl ?_
    refine gI_RX9_79 (pc := 209) C.1 (h.I 901 t) dX9_give_209 h0 rfl ?_
    refine st_iadd (pc := 212) C.1 dX9_give_212 ?_
    exact rt_i C (Or.inl rfl) dX9_give_213 hc hs ⟨_, rfl, (k0 c0)⟩
  · refine st_aload_n (pc := 184) C.1 (some t) dX9_give_184 rfl rfl ?_
    refine gR_RX9_7 (pc := 185) C.1 (some r0) dX9_give_185 h0 h1 ?_
    refine st_iload (pc := 188) C.1 dX9_give_188 rfl ?_
    refine st_aload_n (pc := 190) C.1 (some t) dX9_give_190 rfl rfl ?_
    refine gI_RX9_79 (pc := 191) C.1 (h.I 901 t) dX9_give_191 h0 rfl ?_
    refine st_iadd (pc := 194) C.1 dX9_give_194 ?_
    refine st_iload (pc := 195) C.1 dX9_give_195 rfl ?_
    refine st_iadd (pc := 197) C.1 dX9_give_197 ?_
    refine st_iconst (pc := 198) (v := 0) C.1 dX9_give_198 (by decide) ?_
    refine st_iastore (pc := 199) C.1 dX9_give_199 h2 (h3 c0) ?_
    refine sv_iinc (pc := 200) (i := 9) (v := x9 + 1) C.1 [some (va_rf (some t)), some (.int x1), some (.long (y2)), none, some (.long (y4)), none, some (.int x6), some (.int x7), some (.int x8), some (.int (x9 + 1))] dX9_give_200 rfl rfl (by rw [C.2.1]; exact Nat.le_of_ble_eq_true rfl) rfl rfl ?_
    refine st_goto (pc := 203) (tgt := 178) C.1 dX9_give_203 (by decide) ?_
    exact (k1 c0)

theorem clX9_give_51 {X : CX} {d0 mc0 ms0 d mc ms cells slots : Nat} {pp : Int32 → Hp → Prop} {h : Hp} {ls : List (Option Value)} {rest : List Value} {b : Nat} {a0 : Value} {post : Int32 → Hp → Prop} (C : CmI X mX9_give d0 mc0 ms0 pp) (hct : CtI mX9_find d mc ms [va_rf (some b), a0] h post) (hK : h.K b = 10) (hdd : d < d0) (hmc : cells + mc ≤ mc0) (hms : slots + ms ≤ ms0) (hcat : (rest.map fun v => v.category).sum ≤ 8) (kk : ∀ r h', post r h' → At X (cells + mc) (slots + ms) 54 ls (.int r :: rest) h') : At X cells slots 51 ls (a0 :: va_rf (some b) :: rest) h :=
  st_callV (pc := 51) (M := mX9_find) (idx := 150) (As := [a0]) C.1 C.2.2.1 C.2.2.2.2.2.2 ⟨wM_RX9_150, wC_X9_find, wI_RX9, by decide +kernel, by decide⟩ wV_X9_find wS_X9_find (ci := 9) (n := 1) rfl rfl (by decide) dX9_give_51 rfl hdd hcat hK hct hmc hms (fun v h2 hp => by obtain ⟨r, rfl, hp⟩ := hp; exact kk r h2 hp)
theorem clX9_give_71 {X : CX} {d0 mc0 ms0 d mc ms cells slots : Nat} {pp : Int32 → Hp → Prop} {h : Hp} {ls : List (Option Value)} {rest : List Value} {b : Nat} {post : Int32 → Hp → Prop} (C : CmI X mX9_give d0 mc0 ms0 pp) (hct : CtI mX9_oneGoes d mc ms [va_rf (some b)] h post) (hK : h.K b = 10) (hdd : d < d0) (hmc : cells + mc ≤ mc0) (hms : slots + ms ≤ ms0) (hcat : (rest.map fun v => v.category).sum ≤ 8) (kk : ∀ r h', post r h' → At X (cells + mc) (slots + ms) 74 ls (.int r :: rest) h') : At X cells slots 71 ls (va_rf (some b) :: rest) h :=
  st_callV (pc := 71) (M := mX9_oneGoes) (idx := 153) (As := []) C.1 C.2.2.1 C.2.2.2.2.2.2 ⟨wM_RX9_153, wC_X9_oneGoes, wI_RX9, by decide +kernel, by decide⟩ wV_X9_oneGoes wS_X9_oneGoes (ci := 9) (n := 0) rfl rfl (by decide) dX9_give_71 rfl hdd hcat hK hct hmc hms (fun v h2 hp => by obtain ⟨r, rfl, hp⟩ := hp; exact kk r h2 hp)
theorem clX9_give_84 {X : CX} {d0 mc0 ms0 d mc ms cells slots : Nat} {pp : Int32 → Hp → Prop} {h : Hp} {ls : List (Option Value)} {rest : List Value} {b : Nat} {a0 : Value} {post : Int32 → Hp → Prop} (C : CmI X mX9_give d0 mc0 ms0 pp) (hct : CtI mX9_find d mc ms [va_rf (some b), a0] h post) (hK : h.K b = 10) (hdd : d < d0) (hmc : cells + mc ≤ mc0) (hms : slots + ms ≤ ms0) (hcat : (rest.map fun v => v.category).sum ≤ 8) (kk : ∀ r h', post r h' → At X (cells + mc) (slots + ms) 87 ls (.int r :: rest) h') : At X cells slots 84 ls (a0 :: va_rf (some b) :: rest) h :=
  st_callV (pc := 84) (M := mX9_find) (idx := 150) (As := [a0]) C.1 C.2.2.1 C.2.2.2.2.2.2 ⟨wM_RX9_150, wC_X9_find, wI_RX9, by decide +kernel, by decide⟩ wV_X9_find wS_X9_find (ci := 9) (n := 1) rfl rfl (by decide) dX9_give_84 rfl hdd hcat hK hct hmc hms (fun v h2 hp => by obtain ⟨r, rfl, hp⟩ := hp; exact kk r h2 hp)
theorem sgX9_setFree_0 {X : CX} {d mc ms cells slots : Nat} {pp : Hp → Prop} {h : Hp} {t : Nat} {x1 : Int32} {r0 : Nat} (C : CmV X mX9_setFree d mc ms pp) (h0 : h.K t = 10) (h1 : h.R 911 t = some r0) (h2 : h.K r0 = 11) (h3 : vp_in x1 (h.N r0)) (k0 : At X cells slots 20 [some (va_rf (some t)), some (.int x1), none] [] ((h.sI 917 t ((h.I 917 t) + 1)).sAI r0 (x1.toNatClampNeg) ((h.sI 917 t ((h.I 917 t) + 1)).I 917 t))) : At X cells slots 0 [some (va_rf (some t)), some (.int x1), none] [] h := by
  refine st_aload_n (pc := 0) C.1 (some t) dX9_setFree_0 rfl rfl ?_
  refine st_dup (pc := 1) C.1 dX9_setFree_1 (rf_cat (some t)) ?_
  refine gI_RX9_160 (pc := 2) C.1 (h.I 917 t) dX9_setFree_2 h0 rfl ?_
  refine st_iconst (pc := 5) (v := 1) C.1 dX9_setFree_5 (by decide) ?_
  refine st_iadd (pc := 6) C.1 dX9_setFree_6 ?_
  refine pI_RX9_160 (pc := 7) C.1 dX9_setFree_7 h0 ?_
  refine st_aload_n (pc := 10) C.1 (some t) dX9_setFree_10 rfl rfl ?_
  refine gR_RX9_32 (pc := 11) C.1 (some r0) dX9_setFree_11 h0 h1 ?_
  refine st_iload_n (pc := 14) C.1 dX9_setFree_14 rfl rfl ?_
  refine st_aload_n (pc := 15) C.1 (some t) dX9_setFree_15 rfl rfl ?_
  refine gI_RX9_160 (pc := 16) C.1 ((h.sI 917 t ((h.I 917 t) + 1)).I 917 t) dX9_setFree_16 h0 rfl ?_
  refine st_iastore (pc := 19) C.1 dX9_setFree_19 h2 h3 ?_
  exact k0

theorem sgX9_setFree_20 {X : CX} {d mc ms cells slots : Nat} {pp : Hp → Prop} {h : Hp} {t : Nat} {x1 : Int32}  (C : CmV X mX9_setFree d mc ms pp)  (k0 : At X cells slots 21 [some (va_rf (some t)), some (.int x1), none] [va_rf (some t)] h) : At X cells slots 20 [some (va_rf (some t)), some (.int x1), none] [] h := by
  refine st_aload_n (pc := 20) C.1 (some t) dX9_setFree_20 rfl rfl ?_
  exact k0

theorem sgX9_setFree_24 {X : CX} {d mc ms cells slots : Nat} {pp : Hp → Prop} {h : Hp} {t : Nat} {x1 : Int32} {u0 : Int32}  (C : CmV X mX9_setFree d mc ms pp) (hc : cells ≤ mc) (hs : slots ≤ ms) (h0 : h.K t = 10) (k0 : u0 ≤ h.I 902 t → pp h) (k1 : ¬ u0 ≤ h.I 902 t → At X cells slots 32 [some (va_rf (some t)), some (.int x1), none] [va_rf (some t)] h) : At X cells slots 24 [some (va_rf (some t)), some (.int x1), none] [.int u0] h := by
  refine st_aload_n (pc := 24) C.1 (some t) dX9_setFree_24 rfl rfl ?_
  refine gI_RX9_82 (pc := 25) C.1 (h.I 902 t) dX9_setFree_25 h0 rfl ?_
  refine st_icmp_le (pc := 28) (tgt := 39) C.1 dX9_setFree_28 (by decide) (fun c0 => ?_) (fun c0 => ?_)
  · exact rt_v C rfl dX9_setFree_39 hc hs ⟨rfl, (k0 c0)⟩
  · refine st_aload_n (pc := 31) C.1 (some t) dX9_setFree_31 rfl rfl ?_
    exact (k1 c0)

theorem sgX9_setFree_35 {X : CX} {d mc ms cells slots : Nat} {pp : Hp → Prop} {h : Hp} {t : Nat} {x1 : Int32} {u0 : Int32}  (C : CmV X mX9_setFree d mc ms pp)  (k0 : At X cells slots 20 [some (va_rf (some t)), some (.int x1), some (.int u0)] [] h) : At X cells slots 35 [some (va_rf (some t)), some (.int x1), none] [.int u0] h := by
  refine sv_istore_n (pc := 35) (i := 2) C.1 [some (va_rf (some t)), some (.int x1), some (.int u0)] dX9_setFree_35 rfl (Nat.le_of_ble_eq_true rfl) (by rw [C.2.1]; exact Nat.le_of_ble_eq_true rfl) rfl rfl ?_
  refine st_goto (pc := 36) (tgt := 20) C.1 dX9_setFree_36 (by decide) ?_
  exact k0

theorem clX9_setFree_21 {X : CX} {d0 mc0 ms0 d mc ms cells slots : Nat} {pp : Hp → Prop} {h : Hp} {ls : List (Option Value)} {rest : List Value} {b : Nat} {post : Int32 → Hp → Prop} (C : CmV X mX9_setFree d0 mc0 ms0 pp) (hct : CtI mX9_waits d mc ms [va_rf (some b)] h post) (hK : h.K b = 10) (hdd : d < d0) (hmc : cells + mc ≤ mc0) (hms : slots + ms ≤ ms0) (hcat : (rest.map fun v => v.category).sum ≤ 8) (kk : ∀ r h', post r h' → At X (cells + mc) (slots + ms) 24 ls (.int r :: rest) h') : At X cells slots 21 ls (va_rf (some b) :: rest) h :=
  st_callV (pc := 21) (M := mX9_waits) (idx := 163) (As := []) C.1 C.2.2.1 C.2.2.2.2.2.2 ⟨wM_RX9_163, wC_X9_waits, wI_RX9, by decide +kernel, by decide⟩ wV_X9_waits wS_X9_waits (ci := 9) (n := 0) rfl rfl (by decide) dX9_setFree_21 rfl hdd hcat hK hct hmc hms (fun v h2 hp => by obtain ⟨r, rfl, hp⟩ := hp; exact kk r h2 hp)
theorem clX9_setFree_32 {X : CX} {d0 mc0 ms0 d mc ms cells slots : Nat} {pp : Hp → Prop} {h : Hp} {ls : List (Option Value)} {rest : List Value} {b : Nat} {post : Int32 → Hp → Prop} (C : CmV X mX9_setFree d0 mc0 ms0 pp) (hct : CtI mX9_oneGoes d mc ms [va_rf (some b)] h post) (hK : h.K b = 10) (hdd : d < d0) (hmc : cells + mc ≤ mc0) (hms : slots + ms ≤ ms0) (hcat : (rest.map fun v => v.category).sum ≤ 8) (kk : ∀ r h', post r h' → At X (cells + mc) (slots + ms) 35 ls (.int r :: rest) h') : At X cells slots 32 ls (va_rf (some b) :: rest) h :=
  st_callV (pc := 32) (M := mX9_oneGoes) (idx := 153) (As := []) C.1 C.2.2.1 C.2.2.2.2.2.2 ⟨wM_RX9_153, wC_X9_oneGoes, wI_RX9, by decide +kernel, by decide⟩ wV_X9_oneGoes wS_X9_oneGoes (ci := 9) (n := 0) rfl rfl (by decide) dX9_setFree_32 rfl hdd hcat hK hct hmc hms (fun v h2 hp => by obtain ⟨r, rfl, hp⟩ := hp; exact kk r h2 hp)
theorem sgX9_no_0 {X : CX} {d mc ms cells slots : Nat} {pp : Int32 → Hp → Prop} {h : Hp} {t : Nat} {x1 : Int32}  (C : CmI X mX9_no d mc ms pp)  (k0 : At X cells slots 2 [some (va_rf (some t)), some (.int x1), none] [.int x1, va_rf (some t)] h) : At X cells slots 0 [some (va_rf (some t)), some (.int x1), none] [] h := by
  refine st_aload_n (pc := 0) C.1 (some t) dX9_no_0 rfl rfl ?_
  refine st_iload_n (pc := 1) C.1 dX9_no_1 rfl rfl ?_
  exact k0

theorem sgX9_no_5 {X : CX} {d mc ms cells slots : Nat} {pp : Int32 → Hp → Prop} {h : Hp} {t : Nat} {x1 : Int32} {u0 : Int32}  (C : CmI X mX9_no d mc ms pp)  (k0 : ¬ u0 = (-1) → At X cells slots 18 [some (va_rf (some t)), some (.int x1), some (.int 4)] [.int x1, .int 4, va_rf (some t)] h) (k1 : u0 = (-1) → At X cells slots 18 [some (va_rf (some t)), some (.int x1), some (.int 5)] [.int x1, .int 5, va_rf (some t)] h) : At X cells slots 5 [some (va_rf (some t)), some (.int x1), none] [.int u0] h := by
  refine st_iconst (pc := 5) (v := (-1)) C.1 dX9_no_5 (by decide) ?_
  refine st_icmp_ne (pc := 6) (tgt := 13) C.1 dX9_no_6 (by decide) (fun c0 => ?_) (fun c0 => ?_)
  · refine st_iconst (pc := 13) (v := 4) C.1 dX9_no_13 (by decide) ?_
    refine sv_istore_n (pc := 14) (i := 2) C.1 [some (va_rf (some t)), some (.int x1), some (.int 4)] dX9_no_14 rfl (Nat.le_of_ble_eq_true rfl) (by rw [C.2.1]; exact Nat.le_of_ble_eq_true rfl) rfl rfl ?_
    refine st_aload_n (pc := 15) C.1 (some t) dX9_no_15 rfl rfl ?_
    refine st_iload_n (pc := 16) C.1 dX9_no_16 rfl rfl ?_
    refine st_iload_n (pc := 17) C.1 dX9_no_17 rfl rfl ?_
    exact (k0 c0)
  · refine st_iconst (pc := 9) (v := 5) C.1 dX9_no_9 (by decide) ?_
    refine st_goto (pc := 10) (tgt := 14) C.1 dX9_no_10 (by decide) ?_
    refine sv_istore_n (pc := 14) (i := 2) C.1 [some (va_rf (some t)), some (.int x1), some (.int 5)] dX9_no_14 rfl (Nat.le_of_ble_eq_true rfl) (by rw [C.2.1]; exact Nat.le_of_ble_eq_true rfl) rfl rfl ?_
    refine st_aload_n (pc := 15) C.1 (some t) dX9_no_15 rfl rfl ?_
    refine st_iload_n (pc := 16) C.1 dX9_no_16 rfl rfl ?_
    refine st_iload_n (pc := 17) C.1 dX9_no_17 rfl rfl ?_
    exact (k1 c0)

theorem sgX9_no_21 {X : CX} {d mc ms cells slots : Nat} {pp : Int32 → Hp → Prop} {h : Hp} {t : Nat} {x1 : Int32} {x2 : Int32}  (C : CmI X mX9_no d mc ms pp) (hc : cells ≤ mc) (hs : slots ≤ ms)  (k0 : pp x2 h) : At X cells slots 21 [some (va_rf (some t)), some (.int x1), some (.int x2)] [] h := by
  refine st_iload_n (pc := 21) C.1 dX9_no_21 rfl rfl ?_
  exact rt_i C (Or.inl rfl) dX9_no_22 hc hs ⟨_, rfl, k0⟩

theorem clX9_no_2 {X : CX} {d0 mc0 ms0 d mc ms cells slots : Nat} {pp : Int32 → Hp → Prop} {h : Hp} {ls : List (Option Value)} {rest : List Value} {b : Nat} {a0 : Value} {post : Int32 → Hp → Prop} (C : CmI X mX9_no d0 mc0 ms0 pp) (hct : CtI mX9_startsAt d mc ms [va_rf (some b), a0] h post) (hK : h.K b = 10) (hdd : d < d0) (hmc : cells + mc ≤ mc0) (hms : slots + ms ≤ ms0) (hcat : (rest.map fun v => v.category).sum ≤ 8) (kk : ∀ r h', post r h' → At X (cells + mc) (slots + ms) 5 ls (.int r :: rest) h') : At X cells slots 2 ls (a0 :: va_rf (some b) :: rest) h :=
  st_callV (pc := 2) (M := mX9_startsAt) (idx := 166) (As := [a0]) C.1 C.2.2.1 C.2.2.2.2.2.2 ⟨wM_RX9_166, wC_X9_startsAt, wI_RX9, by decide +kernel, by decide⟩ wV_X9_startsAt wS_X9_startsAt (ci := 9) (n := 1) rfl rfl (by decide) dX9_no_2 rfl hdd hcat hK hct hmc hms (fun v h2 hp => by obtain ⟨r, rfl, hp⟩ := hp; exact kk r h2 hp)
theorem clX9_no_18 {X : CX} {d0 mc0 ms0 d mc ms cells slots : Nat} {pp : Int32 → Hp → Prop} {h : Hp} {ls : List (Option Value)} {rest : List Value} {b : Nat} {a0 a1 : Value} {post : Hp → Prop} (C : CmI X mX9_no d0 mc0 ms0 pp) (hct : CtV mX9_faulty d mc ms [va_rf (some b), a0, a1] h post) (hK : h.K b = 10) (hdd : d < d0) (hmc : cells + mc ≤ mc0) (hms : slots + ms ≤ ms0) (hcat : (rest.map fun v => v.category).sum ≤ 8) (kk : ∀ h', post h' → At X (cells + mc) (slots + ms) 21 ls rest h') : At X cells slots 18 ls (a1 :: a0 :: va_rf (some b) :: rest) h :=
  st_callV (pc := 18) (M := mX9_faulty) (idx := 169) (As := [a0, a1]) C.1 C.2.2.1 C.2.2.2.2.2.2 ⟨wM_RX9_169, wC_X9_faulty, wI_RX9, by decide +kernel, by decide⟩ wV_X9_faulty wS_X9_faulty (ci := 9) (n := 2) rfl rfl (by decide) dX9_no_18 rfl hdd hcat hK hct hmc hms (fun v h2 hp => by obtain ⟨rfl, hp⟩ := hp; exact kk h2 hp)
theorem sgX9_liveAt_0 {X : CX} {d mc ms cells slots : Nat} {pp : Int32 → Hp → Prop} {h : Hp} {t : Nat} {x1 : Int32}  (C : CmI X mX9_liveAt d mc ms pp)  (k0 : At X cells slots 2 [some (va_rf (some t)), some (.int x1), none] [.int x1, va_rf (some t)] h) : At X cells slots 0 [some (va_rf (some t)), some (.int x1), none] [] h := by
  refine st_aload_n (pc := 0) C.1 (some t) dX9_liveAt_0 rfl rfl ?_
  refine st_iload_n (pc := 1) C.1 dX9_liveAt_1 rfl rfl ?_
  exact k0

theorem sgX9_liveAt_5 {X : CX} {d mc ms cells slots : Nat} {pp : Int32 → Hp → Prop} {h : Hp} {t : Nat} {x1 : Int32} {u0 : Int32}  (C : CmI X mX9_liveAt d mc ms pp) (hc : cells ≤ mc) (hs : slots ≤ ms)  (k0 : u0 = (-1) → pp (-1) h) (k1 : ¬ u0 = (-1) → At X cells slots 13 [some (va_rf (some t)), some (.int x1), some (.int u0)] [.int u0, va_rf (some t)] h) : At X cells slots 5 [some (va_rf (some t)), some (.int x1), none] [.int u0] h := by
  refine sv_istore_n (pc := 5) (i := 2) C.1 [some (va_rf (some t)), some (.int x1), some (.int u0)] dX9_liveAt_5 rfl (Nat.le_of_ble_eq_true rfl) (by rw [C.2.1]; exact Nat.le_of_ble_eq_true rfl) rfl rfl ?_
  refine st_iload_n (pc := 6) C.1 dX9_liveAt_6 rfl rfl ?_
  refine st_iconst (pc := 7) (v := (-1)) C.1 dX9_liveAt_7 (by decide) ?_
  refine st_icmp_eq (pc := 8) (tgt := 23) C.1 dX9_liveAt_8 (by decide) (fun c0 => ?_) (fun c0 => ?_)
  · refine st_iconst (pc := 23) (v := (-1)) C.1 dX9_liveAt_23 (by decide) ?_
    exact rt_i C (Or.inl rfl) dX9_liveAt_24 hc hs ⟨_, rfl, (k0 c0)⟩
  · refine st_aload_n (pc := 11) C.1 (some t) dX9_liveAt_11 rfl rfl ?_
    refine st_iload_n (pc := 12) C.1 dX9_liveAt_12 rfl rfl ?_
    exact (k1 c0)

theorem sgX9_liveAt_16 {X : CX} {d mc ms cells slots : Nat} {pp : Int32 → Hp → Prop} {h : Hp} {t : Nat} {x1 : Int32} {x2 : Int32} {u0 : Int32}  (C : CmI X mX9_liveAt d mc ms pp) (hc : cells ≤ mc) (hs : slots ≤ ms)  (k0 : u0 = 0 → pp (-1) h) (k1 : ¬ u0 = 0 → pp x2 h) : At X cells slots 16 [some (va_rf (some t)), some (.int x1), some (.int x2)] [.int u0] h := by
  refine st_if_eq (pc := 16) (tgt := 23) C.1 dX9_liveAt_16 (by decide) (fun c0 => ?_) (fun c0 => ?_)
  · refine st_iconst (pc := 23) (v := (-1)) C.1 dX9_liveAt_23 (by decide) ?_
    exact rt_i C (Or.inl rfl) dX9_liveAt_24 hc hs ⟨_, rfl, (k0 c0)⟩
  · refine st_iload_n (pc := 19) C.1 dX9_liveAt_19 rfl rfl ?_
    refine st_goto (pc := 20) (tgt := 24) C.1 dX9_liveAt_20 (by decide) ?_
    exact rt_i C (Or.inl rfl) dX9_liveAt_24 hc hs ⟨_, rfl, (k1 c0)⟩

theorem clX9_liveAt_2 {X : CX} {d0 mc0 ms0 d mc ms cells slots : Nat} {pp : Int32 → Hp → Prop} {h : Hp} {ls : List (Option Value)} {rest : List Value} {b : Nat} {a0 : Value} {post : Int32 → Hp → Prop} (C : CmI X mX9_liveAt d0 mc0 ms0 pp) (hct : CtI mX9_startsAt d mc ms [va_rf (some b), a0] h post) (hK : h.K b = 10) (hdd : d < d0) (hmc : cells + mc ≤ mc0) (hms : slots + ms ≤ ms0) (hcat : (rest.map fun v => v.category).sum ≤ 8) (kk : ∀ r h', post r h' → At X (cells + mc) (slots + ms) 5 ls (.int r :: rest) h') : At X cells slots 2 ls (a0 :: va_rf (some b) :: rest) h :=
  st_callV (pc := 2) (M := mX9_startsAt) (idx := 166) (As := [a0]) C.1 C.2.2.1 C.2.2.2.2.2.2 ⟨wM_RX9_166, wC_X9_startsAt, wI_RX9, by decide +kernel, by decide⟩ wV_X9_startsAt wS_X9_startsAt (ci := 9) (n := 1) rfl rfl (by decide) dX9_liveAt_2 rfl hdd hcat hK hct hmc hms (fun v h2 hp => by obtain ⟨r, rfl, hp⟩ := hp; exact kk r h2 hp)
theorem clX9_liveAt_13 {X : CX} {d0 mc0 ms0 d mc ms cells slots : Nat} {pp : Int32 → Hp → Prop} {h : Hp} {ls : List (Option Value)} {rest : List Value} {b : Nat} {a0 : Value} {post : Int32 → Hp → Prop} (C : CmI X mX9_liveAt d0 mc0 ms0 pp) (hct : CtI mX9_isLive d mc ms [va_rf (some b), a0] h post) (hK : h.K b = 10) (hdd : d < d0) (hmc : cells + mc ≤ mc0) (hms : slots + ms ≤ ms0) (hcat : (rest.map fun v => v.category).sum ≤ 8) (kk : ∀ r h', post r h' → At X (cells + mc) (slots + ms) 16 ls (.int r :: rest) h') : At X cells slots 13 ls (a0 :: va_rf (some b) :: rest) h :=
  st_callV (pc := 13) (M := mX9_isLive) (idx := 98) (As := [a0]) C.1 C.2.2.1 C.2.2.2.2.2.2 ⟨wM_RX9_98, wC_X9_isLive, wI_RX9, by decide +kernel, by decide⟩ wV_X9_isLive wS_X9_isLive (ci := 9) (n := 1) rfl rfl (by decide) dX9_liveAt_13 rfl hdd hcat hK hct hmc hms (fun v h2 hp => by obtain ⟨r, rfl, hp⟩ := hp; exact kk r h2 hp)
theorem sgX9_alloc_0 {X : CX} {d mc ms cells slots : Nat} {pp : Int32 → Hp → Prop} {h : Hp} {t : Nat} {x1 : Int32}  (C : CmI X mX9_alloc d mc ms pp) (hc : cells ≤ mc) (hs : slots ≤ ms) (h0 : h.K t = 10) (k0 : 1 ≤ x1 → At X cells slots 16 [some (va_rf (some t)), some (.int x1)] [.int x1, va_rf (some t)] (h.sI 903 t 0)) (k1 : ¬ 1 ≤ x1 → pp 0 (h.sI 903 t 0)) : At X cells slots 0 [some (va_rf (some t)), some (.int x1)] [] h := by
  refine st_aload_n (pc := 0) C.1 (some t) dX9_alloc_0 rfl rfl ?_
  refine st_iconst (pc := 1) (v := 0) C.1 dX9_alloc_1 (by decide) ?_
  refine pI_RX9_85 (pc := 2) C.1 dX9_alloc_2 h0 ?_
  refine st_iload_n (pc := 5) C.1 dX9_alloc_5 rfl rfl ?_
  refine st_iconst (pc := 6) (v := 1) C.1 dX9_alloc_6 (by decide) ?_
  refine st_icmp_ge (pc := 7) (tgt := 14) C.1 dX9_alloc_7 (by decide) (fun c0 => ?_) (fun c0 => ?_)
  · refine st_aload_n (pc := 14) C.1 (some t) dX9_alloc_14 rfl rfl ?_
    refine st_iload_n (pc := 15) C.1 dX9_alloc_15 rfl rfl ?_
    exact (k0 c0)
  · refine st_iconst (pc := 10) (v := 0) C.1 dX9_alloc_10 (by decide) ?_
    refine st_goto (pc := 11) (tgt := 19) C.1 dX9_alloc_11 (by decide) ?_
    exact rt_i C (Or.inl rfl) dX9_alloc_19 hc hs ⟨_, rfl, (k1 c0)⟩

theorem sgX9_alloc_19 {X : CX} {d mc ms cells slots : Nat} {pp : Int32 → Hp → Prop} {h : Hp} {t : Nat} {x1 : Int32} {u0 : Int32}  (C : CmI X mX9_alloc d mc ms pp) (hc : cells ≤ mc) (hs : slots ≤ ms)  (k0 : pp u0 h) : At X cells slots 19 [some (va_rf (some t)), some (.int x1)] [.int u0] h := by
  exact rt_i C (Or.inl rfl) dX9_alloc_19 hc hs ⟨_, rfl, k0⟩

theorem clX9_alloc_16 {X : CX} {d0 mc0 ms0 d mc ms cells slots : Nat} {pp : Int32 → Hp → Prop} {h : Hp} {ls : List (Option Value)} {rest : List Value} {b : Nat} {a0 : Value} {post : Int32 → Hp → Prop} (C : CmI X mX9_alloc d0 mc0 ms0 pp) (hct : CtI mX9_give d mc ms [va_rf (some b), a0] h post) (hK : h.K b = 10) (hdd : d < d0) (hmc : cells + mc ≤ mc0) (hms : slots + ms ≤ ms0) (hcat : (rest.map fun v => v.category).sum ≤ 8) (kk : ∀ r h', post r h' → At X (cells + mc) (slots + ms) 19 ls (.int r :: rest) h') : At X cells slots 16 ls (a0 :: va_rf (some b) :: rest) h :=
  st_callV (pc := 16) (M := mX9_give) (idx := 172) (As := [a0]) C.1 C.2.2.1 C.2.2.2.2.2.2 ⟨wM_RX9_172, wC_X9_give, wI_RX9, by decide +kernel, by decide⟩ wV_X9_give wS_X9_give (ci := 9) (n := 1) rfl rfl (by decide) dX9_alloc_16 rfl hdd hcat hK hct hmc hms (fun v h2 hp => by obtain ⟨r, rfl, hp⟩ := hp; exact kk r h2 hp)
theorem sgX9_free_0 {X : CX} {d mc ms cells slots : Nat} {pp : Int32 → Hp → Prop} {h : Hp} {t : Nat} {x1 : Int32}  (C : CmI X mX9_free d mc ms pp) (h0 : h.K t = 10) (k0 : At X cells slots 7 [some (va_rf (some t)), some (.int x1), none] [.int x1, va_rf (some t)] (h.sI 903 t 0)) : At X cells slots 0 [some (va_rf (some t)), some (.int x1), none] [] h := by
  refine st_aload_n (pc := 0) C.1 (some t) dX9_free_0 rfl rfl ?_
  refine st_iconst (pc := 1) (v := 0) C.1 dX9_free_1 (by decide) ?_
  refine pI_RX9_85 (pc := 2) C.1 dX9_free_2 h0 ?_
  refine st_aload_n (pc := 5) C.1 (some t) dX9_free_5 rfl rfl ?_
  refine st_iload_n (pc := 6) C.1 dX9_free_6 rfl rfl ?_
  exact k0

theorem sgX9_free_10 {X : CX} {d mc ms cells slots : Nat} {pp : Int32 → Hp → Prop} {h : Hp} {t : Nat} {x1 : Int32} {u0 : Int32}  (C : CmI X mX9_free d mc ms pp)  (k0 : ¬ u0 = (-1) → At X cells slots 24 [some (va_rf (some t)), some (.int x1), some (.int u0)] [.int u0, va_rf (some t)] h) (k1 : u0 = (-1) → At X cells slots 18 [some (va_rf (some t)), some (.int x1), some (.int u0)] [.int x1, va_rf (some t)] h) : At X cells slots 10 [some (va_rf (some t)), some (.int x1), none] [.int u0] h := by
  refine sv_istore_n (pc := 10) (i := 2) C.1 [some (va_rf (some t)), some (.int x1), some (.int u0)] dX9_free_10 rfl (Nat.le_of_ble_eq_true rfl) (by rw [C.2.1]; exact Nat.le_of_ble_eq_true rfl) rfl rfl ?_
  refine st_iload_n (pc := 11) C.1 dX9_free_11 rfl rfl ?_
  refine st_iconst (pc := 12) (v := (-1)) C.1 dX9_free_12 (by decide) ?_
  refine st_icmp_ne (pc := 13) (tgt := 22) C.1 dX9_free_13 (by decide) (fun c0 => ?_) (fun c0 => ?_)
  · refine st_aload_n (pc := 22) C.1 (some t) dX9_free_22 rfl rfl ?_
    refine st_iload_n (pc := 23) C.1 dX9_free_23 rfl rfl ?_
    exact (k0 c0)
  · refine st_aload_n (pc := 16) C.1 (some t) dX9_free_16 rfl rfl ?_
    refine st_iload_n (pc := 17) C.1 dX9_free_17 rfl rfl ?_
    exact (k1 c0)

theorem sgX9_free_21 {X : CX} {d mc ms cells slots : Nat} {pp : Int32 → Hp → Prop} {h : Hp} {t : Nat} {x1 : Int32} {x2 : Int32} {u0 : Int32}  (C : CmI X mX9_free d mc ms pp) (hc : cells ≤ mc) (hs : slots ≤ ms)  (k0 : pp u0 h) : At X cells slots 21 [some (va_rf (some t)), some (.int x1), some (.int x2)] [.int u0] h := by
  exact rt_i C (Or.inl rfl) dX9_free_21 hc hs ⟨_, rfl, k0⟩

theorem sgX9_free_27 {X : CX} {d mc ms cells slots : Nat} {pp : Int32 → Hp → Prop} {h : Hp} {t : Nat} {x1 : Int32} {x2 : Int32}  (C : CmI X mX9_free d mc ms pp) (hc : cells ≤ mc) (hs : slots ≤ ms)  (k0 : pp 0 h) : At X cells slots 27 [some (va_rf (some t)), some (.int x1), some (.int x2)] [] h := by
  refine st_iconst (pc := 27) (v := 0) C.1 dX9_free_27 (by decide) ?_
  exact rt_i C (Or.inl rfl) dX9_free_28 hc hs ⟨_, rfl, k0⟩

theorem clX9_free_7 {X : CX} {d0 mc0 ms0 d mc ms cells slots : Nat} {pp : Int32 → Hp → Prop} {h : Hp} {ls : List (Option Value)} {rest : List Value} {b : Nat} {a0 : Value} {post : Int32 → Hp → Prop} (C : CmI X mX9_free d0 mc0 ms0 pp) (hct : CtI mX9_liveAt d mc ms [va_rf (some b), a0] h post) (hK : h.K b = 10) (hdd : d < d0) (hmc : cells + mc ≤ mc0) (hms : slots + ms ≤ ms0) (hcat : (rest.map fun v => v.category).sum ≤ 8) (kk : ∀ r h', post r h' → At X (cells + mc) (slots + ms) 10 ls (.int r :: rest) h') : At X cells slots 7 ls (a0 :: va_rf (some b) :: rest) h :=
  st_callV (pc := 7) (M := mX9_liveAt) (idx := 175) (As := [a0]) C.1 C.2.2.1 C.2.2.2.2.2.2 ⟨wM_RX9_175, wC_X9_liveAt, wI_RX9, by decide +kernel, by decide⟩ wV_X9_liveAt wS_X9_liveAt (ci := 9) (n := 1) rfl rfl (by decide) dX9_free_7 rfl hdd hcat hK hct hmc hms (fun v h2 hp => by obtain ⟨r, rfl, hp⟩ := hp; exact kk r h2 hp)
theorem clX9_free_18 {X : CX} {d0 mc0 ms0 d mc ms cells slots : Nat} {pp : Int32 → Hp → Prop} {h : Hp} {ls : List (Option Value)} {rest : List Value} {b : Nat} {a0 : Value} {post : Int32 → Hp → Prop} (C : CmI X mX9_free d0 mc0 ms0 pp) (hct : CtI mX9_no d mc ms [va_rf (some b), a0] h post) (hK : h.K b = 10) (hdd : d < d0) (hmc : cells + mc ≤ mc0) (hms : slots + ms ≤ ms0) (hcat : (rest.map fun v => v.category).sum ≤ 8) (kk : ∀ r h', post r h' → At X (cells + mc) (slots + ms) 21 ls (.int r :: rest) h') : At X cells slots 18 ls (a0 :: va_rf (some b) :: rest) h :=
  st_callV (pc := 18) (M := mX9_no) (idx := 178) (As := [a0]) C.1 C.2.2.1 C.2.2.2.2.2.2 ⟨wM_RX9_178, wC_X9_no, wI_RX9, by decide +kernel, by decide⟩ wV_X9_no wS_X9_no (ci := 9) (n := 1) rfl rfl (by decide) dX9_free_18 rfl hdd hcat hK hct hmc hms (fun v h2 hp => by obtain ⟨r, rfl, hp⟩ := hp; exact kk r h2 hp)
theorem clX9_free_24 {X : CX} {d0 mc0 ms0 d mc ms cells slots : Nat} {pp : Int32 → Hp → Prop} {h : Hp} {ls : List (Option Value)} {rest : List Value} {b : Nat} {a0 : Value} {post : Hp → Prop} (C : CmI X mX9_free d0 mc0 ms0 pp) (hct : CtV mX9_setFree d mc ms [va_rf (some b), a0] h post) (hK : h.K b = 10) (hdd : d < d0) (hmc : cells + mc ≤ mc0) (hms : slots + ms ≤ ms0) (hcat : (rest.map fun v => v.category).sum ≤ 8) (kk : ∀ h', post h' → At X (cells + mc) (slots + ms) 27 ls rest h') : At X cells slots 24 ls (a0 :: va_rf (some b) :: rest) h :=
  st_callV (pc := 24) (M := mX9_setFree) (idx := 181) (As := [a0]) C.1 C.2.2.1 C.2.2.2.2.2.2 ⟨wM_RX9_181, wC_X9_setFree, wI_RX9, by decide +kernel, by decide⟩ wV_X9_setFree wS_X9_setFree (ci := 9) (n := 1) rfl rfl (by decide) dX9_free_24 rfl hdd hcat hK hct hmc hms (fun v h2 hp => by obtain ⟨rfl, hp⟩ := hp; exact kk h2 hp)
theorem sgX9_resize_0 {X : CX} {d mc ms cells slots : Nat} {pp : Int32 → Hp → Prop} {h : Hp} {t : Nat} {x1 : Int32} {x2 : Int32}  (C : CmI X mX9_resize d mc ms pp) (hc : cells ≤ mc) (hs : slots ≤ ms) (h0 : h.K t = 10) (k0 : 1 ≤ x2 → At X cells slots 14 [some (va_rf (some t)), some (.int x1), some (.int x2), none, none, none, none] [.int x1, va_rf (some t)] (h.sI 903 t 0)) (k1 : ¬ 1 ≤ x2 → pp 0 (h.sI 903 t 0)) : At X cells slots 0 [some (va_rf (some t)), some (.int x1), some (.int x2), none, none, none, none] [] h := by
  refine st_aload_n (pc := 0) C.1 (some t) dX9_resize_0 rfl rfl ?_
  refine st_iconst (pc := 1) (v := 0) C.1 dX9_resize_1 (by decide) ?_
  refine pI_RX9_85 (pc := 2) C.1 dX9_resize_2 h0 ?_
  refine st_iload_n (pc := 5) C.1 dX9_resize_5 rfl rfl ?_
  refine st_iconst (pc := 6) (v := 1) C.1 dX9_resize_6 (by decide) ?_
  refine st_icmp_ge (pc := 7) (tgt := 12) C.1 dX9_resize_7 (by decide) (fun c0 => ?_) (fun c0 => ?_)
  · refine st_aload_n (pc := 12) C.1 (some t) dX9_resize_12 rfl rfl ?_
    refine st_iload_n (pc := 13) C.1 dX9_resize_13 rfl rfl ?_
    exact (k0 c0)
  · refine st_iconst (pc := 10) (v := 0) C.1 dX9_resize_10 (by decide) ?_
    exact rt_i C (Or.inl rfl) dX9_resize_11 hc hs ⟨_, rfl, (k1 c0)⟩

theorem sgX9_resize_17 {X : CX} {d mc ms cells slots : Nat} {pp : Int32 → Hp → Prop} {h : Hp} {t : Nat} {x1 : Int32} {x2 : Int32} {u0 : Int32} {r0 : Nat} (C : CmI X mX9_resize d mc ms pp) (h0 : h.K t = 10) (h1 : h.R 909 t = some r0) (h2 : h.K r0 = 11) (h3 : ¬ u0 = (-1) → vp_in u0 (h.N r0)) (k0 : ¬ u0 = (-1) → At X cells slots 40 [some (va_rf (some t)), some (.int x1), some (.int x2), some (.int u0), some (.int (h.AI r0 (u0.toNatClampNeg))), none, none] [.int x2, va_rf (some t)] h) (k1 : u0 = (-1) → At X cells slots 25 [some (va_rf (some t)), some (.int x1), some (.int x2), some (.int u0), none, none, none] [.int x1, va_rf (some t)] h) : At X cells slots 17 [some (va_rf (some t)), some (.int x1), some (.int x2), none, none, none, none] [.int u0] h := by
  refine sv_istore_n (pc := 17) (i := 3) C.1 [some (va_rf (some t)), some (.int x1), some (.int x2), some (.int u0), none, none, none] dX9_resize_17 rfl (Nat.le_of_ble_eq_true rfl) (by rw [C.2.1]; exact Nat.le_of_ble_eq_true rfl) rfl rfl ?_
  refine st_iload_n (pc := 18) C.1 dX9_resize_18 rfl rfl ?_
  refine st_iconst (pc := 19) (v := (-1)) C.1 dX9_resize_19 (by decide) ?_
  refine st_icmp_ne (pc := 20) (tgt := 30) C.1 dX9_resize_20 (by decide) (fun c0 => ?_) (fun c0 => ?_)
  · refine st_aload_n (pc := 30) C.1 (some t) dX9_resize_30 rfl rfl ?_
    refine gR_RX9_26 (pc := 31) C.1 (some r0) dX9_resize_31 h0 h1 ?_
    refine st_iload_n (pc := 34) C.1 dX9_resize_34 rfl rfl ?_
    refine sv_iaload (pc := 35) C.1 (h.AI r0 (u0.toNatClampNeg)) dX9_resize_35 h2 (h3 c0) rfl ?_
    refine sv_istore (pc := 36) (i := 4) C.1 [some (va_rf (some t)), some (.int x1), some (.int x2), some (.int u0), some (.int (h.AI r0 (u0.toNatClampNeg))), none, none] dX9_resize_36 (Nat.le_of_ble_eq_true rfl) (by rw [C.2.1]; exact Nat.le_of_ble_eq_true rfl) rfl rfl ?_
    refine st_aload_n (pc := 38) C.1 (some t) dX9_resize_38 rfl rfl ?_
    refine st_iload_n (pc := 39) C.1 dX9_resize_39 rfl rfl ?_
    exact (k0 c0)
  · refine st_aload_n (pc := 23) C.1 (some t) dX9_resize_23 rfl rfl ?_
    refine st_iload_n (pc := 24) C.1 dX9_resize_24 rfl rfl ?_
    exact (k1 c0)

theorem sgX9_resize_28 {X : CX} {d mc ms cells slots : Nat} {pp : Int32 → Hp → Prop} {h : Hp} {t : Nat} {x1 : Int32} {x2 : Int32} {x3 : Int32} {u0 : Int32}  (C : CmI X mX9_resize d mc ms pp) (hc : cells ≤ mc) (hs : slots ≤ ms)  (k0 : pp (-u0) h) : At X cells slots 28 [some (va_rf (some t)), some (.int x1), some (.int x2), some (.int x3), none, none, none] [.int u0] h := by
  refine st_ineg (pc := 28) C.1 dX9_resize_28 ?_
  exact rt_i C (Or.inl rfl) dX9_resize_29 hc hs ⟨_, rfl, k0⟩

theorem sgX9_resize_43 {X : CX} {d mc ms cells slots : Nat} {pp : Int32 → Hp → Prop} {h : Hp} {t : Nat} {x1 : Int32} {x2 : Int32} {x3 : Int32} {x4 : Int32} {u0 : Int32}  (C : CmI X mX9_resize d mc ms pp) (hc : cells ≤ mc) (hs : slots ≤ ms)  (k0 : ¬ u0 = 0 → At X cells slots 55 [some (va_rf (some t)), some (.int x1), some (.int x2), some (.int x3), some (.int x4), some (.int u0), some (.int 0)] [] h) (k1 : u0 = 0 → pp 0 h) : At X cells slots 43 [some (va_rf (some t)), some (.int x1), some (.int x2), some (.int x3), some (.int x4), none, none] [.int u0] h := by
  refine sv_istore (pc := 43) (i := 5) C.1 [some (va_rf (some t)), some (.int x1), some (.int x2), some (.int x3), some (.int x4), some (.int u0), none] dX9_resize_43 (Nat.le_of_ble_eq_true rfl) (by rw [C.2.1]; exact Nat.le_of_ble_eq_true rfl) rfl rfl ?_
  refine st_iload (pc := 45) C.1 dX9_resize_45 rfl ?_
  refine st_if_ne (pc := 47) (tgt := 52) C.1 dX9_resize_47 (by decide) (fun c0 => ?_) (fun c0 => ?_)
  · refine st_iconst (pc := 52) (v := 0) C.1 dX9_resize_52 (by decide) ?_
    refine sv_istore (pc := 53) (i := 6) C.1 [some (va_rf (some t)), some (.int x1), some (.int x2), some (.int x3), some (.int x4), some (.int u0), some (.int 0)] dX9_resize_53 (Nat.le_of_ble_eq_true rfl) (by rw [C.2.1]; exact Nat.le_of_ble_eq_true rfl) rfl rfl ?_
    exact (k0 c0)
  · refine st_iconst (pc := 50) (v := 0) C.1 dX9_resize_50 (by decide) ?_
    exact rt_i C (Or.inl rfl) dX9_resize_51 hc hs ⟨_, rfl, (k1 c0)⟩

theorem sgX9_resize_55 {X : CX} {d mc ms cells slots : Nat} {pp : Int32 → Hp → Prop} {h : Hp} {t : Nat} {x1 : Int32} {x2 : Int32} {x3 : Int32} {x4 : Int32} {x5 : Int32} {x6 : Int32} {r0 : Nat} (C : CmI X mX9_resize d mc ms pp) (h0 : h.K t = 10) (h1 : h.R 904 t = some r0) (h2 : h.K r0 = 11) (h3 : ¬ x2 ≤ x6 → ¬ x4 ≤ x6 → vp_in (x1 + x6) (h.N r0)) (h4 : ¬ x2 ≤ x6 → ¬ x4 ≤ x6 → vp_in (x5 + x6) (h.N r0)) (k0 : x2 ≤ x6 → At X cells slots 96 [some (va_rf (some t)), some (.int x1), some (.int x2), some (.int x3), some (.int x4), some (.int x5), some (.int x6)] [.int x1, va_rf (some t), va_rf (some t)] h) (k1 : ¬ x2 ≤ x6 → x4 ≤ x6 → At X cells slots 96 [some (va_rf (some t)), some (.int x1), some (.int x2), some (.int x3), some (.int x4), some (.int x5), some (.int x6)] [.int x1, va_rf (some t), va_rf (some t)] h) (k2 : ¬ x2 ≤ x6 → ¬ x4 ≤ x6 → At X cells slots 55 [some (va_rf (some t)), some (.int x1), some (.int x2), some (.int x3), some (.int x4), some (.int x5), some (.int (x6 + 1))] [] (h.sAI r0 ((x5 + x6).toNatClampNeg) (h.AI r0 ((x1 + x6).toNatClampNeg)))) : At X cells slots 55 [some (va_rf (some t)), some (.int x1), some (.int x2), some (.int x3), some (.int x4), some (.int x5), some (.int x6)] [] h := by
  refine st_iload (pc := 55) C.1 dX9_resize_55 rfl ?_
  refine st_iload_n (pc := 57) C.1 dX9_resize_57 rfl rfl ?_
  refine st_icmp_ge (pc := 58) (tgt := 93) C.1 dX9_resize_58 (by decide) (fun c0 => ?_) (fun c0 => ?_)
  · refine st_aload_n (pc := 93) C.1 (some t) dX9_resize_93 rfl rfl ?_
    refine st_aload_n (pc := 94) C.1 (some t) dX9_resize_94 rfl rfl ?_
    refine st_iload_n (pc := 95) C.1 dX9_resize_95 rfl rfl ?_
    exact (k0 c0)
  · refine st_iload (pc := 61) C.1 dX9_resize_61 rfl ?_
    refine st_iload (pc := 63) C.1 dX9_resize_63 rfl ?_
    refine st_icmp_ge (pc := 65) (tgt := 93) C.1 dX9_resize_65 (by decide) (fun c1 => ?_) (fun c1 => ?_)
    · refine st_aload_n (pc := 93) C.1 (some t) dX9_resize_93 rfl rfl ?_
      refine st_aload_n (pc := 94) C.1 (some t) dX9_resize_94 rfl rfl ?_
      refine st_iload_n (pc := 95) C.1 dX9_resize_95 rfl rfl ?_
      exact (k1 c0 c1)
    · refine st_aload_n (pc := 68) C.1 (some t) dX9_resize_68 rfl rfl ?_
      refine gR_RX9_7 (pc := 69) C.1 (some r0) dX9_resize_69 h0 h1 ?_
      refine st_iload (pc := 72) C.1 dX9_resize_72 rfl ?_
      refine st_iload (pc := 74) C.1 dX9_resize_74 rfl ?_
      refine st_iadd (pc := 76) C.1 dX9_resize_76 ?_
      refine st_aload_n (pc := 77) C.1 (some t) dX9_resize_77 rfl rfl ?_
      refine gR_RX9_7 (pc := 78) C.1 (some r0) dX9_resize_78 h0 h1 ?_
      refine st_iload_n (pc := 81) C.1 dX9_resize_81 rfl rfl ?_
      refine st_iload (pc := 82) C.1 dX9_resize_82 rfl ?_
      refine st_iadd (pc := 84) C.1 dX9_resize_84 ?_
      refine sv_iaload (pc := 85) C.1 (h.AI r0 ((x1 + x6).toNatClampNeg)) dX9_resize_85 h2 (h3 c0 c1) rfl ?_
      refine st_iastore (pc := 86) C.1 dX9_resize_86 h2 (h4 c0 c1) ?_
      refine sv_iinc (pc := 87) (i := 6) (v := x6 + 1) C.1 [some (va_rf (some t)), some (.int x1), some (.int x2), some (.int x3), some (.int x4), some (.int x5), some (.int (x6 + 1))] dX9_resize_87 rfl rfl (by rw [C.2.1]; exact Nat.le_of_ble_eq_true rfl) rfl rfl ?_
      refine st_goto (pc := 90) (tgt := 55) C.1 dX9_resize_90 (by decide) ?_
      exact (k2 c0 c1)

theorem sgX9_resize_99 {X : CX} {d mc ms cells slots : Nat} {pp : Int32 → Hp → Prop} {h : Hp} {t : Nat} {x1 : Int32} {x2 : Int32} {x3 : Int32} {x4 : Int32} {x5 : Int32} {x6 : Int32} {u0 : Int32} {p1 : Option Nat}  (C : CmI X mX9_resize d mc ms pp)  (k0 : At X cells slots 99 [some (va_rf (some t)), some (.int x1), some (.int x2), some (.int x3), some (.int x4), some (.int x5), some (.int x6)] [.int u0, va_rf p1] h) : At X cells slots 99 [some (va_rf (some t)), some (.int x1), some (.int x2), some (.int x3), some (.int x4), some (.int x5), some (.int x6)] [.int u0, va_rf p1] h := by
  exact k0

theorem sgX9_resize_102 {X : CX} {d mc ms cells slots : Nat} {pp : Int32 → Hp → Prop} {h : Hp} {t : Nat} {x1 : Int32} {x2 : Int32} {x3 : Int32} {x4 : Int32} {x5 : Int32} {x6 : Int32}  (C : CmI X mX9_resize d mc ms pp) (hc : cells ≤ mc) (hs : slots ≤ ms)  (k0 : pp x5 h) : At X cells slots 102 [some (va_rf (some t)), some (.int x1), some (.int x2), some (.int x3), some (.int x4), some (.int x5), some (.int x6)] [] h := by
  refine st_iload (pc := 102) C.1 dX9_resize_102 rfl ?_
  exact rt_i C (Or.inl rfl) dX9_resize_104 hc hs ⟨_, rfl, k0⟩

theorem clX9_resize_14 {X : CX} {d0 mc0 ms0 d mc ms cells slots : Nat} {pp : Int32 → Hp → Prop} {h : Hp} {ls : List (Option Value)} {rest : List Value} {b : Nat} {a0 : Value} {post : Int32 → Hp → Prop} (C : CmI X mX9_resize d0 mc0 ms0 pp) (hct : CtI mX9_liveAt d mc ms [va_rf (some b), a0] h post) (hK : h.K b = 10) (hdd : d < d0) (hmc : cells + mc ≤ mc0) (hms : slots + ms ≤ ms0) (hcat : (rest.map fun v => v.category).sum ≤ 8) (kk : ∀ r h', post r h' → At X (cells + mc) (slots + ms) 17 ls (.int r :: rest) h') : At X cells slots 14 ls (a0 :: va_rf (some b) :: rest) h :=
  st_callV (pc := 14) (M := mX9_liveAt) (idx := 175) (As := [a0]) C.1 C.2.2.1 C.2.2.2.2.2.2 ⟨wM_RX9_175, wC_X9_liveAt, wI_RX9, by decide +kernel, by decide⟩ wV_X9_liveAt wS_X9_liveAt (ci := 9) (n := 1) rfl rfl (by decide) dX9_resize_14 rfl hdd hcat hK hct hmc hms (fun v h2 hp => by obtain ⟨r, rfl, hp⟩ := hp; exact kk r h2 hp)
theorem clX9_resize_25 {X : CX} {d0 mc0 ms0 d mc ms cells slots : Nat} {pp : Int32 → Hp → Prop} {h : Hp} {ls : List (Option Value)} {rest : List Value} {b : Nat} {a0 : Value} {post : Int32 → Hp → Prop} (C : CmI X mX9_resize d0 mc0 ms0 pp) (hct : CtI mX9_no d mc ms [va_rf (some b), a0] h post) (hK : h.K b = 10) (hdd : d < d0) (hmc : cells + mc ≤ mc0) (hms : slots + ms ≤ ms0) (hcat : (rest.map fun v => v.category).sum ≤ 8) (kk : ∀ r h', post r h' → At X (cells + mc) (slots + ms) 28 ls (.int r :: rest) h') : At X cells slots 25 ls (a0 :: va_rf (some b) :: rest) h :=
  st_callV (pc := 25) (M := mX9_no) (idx := 178) (As := [a0]) C.1 C.2.2.1 C.2.2.2.2.2.2 ⟨wM_RX9_178, wC_X9_no, wI_RX9, by decide +kernel, by decide⟩ wV_X9_no wS_X9_no (ci := 9) (n := 1) rfl rfl (by decide) dX9_resize_25 rfl hdd hcat hK hct hmc hms (fun v h2 hp => by obtain ⟨r, rfl, hp⟩ := hp; exact kk r h2 hp)
theorem clX9_resize_40 {X : CX} {d0 mc0 ms0 d mc ms cells slots : Nat} {pp : Int32 → Hp → Prop} {h : Hp} {ls : List (Option Value)} {rest : List Value} {b : Nat} {a0 : Value} {post : Int32 → Hp → Prop} (C : CmI X mX9_resize d0 mc0 ms0 pp) (hct : CtI mX9_give d mc ms [va_rf (some b), a0] h post) (hK : h.K b = 10) (hdd : d < d0) (hmc : cells + mc ≤ mc0) (hms : slots + ms ≤ ms0) (hcat : (rest.map fun v => v.category).sum ≤ 8) (kk : ∀ r h', post r h' → At X (cells + mc) (slots + ms) 43 ls (.int r :: rest) h') : At X cells slots 40 ls (a0 :: va_rf (some b) :: rest) h :=
  st_callV (pc := 40) (M := mX9_give) (idx := 172) (As := [a0]) C.1 C.2.2.1 C.2.2.2.2.2.2 ⟨wM_RX9_172, wC_X9_give, wI_RX9, by decide +kernel, by decide⟩ wV_X9_give wS_X9_give (ci := 9) (n := 1) rfl rfl (by decide) dX9_resize_40 rfl hdd hcat hK hct hmc hms (fun v h2 hp => by obtain ⟨r, rfl, hp⟩ := hp; exact kk r h2 hp)
theorem clX9_resize_96 {X : CX} {d0 mc0 ms0 d mc ms cells slots : Nat} {pp : Int32 → Hp → Prop} {h : Hp} {ls : List (Option Value)} {rest : List Value} {b : Nat} {a0 : Value} {post : Int32 → Hp → Prop} (C : CmI X mX9_resize d0 mc0 ms0 pp) (hct : CtI mX9_liveAt d mc ms [va_rf (some b), a0] h post) (hK : h.K b = 10) (hdd : d < d0) (hmc : cells + mc ≤ mc0) (hms : slots + ms ≤ ms0) (hcat : (rest.map fun v => v.category).sum ≤ 8) (kk : ∀ r h', post r h' → At X (cells + mc) (slots + ms) 99 ls (.int r :: rest) h') : At X cells slots 96 ls (a0 :: va_rf (some b) :: rest) h :=
  st_callV (pc := 96) (M := mX9_liveAt) (idx := 175) (As := [a0]) C.1 C.2.2.1 C.2.2.2.2.2.2 ⟨wM_RX9_175, wC_X9_liveAt, wI_RX9, by decide +kernel, by decide⟩ wV_X9_liveAt wS_X9_liveAt (ci := 9) (n := 1) rfl rfl (by decide) dX9_resize_96 rfl hdd hcat hK hct hmc hms (fun v h2 hp => by obtain ⟨r, rfl, hp⟩ := hp; exact kk r h2 hp)
theorem clX9_resize_99 {X : CX} {d0 mc0 ms0 d mc ms cells slots : Nat} {pp : Int32 → Hp → Prop} {h : Hp} {ls : List (Option Value)} {rest : List Value} {b : Nat} {a0 : Value} {post : Hp → Prop} (C : CmI X mX9_resize d0 mc0 ms0 pp) (hct : CtV mX9_setFree d mc ms [va_rf (some b), a0] h post) (hK : h.K b = 10) (hdd : d < d0) (hmc : cells + mc ≤ mc0) (hms : slots + ms ≤ ms0) (hcat : (rest.map fun v => v.category).sum ≤ 8) (kk : ∀ h', post h' → At X (cells + mc) (slots + ms) 102 ls rest h') : At X cells slots 99 ls (a0 :: va_rf (some b) :: rest) h :=
  st_callV (pc := 99) (M := mX9_setFree) (idx := 181) (As := [a0]) C.1 C.2.2.1 C.2.2.2.2.2.2 ⟨wM_RX9_181, wC_X9_setFree, wI_RX9, by decide +kernel, by decide⟩ wV_X9_setFree wS_X9_setFree (ci := 9) (n := 1) rfl rfl (by decide) dX9_resize_99 rfl hdd hcat hK hct hmc hms (fun v h2 hp => by obtain ⟨rfl, hp⟩ := hp; exact kk h2 hp)
theorem sgX9_load_0 {X : CX} {d mc ms cells slots : Nat} {pp : Int32 → Hp → Prop} {h : Hp} {t : Nat} {x1 : Int32}  (C : CmI X mX9_load d mc ms pp) (h0 : h.K t = 10) (k0 : At X cells slots 7 [some (va_rf (some t)), some (.int x1), none] [.int x1, va_rf (some t)] (h.sI 903 t 0)) : At X cells slots 0 [some (va_rf (some t)), some (.int x1), none] [] h := by
  refine st_aload_n (pc := 0) C.1 (some t) dX9_load_0 rfl rfl ?_
  refine st_iconst (pc := 1) (v := 0) C.1 dX9_load_1 (by decide) ?_
  refine pI_RX9_85 (pc := 2) C.1 dX9_load_2 h0 ?_
  refine st_aload_n (pc := 5) C.1 (some t) dX9_load_5 rfl rfl ?_
  refine st_iload_n (pc := 6) C.1 dX9_load_6 rfl rfl ?_
  exact k0

theorem sgX9_load_10 {X : CX} {d mc ms cells slots : Nat} {pp : Int32 → Hp → Prop} {h : Hp} {t : Nat} {x1 : Int32} {u0 : Int32} {r0 : Nat} (C : CmI X mX9_load d mc ms pp) (hc : cells ≤ mc) (hs : slots ≤ ms) (h0 : h.K t = 10) (h1 : h.R 904 t = some r0) (h2 : h.K r0 = 11) (h3 : u0 = 0 → vp_in x1 (h.N r0)) (k0 : ¬ u0 = 0 → At X cells slots 25 [some (va_rf (some t)), some (.int x1), some (.int u0)] [.int x1, .int u0, va_rf (some t)] h) (k1 : u0 = 0 → pp (h.AI r0 (x1.toNatClampNeg)) h) : At X cells slots 10 [some (va_rf (some t)), some (.int x1), none] [.int u0] h := by
  refine sv_istore_n (pc := 10) (i := 2) C.1 [some (va_rf (some t)), some (.int x1), some (.int u0)] dX9_load_10 rfl (Nat.le_of_ble_eq_true rfl) (by rw [C.2.1]; exact Nat.le_of_ble_eq_true rfl) rfl rfl ?_
  refine st_iload_n (pc := 11) C.1 dX9_load_11 rfl rfl ?_
  refine st_if_ne (pc := 12) (tgt := 22) C.1 dX9_load_12 (by decide) (fun c0 => ?_) (fun c0 => ?_)
  · refine st_aload_n (pc := 22) C.1 (some t) dX9_load_22 rfl rfl ?_
    refine st_iload_n (pc := 23) C.1 dX9_load_23 rfl rfl ?_
    refine st_iload_n (pc := 24) C.1 dX9_load_24 rfl rfl ?_
    exact (k0 c0)
  · refine st_aload_n (pc := 15) C.1 (some t) dX9_load_15 rfl rfl ?_
    refine gR_RX9_7 (pc := 16) C.1 (some r0) dX9_load_16 h0 h1 ?_
    refine st_iload_n (pc := 19) C.1 dX9_load_19 rfl rfl ?_
    refine sv_iaload (pc := 20) C.1 (h.AI r0 (x1.toNatClampNeg)) dX9_load_20 h2 (h3 c0) rfl ?_
    exact rt_i C (Or.inl rfl) dX9_load_21 hc hs ⟨_, rfl, (k1 c0)⟩

theorem sgX9_load_28 {X : CX} {d mc ms cells slots : Nat} {pp : Int32 → Hp → Prop} {h : Hp} {t : Nat} {x1 : Int32} {x2 : Int32}  (C : CmI X mX9_load d mc ms pp) (hc : cells ≤ mc) (hs : slots ≤ ms)  (k0 : pp 0 h) : At X cells slots 28 [some (va_rf (some t)), some (.int x1), some (.int x2)] [] h := by
  refine st_iconst (pc := 28) (v := 0) C.1 dX9_load_28 (by decide) ?_
  exact rt_i C (Or.inl rfl) dX9_load_29 hc hs ⟨_, rfl, k0⟩

theorem clX9_load_7 {X : CX} {d0 mc0 ms0 d mc ms cells slots : Nat} {pp : Int32 → Hp → Prop} {h : Hp} {ls : List (Option Value)} {rest : List Value} {b : Nat} {a0 : Value} {post : Int32 → Hp → Prop} (C : CmI X mX9_load d0 mc0 ms0 pp) (hct : CtI mX9_sortOf d mc ms [va_rf (some b), a0] h post) (hK : h.K b = 10) (hdd : d < d0) (hmc : cells + mc ≤ mc0) (hms : slots + ms ≤ ms0) (hcat : (rest.map fun v => v.category).sum ≤ 8) (kk : ∀ r h', post r h' → At X (cells + mc) (slots + ms) 10 ls (.int r :: rest) h') : At X cells slots 7 ls (a0 :: va_rf (some b) :: rest) h :=
  st_callV (pc := 7) (M := mX9_sortOf) (idx := 184) (As := [a0]) C.1 C.2.2.1 C.2.2.2.2.2.2 ⟨wM_RX9_184, wC_X9_sortOf, wI_RX9, by decide +kernel, by decide⟩ wV_X9_sortOf wS_X9_sortOf (ci := 9) (n := 1) rfl rfl (by decide) dX9_load_7 rfl hdd hcat hK hct hmc hms (fun v h2 hp => by obtain ⟨r, rfl, hp⟩ := hp; exact kk r h2 hp)
theorem clX9_load_25 {X : CX} {d0 mc0 ms0 d mc ms cells slots : Nat} {pp : Int32 → Hp → Prop} {h : Hp} {ls : List (Option Value)} {rest : List Value} {b : Nat} {a0 a1 : Value} {post : Hp → Prop} (C : CmI X mX9_load d0 mc0 ms0 pp) (hct : CtV mX9_faulty d mc ms [va_rf (some b), a0, a1] h post) (hK : h.K b = 10) (hdd : d < d0) (hmc : cells + mc ≤ mc0) (hms : slots + ms ≤ ms0) (hcat : (rest.map fun v => v.category).sum ≤ 8) (kk : ∀ h', post h' → At X (cells + mc) (slots + ms) 28 ls rest h') : At X cells slots 25 ls (a1 :: a0 :: va_rf (some b) :: rest) h :=
  st_callV (pc := 25) (M := mX9_faulty) (idx := 169) (As := [a0, a1]) C.1 C.2.2.1 C.2.2.2.2.2.2 ⟨wM_RX9_169, wC_X9_faulty, wI_RX9, by decide +kernel, by decide⟩ wV_X9_faulty wS_X9_faulty (ci := 9) (n := 2) rfl rfl (by decide) dX9_load_25 rfl hdd hcat hK hct hmc hms (fun v h2 hp => by obtain ⟨rfl, hp⟩ := hp; exact kk h2 hp)
theorem sgX9_store_0 {X : CX} {d mc ms cells slots : Nat} {pp : Int32 → Hp → Prop} {h : Hp} {t : Nat} {x1 : Int32} {x2 : Int32}  (C : CmI X mX9_store d mc ms pp) (h0 : h.K t = 10) (k0 : At X cells slots 7 [some (va_rf (some t)), some (.int x1), some (.int x2), none] [.int x1, va_rf (some t)] (h.sI 903 t 0)) : At X cells slots 0 [some (va_rf (some t)), some (.int x1), some (.int x2), none] [] h := by
  refine st_aload_n (pc := 0) C.1 (some t) dX9_store_0 rfl rfl ?_
  refine st_iconst (pc := 1) (v := 0) C.1 dX9_store_1 (by decide) ?_
  refine pI_RX9_85 (pc := 2) C.1 dX9_store_2 h0 ?_
  refine st_aload_n (pc := 5) C.1 (some t) dX9_store_5 rfl rfl ?_
  refine st_iload_n (pc := 6) C.1 dX9_store_6 rfl rfl ?_
  exact k0

theorem sgX9_store_10 {X : CX} {d mc ms cells slots : Nat} {pp : Int32 → Hp → Prop} {h : Hp} {t : Nat} {x1 : Int32} {x2 : Int32} {u0 : Int32} {r0 : Nat} (C : CmI X mX9_store d mc ms pp) (hc : cells ≤ mc) (hs : slots ≤ ms) (h0 : h.K t = 10) (h1 : h.R 904 t = some r0) (h2 : h.K r0 = 11) (h3 : u0 = 0 → vp_in x1 (h.N r0)) (k0 : ¬ u0 = 0 → At X cells slots 28 [some (va_rf (some t)), some (.int x1), some (.int x2), some (.int u0)] [.int x1, .int u0, va_rf (some t)] h) (k1 : u0 = 0 → pp u0 (h.sAI r0 (x1.toNatClampNeg) x2)) : At X cells slots 10 [some (va_rf (some t)), some (.int x1), some (.int x2), none] [.int u0] h := by
  refine sv_istore_n (pc := 10) (i := 3) C.1 [some (va_rf (some t)), some (.int x1), some (.int x2), some (.int u0)] dX9_store_10 rfl (Nat.le_of_ble_eq_true rfl) (by rw [C.2.1]; exact Nat.le_of_ble_eq_true rfl) rfl rfl ?_
  refine st_iload_n (pc := 11) C.1 dX9_store_11 rfl rfl ?_
  refine st_if_ne (pc := 12) (tgt := 25) C.1 dX9_store_12 (by decide) (fun c0 => ?_) (fun c0 => ?_)
  · refine st_aload_n (pc := 25) C.1 (some t) dX9_store_25 rfl rfl ?_
    refine st_iload_n (pc := 26) C.1 dX9_store_26 rfl rfl ?_
    refine st_iload_n (pc := 27) C.1 dX9_store_27 rfl rfl ?_
    exact (k0 c0)
  · refine st_aload_n (pc := 15) C.1 (some t) dX9_store_15 rfl rfl ?_
    refine gR_RX9_7 (pc := 16) C.1 (some r0) dX9_store_16 h0 h1 ?_
    refine st_iload_n (pc := 19) C.1 dX9_store_19 rfl rfl ?_
    refine st_iload_n (pc := 20) C.1 dX9_store_20 rfl rfl ?_
    refine st_iastore (pc := 21) C.1 dX9_store_21 h2 (h3 c0) ?_
    refine st_goto (pc := 22) (tgt := 31) C.1 dX9_store_22 (by decide) ?_
    refine st_iload_n (pc := 31) C.1 dX9_store_31 rfl rfl ?_
    exact rt_i C (Or.inl rfl) dX9_store_32 hc hs ⟨_, rfl, (k1 c0)⟩

theorem sgX9_store_31 {X : CX} {d mc ms cells slots : Nat} {pp : Int32 → Hp → Prop} {h : Hp} {t : Nat} {x1 : Int32} {x2 : Int32} {x3 : Int32}  (C : CmI X mX9_store d mc ms pp) (hc : cells ≤ mc) (hs : slots ≤ ms)  (k0 : pp x3 h) : At X cells slots 31 [some (va_rf (some t)), some (.int x1), some (.int x2), some (.int x3)] [] h := by
  refine st_iload_n (pc := 31) C.1 dX9_store_31 rfl rfl ?_
  exact rt_i C (Or.inl rfl) dX9_store_32 hc hs ⟨_, rfl, k0⟩

theorem clX9_store_7 {X : CX} {d0 mc0 ms0 d mc ms cells slots : Nat} {pp : Int32 → Hp → Prop} {h : Hp} {ls : List (Option Value)} {rest : List Value} {b : Nat} {a0 : Value} {post : Int32 → Hp → Prop} (C : CmI X mX9_store d0 mc0 ms0 pp) (hct : CtI mX9_sortOf d mc ms [va_rf (some b), a0] h post) (hK : h.K b = 10) (hdd : d < d0) (hmc : cells + mc ≤ mc0) (hms : slots + ms ≤ ms0) (hcat : (rest.map fun v => v.category).sum ≤ 8) (kk : ∀ r h', post r h' → At X (cells + mc) (slots + ms) 10 ls (.int r :: rest) h') : At X cells slots 7 ls (a0 :: va_rf (some b) :: rest) h :=
  st_callV (pc := 7) (M := mX9_sortOf) (idx := 184) (As := [a0]) C.1 C.2.2.1 C.2.2.2.2.2.2 ⟨wM_RX9_184, wC_X9_sortOf, wI_RX9, by decide +kernel, by decide⟩ wV_X9_sortOf wS_X9_sortOf (ci := 9) (n := 1) rfl rfl (by decide) dX9_store_7 rfl hdd hcat hK hct hmc hms (fun v h2 hp => by obtain ⟨r, rfl, hp⟩ := hp; exact kk r h2 hp)
theorem clX9_store_28 {X : CX} {d0 mc0 ms0 d mc ms cells slots : Nat} {pp : Int32 → Hp → Prop} {h : Hp} {ls : List (Option Value)} {rest : List Value} {b : Nat} {a0 a1 : Value} {post : Hp → Prop} (C : CmI X mX9_store d0 mc0 ms0 pp) (hct : CtV mX9_faulty d mc ms [va_rf (some b), a0, a1] h post) (hK : h.K b = 10) (hdd : d < d0) (hmc : cells + mc ≤ mc0) (hms : slots + ms ≤ ms0) (hcat : (rest.map fun v => v.category).sum ≤ 8) (kk : ∀ h', post h' → At X (cells + mc) (slots + ms) 31 ls rest h') : At X cells slots 28 ls (a1 :: a0 :: va_rf (some b) :: rest) h :=
  st_callV (pc := 28) (M := mX9_faulty) (idx := 169) (As := [a0, a1]) C.1 C.2.2.1 C.2.2.2.2.2.2 ⟨wM_RX9_169, wC_X9_faulty, wI_RX9, by decide +kernel, by decide⟩ wV_X9_faulty wS_X9_faulty (ci := 9) (n := 2) rfl rfl (by decide) dX9_store_28 rfl hdd hcat hK hct hmc hms (fun v h2 hp => by obtain ⟨rfl, hp⟩ := hp; exact kk h2 hp)
theorem sgX9_check_0 {X : CX} {d mc ms cells slots : Nat} {pp : Int32 → Hp → Prop} {h : Hp} {t : Nat} {x1 : Int32}  (C : CmI X mX9_check d mc ms pp) (h0 : h.K t = 10) (k0 : At X cells slots 7 [some (va_rf (some t)), some (.int x1)] [.int x1, va_rf (some t)] (h.sI 903 t 0)) : At X cells slots 0 [some (va_rf (some t)), some (.int x1)] [] h := by
  refine st_aload_n (pc := 0) C.1 (some t) dX9_check_0 rfl rfl ?_
  refine st_iconst (pc := 1) (v := 0) C.1 dX9_check_1 (by decide) ?_
  refine pI_RX9_85 (pc := 2) C.1 dX9_check_2 h0 ?_
  refine st_aload_n (pc := 5) C.1 (some t) dX9_check_5 rfl rfl ?_
  refine st_iload_n (pc := 6) C.1 dX9_check_6 rfl rfl ?_
  exact k0

theorem sgX9_check_10 {X : CX} {d mc ms cells slots : Nat} {pp : Int32 → Hp → Prop} {h : Hp} {t : Nat} {x1 : Int32} {u0 : Int32}  (C : CmI X mX9_check d mc ms pp) (hc : cells ≤ mc) (hs : slots ≤ ms)  (k0 : pp u0 h) : At X cells slots 10 [some (va_rf (some t)), some (.int x1)] [.int u0] h := by
  exact rt_i C (Or.inl rfl) dX9_check_10 hc hs ⟨_, rfl, k0⟩

theorem clX9_check_7 {X : CX} {d0 mc0 ms0 d mc ms cells slots : Nat} {pp : Int32 → Hp → Prop} {h : Hp} {ls : List (Option Value)} {rest : List Value} {b : Nat} {a0 : Value} {post : Int32 → Hp → Prop} (C : CmI X mX9_check d0 mc0 ms0 pp) (hct : CtI mX9_sortOf d mc ms [va_rf (some b), a0] h post) (hK : h.K b = 10) (hdd : d < d0) (hmc : cells + mc ≤ mc0) (hms : slots + ms ≤ ms0) (hcat : (rest.map fun v => v.category).sum ≤ 8) (kk : ∀ r h', post r h' → At X (cells + mc) (slots + ms) 10 ls (.int r :: rest) h') : At X cells slots 7 ls (a0 :: va_rf (some b) :: rest) h :=
  st_callV (pc := 7) (M := mX9_sortOf) (idx := 184) (As := [a0]) C.1 C.2.2.1 C.2.2.2.2.2.2 ⟨wM_RX9_184, wC_X9_sortOf, wI_RX9, by decide +kernel, by decide⟩ wV_X9_sortOf wS_X9_sortOf (ci := 9) (n := 1) rfl rfl (by decide) dX9_check_7 rfl hdd hcat hK hct hmc hms (fun v h2 hp => by obtain ⟨r, rfl, hp⟩ := hp; exact kk r h2 hp)
theorem sgX9_copy_0 {X : CX} {d mc ms cells slots : Nat} {pp : Int32 → Hp → Prop} {h : Hp} {t : Nat} {x1 : Int32} {x2 : Int32} {x3 : Int32}  (C : CmI X mX9_copy d mc ms pp) (hc : cells ≤ mc) (hs : slots ≤ ms) (h0 : h.K t = 10) (k0 : x3 < 0 → pp (-1) (h.sI 903 t 0)) (k1 : ¬ x3 < 0 → x3 ≤ 3000 → At X cells slots 21 [some (va_rf (some t)), some (.int x1), some (.int x2), some (.int x3), some (.int 0), none, none] [] (h.sI 903 t 0)) (k2 : ¬ x3 < 0 → ¬ x3 ≤ 3000 → pp (-1) (h.sI 903 t 0)) : At X cells slots 0 [some (va_rf (some t)), some (.int x1), some (.int x2), some (.int x3), none, none, none] [] h := by
  refine st_aload_n (pc := 0) C.1 (some t) dX9_copy_0 rfl rfl ?_
  refine st_iconst (pc := 1) (v := 0) C.1 dX9_copy_1 (by decide) ?_
  refine pI_RX9_85 (pc := 2) C.1 dX9_copy_2 h0 ?_
  refine st_iload_n (pc := 5) C.1 dX9_copy_5 rfl rfl ?_
  refine st_if_lt (pc := 6) (tgt := 16) C.1 dX9_copy_6 (by decide) (fun c0 => ?_) (fun c0 => ?_)
  · refine st_iconst (pc := 16) (v := (-1)) C.1 dX9_copy_16 (by decide) ?_
    exact rt_i C (Or.inl rfl) dX9_copy_17 hc hs ⟨_, rfl, (k0 c0)⟩
  · refine st_iload_n (pc := 9) C.1 dX9_copy_9 rfl rfl ?_
    refine st_sipush (pc := 10) (v := 3000) C.1 dX9_copy_10 (by decide) ?_
    refine st_icmp_le (pc := 13) (tgt := 18) C.1 dX9_copy_13 (by decide) (fun c1 => ?_) (fun c1 => ?_)
    · refine st_iconst (pc := 18) (v := 0) C.1 dX9_copy_18 (by decide) ?_
      refine sv_istore (pc := 19) (i := 4) C.1 [some (va_rf (some t)), some (.int x1), some (.int x2), some (.int x3), some (.int 0), none, none] dX9_copy_19 (Nat.le_of_ble_eq_true rfl) (by rw [C.2.1]; exact Nat.le_of_ble_eq_true rfl) rfl rfl ?_
      exact (k1 c0 c1)
    · refine st_iconst (pc := 16) (v := (-1)) C.1 dX9_copy_16 (by decide) ?_
      exact rt_i C (Or.inl rfl) dX9_copy_17 hc hs ⟨_, rfl, (k2 c0 c1)⟩

theorem sgX9_copy_21 {X : CX} {d mc ms cells slots : Nat} {pp : Int32 → Hp → Prop} {h : Hp} {t : Nat} {x1 : Int32} {x2 : Int32} {x3 : Int32} {x4 : Int32}  (C : CmI X mX9_copy d mc ms pp)  (k0 : 2 * x3 ≤ x4 → At X cells slots 89 [some (va_rf (some t)), some (.int x1), some (.int x2), some (.int x3), some (.int 0), none, none] [] h) (k1 : ¬ 2 * x3 ≤ x4 → x3 ≤ x4 → At X cells slots 53 [some (va_rf (some t)), some (.int x1), some (.int x2), some (.int x3), some (.int x4), some (.int ((x2 + x4) - x3)), none] [.int ((x2 + x4) - x3), va_rf (some t)] h) (k2 : ¬ 2 * x3 ≤ x4 → ¬ x3 ≤ x4 → At X cells slots 53 [some (va_rf (some t)), some (.int x1), some (.int x2), some (.int x3), some (.int x4), some (.int (x1 + x4)), none] [.int (x1 + x4), va_rf (some t)] h) : At X cells slots 21 [some (va_rf (some t)), some (.int x1), some (.int x2), some (.int x3), some (.int x4), none, none] [] h := by
  refine st_iload (pc := 21) C.1 dX9_copy_21 rfl ?_
  refine st_iconst (pc := 23) (v := 2) C.1 dX9_copy_23 (by decide) ?_
  refine st_iload_n (pc := 24) C.1 dX9_copy_24 rfl rfl ?_
  refine st_imul (pc := 25) C.1 dX9_copy_25 ?_
  refine st_icmp_ge (pc := 26) (tgt := 86) C.1 dX9_copy_26 (by decide) (fun c0 => ?_) (fun c0 => ?_)
  · refine st_iconst (pc := 86) (v := 0) C.1 dX9_copy_86 (by decide) ?_
    refine sv_istore (pc := 87) (i := 4) C.1 [some (va_rf (some t)), some (.int x1), some (.int x2), some (.int x3), some (.int 0), none, none] dX9_copy_87 (Nat.le_of_ble_eq_true rfl) (by rw [C.2.1]; exact Nat.le_of_ble_eq_true rfl) rfl rfl ?_
    exact (k0 c0)
  · refine st_iload (pc := 29) C.1 dX9_copy_29 rfl ?_
    refine st_iload_n (pc := 31) C.1 dX9_copy_31 rfl rfl ?_
    refine st_icmp_ge (pc := 32) (tgt := 42) C.1 dX9_copy_32 (by decide) (fun c1 => ?_) (fun c1 => ?_)
    · refine st_iload_n (pc := 42) C.1 dX9_copy_42 rfl rfl ?_
      refine st_iload (pc := 43) C.1 dX9_copy_43 rfl ?_
      refine st_iadd (pc := 45) C.1 dX9_copy_45 ?_
      refine st_iload_n (pc := 46) C.1 dX9_copy_46 rfl rfl ?_
      refine st_isub (pc := 47) C.1 dX9_copy_47 ?_
      refine sv_istore (pc := 48) (i := 5) C.1 [some (va_rf (some t)), some (.int x1), some (.int x2), some (.int x3), some (.int x4), some (.int ((x2 + x4) - x3)), none] dX9_copy_48 (Nat.le_of_ble_eq_true rfl) (by rw [C.2.1]; exact Nat.le_of_ble_eq_true rfl) rfl rfl ?_
      refine st_aload_n (pc := 50) C.1 (some t) dX9_copy_50 rfl rfl ?_
      refine st_iload (pc := 51) C.1 dX9_copy_51 rfl ?_
      exact (k1 c0 c1)
    · refine st_iload_n (pc := 35) C.1 dX9_copy_35 rfl rfl ?_
      refine st_iload (pc := 36) C.1 dX9_copy_36 rfl ?_
      refine st_iadd (pc := 38) C.1 dX9_copy_38 ?_
      refine st_goto (pc := 39) (tgt := 48) C.1 dX9_copy_39 (by decide) ?_
      refine sv_istore (pc := 48) (i := 5) C.1 [some (va_rf (some t)), some (.int x1), some (.int x2), some (.int x3), some (.int x4), some (.int (x1 + x4)), none] dX9_copy_48 (Nat.le_of_ble_eq_true rfl) (by rw [C.2.1]; exact Nat.le_of_ble_eq_true rfl) rfl rfl ?_
      refine st_aload_n (pc := 50) C.1 (some t) dX9_copy_50 rfl rfl ?_
      refine st_iload (pc := 51) C.1 dX9_copy_51 rfl ?_
      exact (k2 c0 c1)

theorem sgX9_copy_56 {X : CX} {d mc ms cells slots : Nat} {pp : Int32 → Hp → Prop} {h : Hp} {t : Nat} {x1 : Int32} {x2 : Int32} {x3 : Int32} {x4 : Int32} {x5 : Int32} {u0 : Int32}  (C : CmI X mX9_copy d mc ms pp)  (k0 : ¬ u0 = 0 → At X cells slots 71 [some (va_rf (some t)), some (.int x1), some (.int x2), some (.int x3), some (.int x4), some (.int x5), some (.int u0)] [.int x5, .int u0, va_rf (some t)] h) (k1 : u0 = 0 → At X cells slots 21 [some (va_rf (some t)), some (.int x1), some (.int x2), some (.int x3), some (.int (x4 + 1)), some (.int x5), some (.int u0)] [] h) : At X cells slots 56 [some (va_rf (some t)), some (.int x1), some (.int x2), some (.int x3), some (.int x4), some (.int x5), none] [.int u0] h := by
  refine sv_istore (pc := 56) (i := 6) C.1 [some (va_rf (some t)), some (.int x1), some (.int x2), some (.int x3), some (.int x4), some (.int x5), some (.int u0)] dX9_copy_56 (Nat.le_of_ble_eq_true rfl) (by rw [C.2.1]; exact Nat.le_of_ble_eq_true rfl) rfl rfl ?_
  refine st_iload (pc := 58) C.1 dX9_copy_58 rfl ?_
  refine st_if_ne (pc := 60) (tgt := 66) C.1 dX9_copy_60 (by decide) (fun c0 => ?_) (fun c0 => ?_)
  · refine st_aload_n (pc := 66) C.1 (some t) dX9_copy_66 rfl rfl ?_
    refine st_iload (pc := 67) C.1 dX9_copy_67 rfl ?_
    refine st_iload (pc := 69) C.1 dX9_copy_69 rfl ?_
    exact (k0 c0)
  · refine st_goto (pc := 63) (tgt := 80) C.1 dX9_copy_63 (by decide) ?_
    refine sv_iinc (pc := 80) (i := 4) (v := x4 + 1) C.1 [some (va_rf (some t)), some (.int x1), some (.int x2), some (.int x3), some (.int (x4 + 1)), some (.int x5), some (.int u0)] dX9_copy_80 rfl rfl (by rw [C.2.1]; exact Nat.le_of_ble_eq_true rfl) rfl rfl ?_
    refine st_goto (pc := 83) (tgt := 21) C.1 dX9_copy_83 (by decide) ?_
    exact (k1 c0)

theorem sgX9_copy_74 {X : CX} {d mc ms cells slots : Nat} {pp : Int32 → Hp → Prop} {h : Hp} {t : Nat} {x1 : Int32} {x2 : Int32} {x3 : Int32} {x4 : Int32} {x5 : Int32} {x6 : Int32}  (C : CmI X mX9_copy d mc ms pp) (hc : cells ≤ mc) (hs : slots ≤ ms)  (k0 : pp ((-2) - x4) h) : At X cells slots 74 [some (va_rf (some t)), some (.int x1), some (.int x2), some (.int x3), some (.int x4), some (.int x5), some (.int x6)] [] h := by
  refine st_bipush (pc := 74) (v := (-2)) C.1 dX9_copy_74 (by decide) ?_
  refine st_iload (pc := 76) C.1 dX9_copy_76 rfl ?_
  refine st_isub (pc := 78) C.1 dX9_copy_78 ?_
  exact rt_i C (Or.inl rfl) dX9_copy_79 hc hs ⟨_, rfl, k0⟩

theorem sgX9_copy_89 {X : CX} {d mc ms cells slots : Nat} {pp : Int32 → Hp → Prop} {h : Hp} {t : Nat} {x1 : Int32} {x2 : Int32} {x3 : Int32} {x4 : Int32} {r1 : Nat} {r0 : Nat} (C : CmI X mX9_copy d mc ms pp) (h0 : h.K t = 10) (h1 : h.R 925 t = some r1) (h2 : h.R 904 t = some r0) (h3 : h.K r0 = 11) (h4 : ¬ x3 ≤ x4 → vp_in (x1 + x4) (h.N r0)) (h5 : h.K r1 = 11) (h6 : ¬ x3 ≤ x4 → vp_in x4 (h.N r1)) (k0 : x3 ≤ x4 → At X cells slots 120 [some (va_rf (some t)), some (.int x1), some (.int x2), some (.int x3), some (.int 0), none, none] [] h) (k1 : ¬ x3 ≤ x4 → At X cells slots 89 [some (va_rf (some t)), some (.int x1), some (.int x2), some (.int x3), some (.int (x4 + 1)), none, none] [] (h.sAI r1 (x4.toNatClampNeg) (h.AI r0 ((x1 + x4).toNatClampNeg)))) : At X cells slots 89 [some (va_rf (some t)), some (.int x1), some (.int x2), some (.int x3), some (.int x4), none, none] [] h := by
  refine st_iload (pc := 89) C.1 dX9_copy_89 rfl ?_
  refine st_iload_n (pc := 91) C.1 dX9_copy_91 rfl rfl ?_
  refine st_icmp_ge (pc := 92) (tgt := 117) C.1 dX9_copy_92 (by decide) (fun c0 => ?_) (fun c0 => ?_)
  · refine st_iconst (pc := 117) (v := 0) C.1 dX9_copy_117 (by decide) ?_
    refine sv_istore (pc := 118) (i := 4) C.1 [some (va_rf (some t)), some (.int x1), some (.int x2), some (.int x3), some (.int 0), none, none] dX9_copy_118 (Nat.le_of_ble_eq_true rfl) (by rw [C.2.1]; exact Nat.le_of_ble_eq_true rfl) rfl rfl ?_
    exact (k0 c0)
  · refine st_aload_n (pc := 95) C.1 (some t) dX9_copy_95 rfl rfl ?_
    refine gR_RX9_50 (pc := 96) C.1 (some r1) dX9_copy_96 h0 h1 ?_
    refine st_iload (pc := 99) C.1 dX9_copy_99 rfl ?_
    refine st_aload_n (pc := 101) C.1 (some t) dX9_copy_101 rfl rfl ?_
    refine gR_RX9_7 (pc := 102) C.1 (some r0) dX9_copy_102 h0 h2 ?_
    refine st_iload_n (pc := 105) C.1 dX9_copy_105 rfl rfl ?_
    refine st_iload (pc := 106) C.1 dX9_copy_106 rfl ?_
    refine st_iadd (pc := 108) C.1 dX9_copy_108 ?_
    refine sv_iaload (pc := 109) C.1 (h.AI r0 ((x1 + x4).toNatClampNeg)) dX9_copy_109 h3 (h4 c0) rfl ?_
    refine st_iastore (pc := 110) C.1 dX9_copy_110 h5 (h6 c0) ?_
    refine sv_iinc (pc := 111) (i := 4) (v := x4 + 1) C.1 [some (va_rf (some t)), some (.int x1), some (.int x2), some (.int x3), some (.int (x4 + 1)), none, none] dX9_copy_111 rfl rfl (by rw [C.2.1]; exact Nat.le_of_ble_eq_true rfl) rfl rfl ?_
    refine st_goto (pc := 114) (tgt := 89) C.1 dX9_copy_114 (by decide) ?_
    exact (k1 c0)

theorem sgX9_copy_120 {X : CX} {d mc ms cells slots : Nat} {pp : Int32 → Hp → Prop} {h : Hp} {t : Nat} {x1 : Int32} {x2 : Int32} {x3 : Int32} {x4 : Int32} {r1 : Nat} {r0 : Nat} (C : CmI X mX9_copy d mc ms pp) (hc : cells ≤ mc) (hs : slots ≤ ms) (h0 : h.K t = 10) (h1 : h.R 904 t = some r1) (h2 : h.R 925 t = some r0) (h3 : h.K r0 = 11) (h4 : ¬ x3 ≤ x4 → vp_in x4 (h.N r0)) (h5 : h.K r1 = 11) (h6 : ¬ x3 ≤ x4 → vp_in (x2 + x4) (h.N r1)) (k0 : x3 ≤ x4 → pp x3 h) (k1 : ¬ x3 ≤ x4 → At X cells slots 120 [some (va_rf (some t)), some (.int x1), some (.int x2), some (.int x3), some (.int (x4 + 1)), none, none] [] (h.sAI r1 ((x2 + x4).toNatClampNeg) (h.AI r0 (x4.toNatClampNeg)))) : At X cells slots 120 [some (va_rf (some t)), some (.int x1), some (.int x2), some (.int x3), some (.int x4), none, none] [] h := by
  refine st_iload (pc := 120) C.1 dX9_copy_120 rfl ?_
  refine st_iload_n (pc := 122) C.1 dX9_copy_122 rfl rfl ?_
  refine st_icmp_ge (pc := 123) (tgt := 148) C.1 dX9_copy_123 (by decide) (fun c0 => ?_) (fun c0 => ?_)
  · refine st_iload_n (pc := 148) C.1 dX9_copy_148 rfl rfl ?_
    exact rt_i C (Or.inl rfl) dX9_copy_149 hc hs ⟨_, rfl, (k0 c0)⟩
  · refine st_aload_n (pc := 126) C.1 (some t) dX9_copy_126 rfl rfl ?_
    refine gR_RX9_7 (pc := 127) C.1 (some r1) dX9_copy_127 h0 h1 ?_
    refine st_iload_n (pc := 130) C.1 dX9_copy_130 rfl rfl ?_
    refine st_iload (pc := 131) C.1 dX9_copy_131 rfl ?_
    refine st_iadd (pc := 133) C.1 dX9_copy_133 ?_
    refine st_aload_n (pc := 134) C.1 (some t) dX9_copy_134 rfl rfl ?_
    refine gR_RX9_50 (pc := 135) C.1 (some r0) dX9_copy_135 h0 h2 ?_
    refine st_iload (pc := 138) C.1 dX9_copy_138 rfl ?_
    refine sv_iaload (pc := 140) C.1 (h.AI r0 (x4.toNatClampNeg)) dX9_copy_140 h3 (h4 c0) rfl ?_
    refine st_iastore (pc := 141) C.1 dX9_copy_141 h5 (h6 c0) ?_
    refine sv_iinc (pc := 142) (i := 4) (v := x4 + 1) C.1 [some (va_rf (some t)), some (.int x1), some (.int x2), some (.int x3), some (.int (x4 + 1)), none, none] dX9_copy_142 rfl rfl (by rw [C.2.1]; exact Nat.le_of_ble_eq_true rfl) rfl rfl ?_
    refine st_goto (pc := 145) (tgt := 120) C.1 dX9_copy_145 (by decide) ?_
    exact (k1 c0)

theorem clX9_copy_53 {X : CX} {d0 mc0 ms0 d mc ms cells slots : Nat} {pp : Int32 → Hp → Prop} {h : Hp} {ls : List (Option Value)} {rest : List Value} {b : Nat} {a0 : Value} {post : Int32 → Hp → Prop} (C : CmI X mX9_copy d0 mc0 ms0 pp) (hct : CtI mX9_sortOf d mc ms [va_rf (some b), a0] h post) (hK : h.K b = 10) (hdd : d < d0) (hmc : cells + mc ≤ mc0) (hms : slots + ms ≤ ms0) (hcat : (rest.map fun v => v.category).sum ≤ 8) (kk : ∀ r h', post r h' → At X (cells + mc) (slots + ms) 56 ls (.int r :: rest) h') : At X cells slots 53 ls (a0 :: va_rf (some b) :: rest) h :=
  st_callV (pc := 53) (M := mX9_sortOf) (idx := 184) (As := [a0]) C.1 C.2.2.1 C.2.2.2.2.2.2 ⟨wM_RX9_184, wC_X9_sortOf, wI_RX9, by decide +kernel, by decide⟩ wV_X9_sortOf wS_X9_sortOf (ci := 9) (n := 1) rfl rfl (by decide) dX9_copy_53 rfl hdd hcat hK hct hmc hms (fun v h2 hp => by obtain ⟨r, rfl, hp⟩ := hp; exact kk r h2 hp)
theorem clX9_copy_71 {X : CX} {d0 mc0 ms0 d mc ms cells slots : Nat} {pp : Int32 → Hp → Prop} {h : Hp} {ls : List (Option Value)} {rest : List Value} {b : Nat} {a0 a1 : Value} {post : Hp → Prop} (C : CmI X mX9_copy d0 mc0 ms0 pp) (hct : CtV mX9_faulty d mc ms [va_rf (some b), a0, a1] h post) (hK : h.K b = 10) (hdd : d < d0) (hmc : cells + mc ≤ mc0) (hms : slots + ms ≤ ms0) (hcat : (rest.map fun v => v.category).sum ≤ 8) (kk : ∀ h', post h' → At X (cells + mc) (slots + ms) 74 ls rest h') : At X cells slots 71 ls (a1 :: a0 :: va_rf (some b) :: rest) h :=
  st_callV (pc := 71) (M := mX9_faulty) (idx := 169) (As := [a0, a1]) C.1 C.2.2.1 C.2.2.2.2.2.2 ⟨wM_RX9_169, wC_X9_faulty, wI_RX9, by decide +kernel, by decide⟩ wV_X9_faulty wS_X9_faulty (ci := 9) (n := 2) rfl rfl (by decide) dX9_copy_71 rfl hdd hcat hK hct hmc hms (fun v h2 hp => by obtain ⟨rfl, hp⟩ := hp; exact kk h2 hp)
theorem sgX9_sizeOf_0 {X : CX} {d mc ms cells slots : Nat} {pp : Int32 → Hp → Prop} {h : Hp} {t : Nat} {x1 : Int32}  (C : CmI X mX9_sizeOf d mc ms pp) (h0 : h.K t = 10) (k0 : At X cells slots 7 [some (va_rf (some t)), some (.int x1), none] [.int x1, va_rf (some t)] (h.sI 903 t 0)) : At X cells slots 0 [some (va_rf (some t)), some (.int x1), none] [] h := by
  refine st_aload_n (pc := 0) C.1 (some t) dX9_sizeOf_0 rfl rfl ?_
  refine st_iconst (pc := 1) (v := 0) C.1 dX9_sizeOf_1 (by decide) ?_
  refine pI_RX9_85 (pc := 2) C.1 dX9_sizeOf_2 h0 ?_
  refine st_aload_n (pc := 5) C.1 (some t) dX9_sizeOf_5 rfl rfl ?_
  refine st_iload_n (pc := 6) C.1 dX9_sizeOf_6 rfl rfl ?_
  exact k0

theorem sgX9_sizeOf_10 {X : CX} {d mc ms cells slots : Nat} {pp : Int32 → Hp → Prop} {h : Hp} {t : Nat} {x1 : Int32} {u0 : Int32} {r0 : Nat} (C : CmI X mX9_sizeOf d mc ms pp) (hc : cells ≤ mc) (hs : slots ≤ ms) (h0 : h.K t = 10) (h1 : h.R 909 t = some r0) (h2 : h.K r0 = 11) (h3 : ¬ u0 = (-1) → vp_in u0 (h.N r0)) (k0 : ¬ u0 = (-1) → pp (h.AI r0 (u0.toNatClampNeg)) h) (k1 : u0 = (-1) → pp (-1) h) : At X cells slots 10 [some (va_rf (some t)), some (.int x1), none] [.int u0] h := by
  refine sv_istore_n (pc := 10) (i := 2) C.1 [some (va_rf (some t)), some (.int x1), some (.int u0)] dX9_sizeOf_10 rfl (Nat.le_of_ble_eq_true rfl) (by rw [C.2.1]; exact Nat.le_of_ble_eq_true rfl) rfl rfl ?_
  refine st_iload_n (pc := 11) C.1 dX9_sizeOf_11 rfl rfl ?_
  refine st_iconst (pc := 12) (v := (-1)) C.1 dX9_sizeOf_12 (by decide) ?_
  refine st_icmp_ne (pc := 13) (tgt := 20) C.1 dX9_sizeOf_13 (by decide) (fun c0 => ?_) (fun c0 => ?_)
  · refine st_aload_n (pc := 20) C.1 (some t) dX9_sizeOf_20 rfl rfl ?_
    refine gR_RX9_26 (pc := 21) C.1 (some r0) dX9_sizeOf_21 h0 h1 ?_
    refine st_iload_n (pc := 24) C.1 dX9_sizeOf_24 rfl rfl ?_
    refine sv_iaload (pc := 25) C.1 (h.AI r0 (u0.toNatClampNeg)) dX9_sizeOf_25 h2 (h3 c0) rfl ?_
    exact rt_i C (Or.inl rfl) dX9_sizeOf_26 hc hs ⟨_, rfl, (k0 c0)⟩
  · refine st_iconst (pc := 16) (v := (-1)) C.1 dX9_sizeOf_16 (by decide) ?_
    refine st_goto (pc := 17) (tgt := 26) C.1 dX9_sizeOf_17 (by decide) ?_
    exact rt_i C (Or.inl rfl) dX9_sizeOf_26 hc hs ⟨_, rfl, (k1 c0)⟩

theorem clX9_sizeOf_7 {X : CX} {d0 mc0 ms0 d mc ms cells slots : Nat} {pp : Int32 → Hp → Prop} {h : Hp} {ls : List (Option Value)} {rest : List Value} {b : Nat} {a0 : Value} {post : Int32 → Hp → Prop} (C : CmI X mX9_sizeOf d0 mc0 ms0 pp) (hct : CtI mX9_liveAt d mc ms [va_rf (some b), a0] h post) (hK : h.K b = 10) (hdd : d < d0) (hmc : cells + mc ≤ mc0) (hms : slots + ms ≤ ms0) (hcat : (rest.map fun v => v.category).sum ≤ 8) (kk : ∀ r h', post r h' → At X (cells + mc) (slots + ms) 10 ls (.int r :: rest) h') : At X cells slots 7 ls (a0 :: va_rf (some b) :: rest) h :=
  st_callV (pc := 7) (M := mX9_liveAt) (idx := 175) (As := [a0]) C.1 C.2.2.1 C.2.2.2.2.2.2 ⟨wM_RX9_175, wC_X9_liveAt, wI_RX9, by decide +kernel, by decide⟩ wV_X9_liveAt wS_X9_liveAt (ci := 9) (n := 1) rfl rfl (by decide) dX9_sizeOf_7 rfl hdd hcat hK hct hmc hms (fun v h2 hp => by obtain ⟨r, rfl, hp⟩ := hp; exact kk r h2 hp)
theorem sgX9_describe_0 {X : CX} {d mc ms cells slots : Nat} {pp : Int32 → Hp → Prop} {h : Hp} {t : Nat} {x1 : Int32} {x2 : Int32}  (C : CmI X mX9_describe d mc ms pp) (hc : cells ≤ mc) (hs : slots ≤ ms) (h0 : h.K t = 10) (k0 : x2 < 0 → pp (-1) (h.sI 903 t 0)) (k1 : ¬ x2 < 0 → x2 ≤ 5 → At X cells slots 18 [some (va_rf (some t)), some (.int x1), some (.int x2), none] [.int x1, va_rf (some t)] (h.sI 903 t 0)) (k2 : ¬ x2 < 0 → ¬ x2 ≤ 5 → pp (-1) (h.sI 903 t 0)) : At X cells slots 0 [some (va_rf (some t)), some (.int x1), some (.int x2), none] [] h := by
  refine st_aload_n (pc := 0) C.1 (some t) dX9_describe_0 rfl rfl ?_
  refine st_iconst (pc := 1) (v := 0) C.1 dX9_describe_1 (by decide) ?_
  refine pI_RX9_85 (pc := 2) C.1 dX9_describe_2 h0 ?_
  refine st_iload_n (pc := 5) C.1 dX9_describe_5 rfl rfl ?_
  refine st_if_lt (pc := 6) (tgt := 14) C.1 dX9_describe_6 (by decide) (fun c0 => ?_) (fun c0 => ?_)
  · refine st_iconst (pc := 14) (v := (-1)) C.1 dX9_describe_14 (by decide) ?_
    exact rt_i C (Or.inl rfl) dX9_describe_15 hc hs ⟨_, rfl, (k0 c0)⟩
  · refine st_iload_n (pc := 9) C.1 dX9_describe_9 rfl rfl ?_
    refine st_iconst (pc := 10) (v := 5) C.1 dX9_describe_10 (by decide) ?_
    refine st_icmp_le (pc := 11) (tgt := 16) C.1 dX9_describe_11 (by decide) (fun c1 => ?_) (fun c1 => ?_)
    · refine st_aload_n (pc := 16) C.1 (some t) dX9_describe_16 rfl rfl ?_
      refine st_iload_n (pc := 17) C.1 dX9_describe_17 rfl rfl ?_
      exact (k1 c0 c1)
    · refine st_iconst (pc := 14) (v := (-1)) C.1 dX9_describe_14 (by decide) ?_
      exact rt_i C (Or.inl rfl) dX9_describe_15 hc hs ⟨_, rfl, (k2 c0 c1)⟩

theorem sgX9_describe_21 {X : CX} {d mc ms cells slots : Nat} {pp : Int32 → Hp → Prop} {h : Hp} {t : Nat} {x1 : Int32} {x2 : Int32} {u0 : Int32} {r0 : Nat} {r1 : Nat} {r2 : Nat} (C : CmI X mX9_describe d mc ms pp) (hc : cells ≤ mc) (hs : slots ≤ ms) (h0 : h.K t = 10) (h1 : h.R 909 t = some r0) (h2 : h.K r0 = 11) (h3 : ¬ u0 = (-1) → x2 = 1 → vp_in u0 (h.N r0)) (h4 : h.R 908 t = some r1) (h5 : h.K r1 = 11) (h6 : ¬ u0 = (-1) → x2 = 2 → vp_in u0 (h.N r1)) (h7 : h.R 910 t = some r2) (h8 : h.K r2 = 11) (h9 : ¬ u0 = (-1) → x2 = 3 → vp_in u0 (h.N r2)) (k0 : ¬ u0 = (-1) → x2.toInt < 0 ∨ 4 < x2.toInt → At X cells slots 112 [some (va_rf (some t)), some (.int x1), some (.int x2), some (.int u0)] [.int u0, va_rf (some t), .int x1] h) (k1 : ¬ u0 = (-1) → x2 = 0 → At X cells slots 70 [some (va_rf (some t)), some (.int x1), some (.int x2), some (.int u0)] [.int u0, va_rf (some t)] h) (k2 : ¬ u0 = (-1) → x2 = 1 → pp (h.AI r0 (u0.toNatClampNeg)) h) (k3 : ¬ u0 = (-1) → x2 = 2 → pp (h.AI r1 (u0.toNatClampNeg)) h) (k4 : ¬ u0 = (-1) → x2 = 3 → pp (h.AI r2 (u0.toNatClampNeg)) h) (k5 : ¬ u0 = (-1) → x2 = 4 → At X cells slots 97 [some (va_rf (some t)), some (.int x1), some (.int x2), some (.int u0)] [.int u0, va_rf (some t)] h) (k6 : u0 = (-1) → pp 0 (h.sI 903 t 1)) : At X cells slots 21 [some (va_rf (some t)), some (.int x1), some (.int x2), none] [.int u0] h := by
  refine sv_istore_n (pc := 21) (i := 3) C.1 [some (va_rf (some t)), some (.int x1), some (.int x2), some (.int u0)] dX9_describe_21 rfl (Nat.le_of_ble_eq_true rfl) (by rw [C.2.1]; exact Nat.le_of_ble_eq_true rfl) rfl rfl ?_
  refine st_iload_n (pc := 22) C.1 dX9_describe_22 rfl rfl ?_
  refine st_iconst (pc := 23) (v := (-1)) C.1 dX9_describe_23 (by decide) ?_
  refine st_icmp_ne (pc := 24) (tgt := 34) C.1 dX9_describe_24 (by decide) (fun c0 => ?_) (fun c0 => ?_)
  · refine st_iload_n (pc := 34) C.1 dX9_describe_34 rfl rfl ?_
    by_cases c1o : x2.toInt < 0 ∨ 4 < x2.toInt
    · refine st_tableOut (pc := 35) (tgt := 109) C.1 dX9_describe_35 c1o (by decide) ?_
      refine st_iload_n (pc := 109) C.1 dX9_describe_109 rfl rfl ?_
      refine st_aload_n (pc := 110) C.1 (some t) dX9_describe_110 rfl rfl ?_
      refine st_iload_n (pc := 111) C.1 dX9_describe_111 rfl rfl ?_
      exact (k0 c0 c1o)
    · rcases (show x2.toInt = 0 ∨ x2.toInt = 1 ∨ x2.toInt = 2 ∨ x2.toInt = 3 ∨ x2.toInt = 4 by omega) with c1 | c1 | c1 | c1 | c1
      · have c1e : x2 = 0 := Int32.toInt_inj.mp (by rw [c1]; rfl)
        refine st_tableIn (pc := 35) (off := 33) (tgt := 68) C.1 dX9_describe_35 (by omega) (by omega) (by rw [c1]; rfl) (by decide) ?_
        refine st_aload_n (pc := 68) C.1 (some t) dX9_describe_68 rfl rfl ?_
        refine st_iload_n (pc := 69) C.1 dX9_describe_69 rfl rfl ?_
        exact (k1 c0 c1e)
      · have c1e : x2 = 1 := Int32.toInt_inj.mp (by rw [c1]; rfl)
        refine st_tableIn (pc := 35) (off := 39) (tgt := 74) C.1 dX9_describe_35 (by omega) (by omega) (by rw [c1]; rfl) (by decide) ?_
        refine st_aload_n (pc := 74) C.1 (some t) dX9_describe_74 rfl rfl ?_
        refine gR_RX9_26 (pc := 75) C.1 (some r0) dX9_describe_75 h0 h1 ?_
        refine st_iload_n (pc := 78) C.1 dX9_describe_78 rfl rfl ?_
        refine sv_iaload (pc := 79) C.1 (h.AI r0 (u0.toNatClampNeg)) dX9_describe_79 h2 (h3 c0 c1e) rfl ?_
        exact rt_i C (Or.inl rfl) dX9_describe_80 hc hs ⟨_, rfl, (k2 c0 c1e)⟩
      · have c1e : x2 = 2 := Int32.toInt_inj.mp (by rw [c1]; rfl)
        refine st_tableIn (pc := 35) (off := 46) (tgt := 81) C.1 dX9_describe_35 (by omega) (by omega) (by rw [c1]; rfl) (by decide) ?_
        refine st_aload_n (pc := 81) C.1 (some t) dX9_describe_81 rfl rfl ?_
        refine gR_RX9_23 (pc := 82) C.1 (some r1) dX9_describe_82 h0 h4 ?_
        refine st_iload_n (pc := 85) C.1 dX9_describe_85 rfl rfl ?_
        refine sv_iaload (pc := 86) C.1 (h.AI r1 (u0.toNatClampNeg)) dX9_describe_86 h5 (h6 c0 c1e) rfl ?_
        exact rt_i C (Or.inl rfl) dX9_describe_87 hc hs ⟨_, rfl, (k3 c0 c1e)⟩
      · have c1e : x2 = 3 := Int32.toInt_inj.mp (by rw [c1]; rfl)
        refine st_tableIn (pc := 35) (off := 53) (tgt := 88) C.1 dX9_describe_35 (by omega) (by omega) (by rw [c1]; rfl) (by decide) ?_
        refine st_aload_n (pc := 88) C.1 (some t) dX9_describe_88 rfl rfl ?_
        refine gR_RX9_29 (pc := 89) C.1 (some r2) dX9_describe_89 h0 h7 ?_
        refine st_iload_n (pc := 92) C.1 dX9_describe_92 rfl rfl ?_
        refine sv_iaload (pc := 93) C.1 (h.AI r2 (u0.toNatClampNeg)) dX9_describe_93 h8 (h9 c0 c1e) rfl ?_
        exact rt_i C (Or.inl rfl) dX9_describe_94 hc hs ⟨_, rfl, (k4 c0 c1e)⟩
      · have c1e : x2 = 4 := Int32.toInt_inj.mp (by rw [c1]; rfl)
        refine st_tableIn (pc := 35) (off := 60) (tgt := 95) C.1 dX9_describe_35 (by omega) (by omega) (by rw [c1]; rfl) (by decide) ?_
        refine st_aload_n (pc := 95) C.1 (some t) dX9_describe_95 rfl rfl ?_
        refine st_iload_n (pc := 96) C.1 dX9_describe_96 rfl rfl ?_
        exact (k5 c0 c1e)
  · refine st_aload_n (pc := 27) C.1 (some t) dX9_describe_27 rfl rfl ?_
    refine st_iconst (pc := 28) (v := 1) C.1 dX9_describe_28 (by decide) ?_
    refine pI_RX9_85 (pc := 29) C.1 dX9_describe_29 h0 ?_
    refine st_iconst (pc := 32) (v := 0) C.1 dX9_describe_32 (by decide) ?_
    exact rt_i C (Or.inl rfl) dX9_describe_33 hc hs ⟨_, rfl, (k6 c0)⟩

theorem sgX9_describe_73 {X : CX} {d mc ms cells slots : Nat} {pp : Int32 → Hp → Prop} {h : Hp} {t : Nat} {x1 : Int32} {x2 : Int32} {x3 : Int32} {u0 : Int32}  (C : CmI X mX9_describe d mc ms pp) (hc : cells ≤ mc) (hs : slots ≤ ms)  (k0 : pp u0 h) : At X cells slots 73 [some (va_rf (some t)), some (.int x1), some (.int x2), some (.int x3)] [.int u0] h := by
  exact rt_i C (Or.inl rfl) dX9_describe_73 hc hs ⟨_, rfl, k0⟩

theorem sgX9_describe_100 {X : CX} {d mc ms cells slots : Nat} {pp : Int32 → Hp → Prop} {h : Hp} {t : Nat} {x1 : Int32} {x2 : Int32} {x3 : Int32} {u0 : Int32}  (C : CmI X mX9_describe d mc ms pp) (hc : cells ≤ mc) (hs : slots ≤ ms)  (k0 : u0 = 0 → pp 0 h) (k1 : ¬ u0 = 0 → pp 1 h) : At X cells slots 100 [some (va_rf (some t)), some (.int x1), some (.int x2), some (.int x3)] [.int u0] h := by
  refine st_if_eq (pc := 100) (tgt := 107) C.1 dX9_describe_100 (by decide) (fun c0 => ?_) (fun c0 => ?_)
  · refine st_iconst (pc := 107) (v := 0) C.1 dX9_describe_107 (by decide) ?_
    exact rt_i C (Or.inl rfl) dX9_describe_108 hc hs ⟨_, rfl, (k0 c0)⟩
  · refine st_iconst (pc := 103) (v := 1) C.1 dX9_describe_103 (by decide) ?_
    refine st_goto (pc := 104) (tgt := 108) C.1 dX9_describe_104 (by decide) ?_
    exact rt_i C (Or.inl rfl) dX9_describe_108 hc hs ⟨_, rfl, (k1 c0)⟩

theorem sgX9_describe_115 {X : CX} {d mc ms cells slots : Nat} {pp : Int32 → Hp → Prop} {h : Hp} {t : Nat} {x1 : Int32} {x2 : Int32} {x3 : Int32} {u0 : Int32} {u1 : Int32}  (C : CmI X mX9_describe d mc ms pp) (hc : cells ≤ mc) (hs : slots ≤ ms)  (k0 : pp (u1 - u0) h) : At X cells slots 115 [some (va_rf (some t)), some (.int x1), some (.int x2), some (.int x3)] [.int u0, .int u1] h := by
  refine st_isub (pc := 115) C.1 dX9_describe_115 ?_
  exact rt_i C (Or.inl rfl) dX9_describe_116 hc hs ⟨_, rfl, k0⟩

theorem clX9_describe_18 {X : CX} {d0 mc0 ms0 d mc ms cells slots : Nat} {pp : Int32 → Hp → Prop} {h : Hp} {ls : List (Option Value)} {rest : List Value} {b : Nat} {a0 : Value} {post : Int32 → Hp → Prop} (C : CmI X mX9_describe d0 mc0 ms0 pp) (hct : CtI mX9_blockOf d mc ms [va_rf (some b), a0] h post) (hK : h.K b = 10) (hdd : d < d0) (hmc : cells + mc ≤ mc0) (hms : slots + ms ≤ ms0) (hcat : (rest.map fun v => v.category).sum ≤ 8) (kk : ∀ r h', post r h' → At X (cells + mc) (slots + ms) 21 ls (.int r :: rest) h') : At X cells slots 18 ls (a0 :: va_rf (some b) :: rest) h :=
  st_callV (pc := 18) (M := mX9_blockOf) (idx := 95) (As := [a0]) C.1 C.2.2.1 C.2.2.2.2.2.2 ⟨wM_RX9_95, wC_X9_blockOf, wI_RX9, by decide +kernel, by decide⟩ wV_X9_blockOf wS_X9_blockOf (ci := 9) (n := 1) rfl rfl (by decide) dX9_describe_18 rfl hdd hcat hK hct hmc hms (fun v h2 hp => by obtain ⟨r, rfl, hp⟩ := hp; exact kk r h2 hp)
theorem clX9_describe_70 {X : CX} {d0 mc0 ms0 d mc ms cells slots : Nat} {pp : Int32 → Hp → Prop} {h : Hp} {ls : List (Option Value)} {rest : List Value} {b : Nat} {a0 : Value} {post : Int32 → Hp → Prop} (C : CmI X mX9_describe d0 mc0 ms0 pp) (hct : CtI mX9_start d mc ms [va_rf (some b), a0] h post) (hK : h.K b = 10) (hdd : d < d0) (hmc : cells + mc ≤ mc0) (hms : slots + ms ≤ ms0) (hcat : (rest.map fun v => v.category).sum ≤ 8) (kk : ∀ r h', post r h' → At X (cells + mc) (slots + ms) 73 ls (.int r :: rest) h') : At X cells slots 70 ls (a0 :: va_rf (some b) :: rest) h :=
  st_callV (pc := 70) (M := mX9_start) (idx := 91) (As := [a0]) C.1 C.2.2.1 C.2.2.2.2.2.2 ⟨wM_RX9_91, wC_X9_start, wI_RX9, by decide +kernel, by decide⟩ wV_X9_start wS_X9_start (ci := 9) (n := 1) rfl rfl (by decide) dX9_describe_70 rfl hdd hcat hK hct hmc hms (fun v h2 hp => by obtain ⟨r, rfl, hp⟩ := hp; exact kk r h2 hp)
theorem clX9_describe_97 {X : CX} {d0 mc0 ms0 d mc ms cells slots : Nat} {pp : Int32 → Hp → Prop} {h : Hp} {ls : List (Option Value)} {rest : List Value} {b : Nat} {a0 : Value} {post : Int32 → Hp → Prop} (C : CmI X mX9_describe d0 mc0 ms0 pp) (hct : CtI mX9_isLive d mc ms [va_rf (some b), a0] h post) (hK : h.K b = 10) (hdd : d < d0) (hmc : cells + mc ≤ mc0) (hms : slots + ms ≤ ms0) (hcat : (rest.map fun v => v.category).sum ≤ 8) (kk : ∀ r h', post r h' → At X (cells + mc) (slots + ms) 100 ls (.int r :: rest) h') : At X cells slots 97 ls (a0 :: va_rf (some b) :: rest) h :=
  st_callV (pc := 97) (M := mX9_isLive) (idx := 98) (As := [a0]) C.1 C.2.2.1 C.2.2.2.2.2.2 ⟨wM_RX9_98, wC_X9_isLive, wI_RX9, by decide +kernel, by decide⟩ wV_X9_isLive wS_X9_isLive (ci := 9) (n := 1) rfl rfl (by decide) dX9_describe_97 rfl hdd hcat hK hct hmc hms (fun v h2 hp => by obtain ⟨r, rfl, hp⟩ := hp; exact kk r h2 hp)
theorem clX9_describe_112 {X : CX} {d0 mc0 ms0 d mc ms cells slots : Nat} {pp : Int32 → Hp → Prop} {h : Hp} {ls : List (Option Value)} {rest : List Value} {b : Nat} {a0 : Value} {post : Int32 → Hp → Prop} (C : CmI X mX9_describe d0 mc0 ms0 pp) (hct : CtI mX9_start d mc ms [va_rf (some b), a0] h post) (hK : h.K b = 10) (hdd : d < d0) (hmc : cells + mc ≤ mc0) (hms : slots + ms ≤ ms0) (hcat : (rest.map fun v => v.category).sum ≤ 8) (kk : ∀ r h', post r h' → At X (cells + mc) (slots + ms) 115 ls (.int r :: rest) h') : At X cells slots 112 ls (a0 :: va_rf (some b) :: rest) h :=
  st_callV (pc := 112) (M := mX9_start) (idx := 91) (As := [a0]) C.1 C.2.2.1 C.2.2.2.2.2.2 ⟨wM_RX9_91, wC_X9_start, wI_RX9, by decide +kernel, by decide⟩ wV_X9_start wS_X9_start (ci := 9) (n := 1) rfl rfl (by decide) dX9_describe_112 rfl hdd hcat hK hct hmc hms (fun v h2 hp => by obtain ⟨r, rfl, hp⟩ := hp; exact kk r h2 hp)
theorem sgX9_setRoot_0 {X : CX} {d mc ms cells slots : Nat} {pp : Int32 → Hp → Prop} {h : Hp} {t : Nat} {x1 : Int32} {x2 : Int32} {r0 : Nat} (C : CmI X mX9_setRoot d mc ms pp) (hc : cells ≤ mc) (hs : slots ≤ ms) (h0 : h.K t = 10) (h1 : h.R 922 t = some r0) (h2 : h.K r0 = 11) (h3 : ¬ x1 < 0 → x1 < 16 → vp_in x1 (h.N r0)) (k0 : x1 < 0 → pp 0 (h.sI 903 t 0)) (k1 : ¬ x1 < 0 → x1 < 16 → pp 1 ((h.sI 903 t 0).sAI r0 (x1.toNatClampNeg) x2)) (k2 : ¬ x1 < 0 → ¬ x1 < 16 → pp 0 (h.sI 903 t 0)) : At X cells slots 0 [some (va_rf (some t)), some (.int x1), some (.int x2)] [] h := by
  refine st_aload_n (pc := 0) C.1 (some t) dX9_setRoot_0 rfl rfl ?_
  refine st_iconst (pc := 1) (v := 0) C.1 dX9_setRoot_1 (by decide) ?_
  refine pI_RX9_85 (pc := 2) C.1 dX9_setRoot_2 h0 ?_
  refine st_iload_n (pc := 5) C.1 dX9_setRoot_5 rfl rfl ?_
  refine st_if_lt (pc := 6) (tgt := 15) C.1 dX9_setRoot_6 (by decide) (fun c0 => ?_) (fun c0 => ?_)
  · refine st_iconst (pc := 15) (v := 0) C.1 dX9_setRoot_15 (by decide) ?_
    exact rt_i C (Or.inr ⟨rfl, (Or.inl rfl)⟩) dX9_setRoot_16 hc hs ⟨_, rfl, (k0 c0)⟩
  · refine st_iload_n (pc := 9) C.1 dX9_setRoot_9 rfl rfl ?_
    refine st_bipush (pc := 10) (v := 16) C.1 dX9_setRoot_10 (by decide) ?_
    refine st_icmp_lt (pc := 12) (tgt := 17) C.1 dX9_setRoot_12 (by decide) (fun c1 => ?_) (fun c1 => ?_)
    · refine st_aload_n (pc := 17) C.1 (some t) dX9_setRoot_17 rfl rfl ?_
      refine gR_RX9_41 (pc := 18) C.1 (some r0) dX9_setRoot_18 h0 h1 ?_
      refine st_iload_n (pc := 21) C.1 dX9_setRoot_21 rfl rfl ?_
      refine st_iload_n (pc := 22) C.1 dX9_setRoot_22 rfl rfl ?_
      refine st_iastore (pc := 23) C.1 dX9_setRoot_23 h2 (h3 c0 c1) ?_
      refine st_iconst (pc := 24) (v := 1) C.1 dX9_setRoot_24 (by decide) ?_
      exact rt_i C (Or.inr ⟨rfl, (Or.inr rfl)⟩) dX9_setRoot_25 hc hs ⟨_, rfl, (k1 c0 c1)⟩
    · refine st_iconst (pc := 15) (v := 0) C.1 dX9_setRoot_15 (by decide) ?_
      exact rt_i C (Or.inr ⟨rfl, (Or.inl rfl)⟩) dX9_setRoot_16 hc hs ⟨_, rfl, (k2 c0 c1)⟩

theorem sgX9_leads_0 {X : CX} {d mc ms cells slots : Nat} {pp : Int32 → Hp → Prop} {h : Hp} {t : Nat} {x1 : Int32}  (C : CmI X mX9_leads d mc ms pp)  (k0 : At X cells slots 2 [some (va_rf (some t)), some (.int x1)] [.int x1, va_rf (some t)] h) : At X cells slots 0 [some (va_rf (some t)), some (.int x1)] [] h := by
  refine st_aload_n (pc := 0) C.1 (some t) dX9_leads_0 rfl rfl ?_
  refine st_iload_n (pc := 1) C.1 dX9_leads_1 rfl rfl ?_
  exact k0

theorem sgX9_leads_5 {X : CX} {d mc ms cells slots : Nat} {pp : Int32 → Hp → Prop} {h : Hp} {t : Nat} {x1 : Int32} {u0 : Int32}  (C : CmI X mX9_leads d mc ms pp) (hc : cells ≤ mc) (hs : slots ≤ ms)  (k0 : ¬ u0 = 0 → pp (-1) h) (k1 : u0 = 0 → At X cells slots 10 [some (va_rf (some t)), some (.int x1)] [.int x1, va_rf (some t)] h) : At X cells slots 5 [some (va_rf (some t)), some (.int x1)] [.int u0] h := by
  refine st_if_ne (pc := 5) (tgt := 16) C.1 dX9_leads_5 (by decide) (fun c0 => ?_) (fun c0 => ?_)
  · refine st_iconst (pc := 16) (v := (-1)) C.1 dX9_leads_16 (by decide) ?_
    exact rt_i C (Or.inl rfl) dX9_leads_17 hc hs ⟨_, rfl, (k0 c0)⟩
  · refine st_aload_n (pc := 8) C.1 (some t) dX9_leads_8 rfl rfl ?_
    refine st_iload_n (pc := 9) C.1 dX9_leads_9 rfl rfl ?_
    exact (k1 c0)

theorem sgX9_leads_13 {X : CX} {d mc ms cells slots : Nat} {pp : Int32 → Hp → Prop} {h : Hp} {t : Nat} {x1 : Int32} {u0 : Int32}  (C : CmI X mX9_leads d mc ms pp) (hc : cells ≤ mc) (hs : slots ≤ ms)  (k0 : pp u0 h) : At X cells slots 13 [some (va_rf (some t)), some (.int x1)] [.int u0] h := by
  refine st_goto (pc := 13) (tgt := 17) C.1 dX9_leads_13 (by decide) ?_
  exact rt_i C (Or.inl rfl) dX9_leads_17 hc hs ⟨_, rfl, k0⟩

theorem clX9_leads_2 {X : CX} {d0 mc0 ms0 d mc ms cells slots : Nat} {pp : Int32 → Hp → Prop} {h : Hp} {ls : List (Option Value)} {rest : List Value} {b : Nat} {a0 : Value} {post : Int32 → Hp → Prop} (C : CmI X mX9_leads d0 mc0 ms0 pp) (hct : CtI mX9_sortOf d mc ms [va_rf (some b), a0] h post) (hK : h.K b = 10) (hdd : d < d0) (hmc : cells + mc ≤ mc0) (hms : slots + ms ≤ ms0) (hcat : (rest.map fun v => v.category).sum ≤ 8) (kk : ∀ r h', post r h' → At X (cells + mc) (slots + ms) 5 ls (.int r :: rest) h') : At X cells slots 2 ls (a0 :: va_rf (some b) :: rest) h :=
  st_callV (pc := 2) (M := mX9_sortOf) (idx := 184) (As := [a0]) C.1 C.2.2.1 C.2.2.2.2.2.2 ⟨wM_RX9_184, wC_X9_sortOf, wI_RX9, by decide +kernel, by decide⟩ wV_X9_sortOf wS_X9_sortOf (ci := 9) (n := 1) rfl rfl (by decide) dX9_leads_2 rfl hdd hcat hK hct hmc hms (fun v h2 hp => by obtain ⟨r, rfl, hp⟩ := hp; exact kk r h2 hp)
theorem clX9_leads_10 {X : CX} {d0 mc0 ms0 d mc ms cells slots : Nat} {pp : Int32 → Hp → Prop} {h : Hp} {ls : List (Option Value)} {rest : List Value} {b : Nat} {a0 : Value} {post : Int32 → Hp → Prop} (C : CmI X mX9_leads d0 mc0 ms0 pp) (hct : CtI mX9_blockOf d mc ms [va_rf (some b), a0] h post) (hK : h.K b = 10) (hdd : d < d0) (hmc : cells + mc ≤ mc0) (hms : slots + ms ≤ ms0) (hcat : (rest.map fun v => v.category).sum ≤ 8) (kk : ∀ r h', post r h' → At X (cells + mc) (slots + ms) 13 ls (.int r :: rest) h') : At X cells slots 10 ls (a0 :: va_rf (some b) :: rest) h :=
  st_callV (pc := 10) (M := mX9_blockOf) (idx := 95) (As := [a0]) C.1 C.2.2.1 C.2.2.2.2.2.2 ⟨wM_RX9_95, wC_X9_blockOf, wI_RX9, by decide +kernel, by decide⟩ wV_X9_blockOf wS_X9_blockOf (ci := 9) (n := 1) rfl rfl (by decide) dX9_leads_10 rfl hdd hcat hK hct hmc hms (fun v h2 hp => by obtain ⟨r, rfl, hp⟩ := hp; exact kk r h2 hp)
theorem sgX9_reaches_0 {X : CX} {d mc ms cells slots : Nat} {pp : Hp → Prop} {h : Hp} {t : Nat}  (C : CmV X mX9_reaches d mc ms pp)  (k0 : At X cells slots 2 [some (va_rf (some t)), some (.int 0), none, none, none] [] h) : At X cells slots 0 [some (va_rf (some t)), none, none, none, none] [] h := by
  refine st_iconst (pc := 0) (v := 0) C.1 dX9_reaches_0 (by decide) ?_
  refine sv_istore_n (pc := 1) (i := 1) C.1 [some (va_rf (some t)), some (.int 0), none, none, none] dX9_reaches_1 rfl (Nat.le_of_ble_eq_true rfl) (by rw [C.2.1]; exact Nat.le_of_ble_eq_true rfl) rfl rfl ?_
  exact k0

theorem sgX9_reaches_2 {X : CX} {d mc ms cells slots : Nat} {pp : Hp → Prop} {h : Hp} {t : Nat} {x1 : Int32} {r0 : Nat} (C : CmV X mX9_reaches d mc ms pp) (h0 : h.K t = 10) (h1 : h.R 926 t = some r0) (h2 : h.K r0 = 12) (h3 : ¬ h.I 912 t ≤ x1 → vp_in x1 (h.N r0)) (k0 : h.I 912 t ≤ x1 → At X cells slots 25 [some (va_rf (some t)), some (.int 0), none, none, none] [] h) (k1 : ¬ h.I 912 t ≤ x1 → At X cells slots 2 [some (va_rf (some t)), some (.int (x1 + 1)), none, none, none] [] (h.sAI r0 (x1.toNatClampNeg) 0)) : At X cells slots 2 [some (va_rf (some t)), some (.int x1), none, none, none] [] h := by
  refine st_iload_n (pc := 2) C.1 dX9_reaches_2 rfl rfl ?_
  refine st_aload_n (pc := 3) C.1 (some t) dX9_reaches_3 rfl rfl ?_
  refine gI_RX9_88 (pc := 4) C.1 (h.I 912 t) dX9_reaches_4 h0 rfl ?_
  refine st_icmp_ge (pc := 7) (tgt := 23) C.1 dX9_reaches_7 (by decide) (fun c0 => ?_) (fun c0 => ?_)
  · refine st_iconst (pc := 23) (v := 0) C.1 dX9_reaches_23 (by decide) ?_
    refine sv_istore_n (pc := 24) (i := 1) C.1 [some (va_rf (some t)), some (.int 0), none, none, none] dX9_reaches_24 rfl (Nat.le_of_ble_eq_true rfl) (by rw [C.2.1]; exact Nat.le_of_ble_eq_true rfl) rfl rfl ?_
    exact (k0 c0)
  · refine st_aload_n (pc := 10) C.1 (some t) dX9_reaches_10 rfl rfl ?_
    refine gR_RX9_53 (pc := 11) C.1 (some r0) dX9_reaches_11 h0 h1 ?_
    refine st_iload_n (pc := 14) C.1 dX9_reaches_14 rfl rfl ?_
    refine st_iconst (pc := 15) (v := 0) C.1 dX9_reaches_15 (by decide) ?_
    refine st_bastore (pc := 16) C.1 dX9_reaches_16 h2 (h3 c0) (Or.inl rfl) ?_
    refine sv_iinc (pc := 17) (i := 1) (v := x1 + 1) C.1 [some (va_rf (some t)), some (.int (x1 + 1)), none, none, none] dX9_reaches_17 rfl rfl (by rw [C.2.1]; exact Nat.le_of_ble_eq_true rfl) rfl rfl ?_
    refine st_goto (pc := 20) (tgt := 2) C.1 dX9_reaches_20 (by decide) ?_
    exact (k1 c0)

theorem sgX9_reaches_25 {X : CX} {d mc ms cells slots : Nat} {pp : Hp → Prop} {h : Hp} {t : Nat} {x1 : Int32} {r0 : Nat} (C : CmV X mX9_reaches d mc ms pp) (h0 : h.K t = 10) (h1 : h.R 922 t = some r0) (h2 : h.K r0 = 11) (h3 : ¬ 16 ≤ x1 → vp_in x1 (h.N r0)) (k0 : 16 ≤ x1 → At X cells slots 69 [some (va_rf (some t)), some (.int 1), none, none, none] [] h) (k1 : ¬ 16 ≤ x1 → At X cells slots 38 [some (va_rf (some t)), some (.int x1), none, none, none] [.int (h.AI r0 (x1.toNatClampNeg)), va_rf (some t)] h) : At X cells slots 25 [some (va_rf (some t)), some (.int x1), none, none, none] [] h := by
  refine st_iload_n (pc := 25) C.1 dX9_reaches_25 rfl rfl ?_
  refine st_bipush (pc := 26) (v := 16) C.1 dX9_reaches_26 (by decide) ?_
  refine st_icmp_ge (pc := 28) (tgt := 67) C.1 dX9_reaches_28 (by decide) (fun c0 => ?_) (fun c0 => ?_)
  · refine st_iconst (pc := 67) (v := 1) C.1 dX9_reaches_67 (by decide) ?_
    refine sv_istore_n (pc := 68) (i := 1) C.1 [some (va_rf (some t)), some (.int 1), none, none, none] dX9_reaches_68 rfl (Nat.le_of_ble_eq_true rfl) (by rw [C.2.1]; exact Nat.le_of_ble_eq_true rfl) rfl rfl ?_
    exact (k0 c0)
  · refine st_aload_n (pc := 31) C.1 (some t) dX9_reaches_31 rfl rfl ?_
    refine st_aload_n (pc := 32) C.1 (some t) dX9_reaches_32 rfl rfl ?_
    refine gR_RX9_41 (pc := 33) C.1 (some r0) dX9_reaches_33 h0 h1 ?_
    refine st_iload_n (pc := 36) C.1 dX9_reaches_36 rfl rfl ?_
    refine sv_iaload (pc := 37) C.1 (h.AI r0 (x1.toNatClampNeg)) dX9_reaches_37 h2 (h3 c0) rfl ?_
    exact (k1 c0)

theorem sgX9_reaches_41 {X : CX} {d mc ms cells slots : Nat} {pp : Hp → Prop} {h : Hp} {t : Nat} {x1 : Int32} {u0 : Int32} {r0 : Nat} (C : CmV X mX9_reaches d mc ms pp) (h0 : h.K t = 10) (h1 : h.R 922 t = some r0) (h2 : h.K r0 = 11) (h3 : ¬ u0 = (-1) → vp_in x1 (h.N r0)) (k0 : u0 = (-1) → At X cells slots 25 [some (va_rf (some t)), some (.int (x1 + 1)), none, none, none] [] h) (k1 : ¬ u0 = (-1) → At X cells slots 56 [some (va_rf (some t)), some (.int x1), none, none, none] [.int (h.AI r0 (x1.toNatClampNeg)), va_rf (some t), va_rf (h.R 926 t)] h) : At X cells slots 41 [some (va_rf (some t)), some (.int x1), none, none, none] [.int u0] h := by
  refine st_iconst (pc := 41) (v := (-1)) C.1 dX9_reaches_41 (by decide) ?_
  refine st_icmp_eq (pc := 42) (tgt := 61) C.1 dX9_reaches_42 (by decide) (fun c0 => ?_) (fun c0 => ?_)
  · refine sv_iinc (pc := 61) (i := 1) (v := x1 + 1) C.1 [some (va_rf (some t)), some (.int (x1 + 1)), none, none, none] dX9_reaches_61 rfl rfl (by rw [C.2.1]; exact Nat.le_of_ble_eq_true rfl) rfl rfl ?_
    refine st_goto (pc := 64) (tgt := 25) C.1 dX9_reaches_64 (by decide) ?_
    exact (k0 c0)
  · refine st_aload_n (pc := 45) C.1 (some t) dX9_reaches_45 rfl rfl ?_
    refine gR_RX9_53 (pc := 46) C.1 (h.R 926 t) dX9_reaches_46 h0 rfl ?_
    refine st_aload_n (pc := 49) C.1 (some t) dX9_reaches_49 rfl rfl ?_
    refine st_aload_n (pc := 50) C.1 (some t) dX9_reaches_50 rfl rfl ?_
    refine gR_RX9_41 (pc := 51) C.1 (some r0) dX9_reaches_51 h0 h1 ?_
    refine st_iload_n (pc := 54) C.1 dX9_reaches_54 rfl rfl ?_
    refine sv_iaload (pc := 55) C.1 (h.AI r0 (x1.toNatClampNeg)) dX9_reaches_55 h2 (h3 c0) rfl ?_
    exact (k1 c0)

theorem sgX9_reaches_59 {X : CX} {d mc ms cells slots : Nat} {pp : Hp → Prop} {h : Hp} {t : Nat} {x1 : Int32} {u0 : Int32} {q1 : Nat}  (C : CmV X mX9_reaches d mc ms pp) (h0 : h.K q1 = 12) (h1 : vp_in u0 (h.N q1)) (k0 : At X cells slots 25 [some (va_rf (some t)), some (.int (x1 + 1)), none, none, none] [] (h.sAI q1 (u0.toNatClampNeg) 1)) : At X cells slots 59 [some (va_rf (some t)), some (.int x1), none, none, none] [.int u0, va_rf (some q1)] h := by
  refine st_iconst (pc := 59) (v := 1) C.1 dX9_reaches_59 (by decide) ?_
  refine st_bastore (pc := 60) C.1 dX9_reaches_60 h0 h1 (Or.inr rfl) ?_
  refine sv_iinc (pc := 61) (i := 1) (v := x1 + 1) C.1 [some (va_rf (some t)), some (.int (x1 + 1)), none, none, none] dX9_reaches_61 rfl rfl (by rw [C.2.1]; exact Nat.le_of_ble_eq_true rfl) rfl rfl ?_
  refine st_goto (pc := 64) (tgt := 25) C.1 dX9_reaches_64 (by decide) ?_
  exact k0

theorem sgX9_reaches_69 {X : CX} {d mc ms cells slots : Nat} {pp : Hp → Prop} {h : Hp} {t : Nat} {x1 : Int32}  (C : CmV X mX9_reaches d mc ms pp) (hc : cells ≤ mc) (hs : slots ≤ ms)  (k0 : x1 = 0 → pp h) (k1 : ¬ x1 = 0 → At X cells slots 77 [some (va_rf (some t)), some (.int 0), some (.int 0), none, none] [] h) : At X cells slots 69 [some (va_rf (some t)), some (.int x1), none, none, none] [] h := by
  refine st_iload_n (pc := 69) C.1 dX9_reaches_69 rfl rfl ?_
  refine st_if_eq (pc := 70) (tgt := 168) C.1 dX9_reaches_70 (by decide) (fun c0 => ?_) (fun c0 => ?_)
  · exact rt_v C rfl dX9_reaches_168 hc hs ⟨rfl, (k0 c0)⟩
  · refine st_iconst (pc := 73) (v := 0) C.1 dX9_reaches_73 (by decide) ?_
    refine sv_istore_n (pc := 74) (i := 1) C.1 [some (va_rf (some t)), some (.int 0), none, none, none] dX9_reaches_74 rfl (Nat.le_of_ble_eq_true rfl) (by rw [C.2.1]; exact Nat.le_of_ble_eq_true rfl) rfl rfl ?_
    refine st_iconst (pc := 75) (v := 0) C.1 dX9_reaches_75 (by decide) ?_
    refine sv_istore_n (pc := 76) (i := 2) C.1 [some (va_rf (some t)), some (.int 0), some (.int 0), none, none] dX9_reaches_76 rfl (Nat.le_of_ble_eq_true rfl) (by rw [C.2.1]; exact Nat.le_of_ble_eq_true rfl) rfl rfl ?_
    exact (k1 c0)

theorem sgX9_reaches_77 {X : CX} {d mc ms cells slots : Nat} {pp : Hp → Prop} {h : Hp} {t : Nat} {x1 : Int32} {x2 : Int32}  (C : CmV X mX9_reaches d mc ms pp) (h0 : h.K t = 10) (k0 : h.I 912 t ≤ x2 → At X cells slots 69 [some (va_rf (some t)), some (.int x1), some (.int x2), none, none] [] h) (k1 : ¬ h.I 912 t ≤ x2 → At X cells slots 87 [some (va_rf (some t)), some (.int x1), some (.int x2), some (.int 0), none] [] h) : At X cells slots 77 [some (va_rf (some t)), some (.int x1), some (.int x2), none, none] [] h := by
  refine st_iload_n (pc := 77) C.1 dX9_reaches_77 rfl rfl ?_
  refine st_aload_n (pc := 78) C.1 (some t) dX9_reaches_78 rfl rfl ?_
  refine gI_RX9_88 (pc := 79) C.1 (h.I 912 t) dX9_reaches_79 h0 rfl ?_
  refine st_icmp_ge (pc := 82) (tgt := 165) C.1 dX9_reaches_82 (by decide) (fun c0 => ?_) (fun c0 => ?_)
  · refine st_goto (pc := 165) (tgt := 69) C.1 dX9_reaches_165 (by decide) ?_
    exact (k0 c0)
  · refine st_iconst (pc := 85) (v := 0) C.1 dX9_reaches_85 (by decide) ?_
    refine sv_istore_n (pc := 86) (i := 3) C.1 [some (va_rf (some t)), some (.int x1), some (.int x2), some (.int 0), none] dX9_reaches_86 rfl (Nat.le_of_ble_eq_true rfl) (by rw [C.2.1]; exact Nat.le_of_ble_eq_true rfl) rfl rfl ?_
    exact (k1 c0)

theorem sgX9_reaches_87 {X : CX} {d mc ms cells slots : Nat} {pp : Hp → Prop} {h : Hp} {t : Nat} {x1 : Int32} {x2 : Int32} {x3 : Int32} {r0 : Nat} {r1 : Nat} (C : CmV X mX9_reaches d mc ms pp) (h0 : h.K t = 10) (h1 : h.R 909 t = some r0) (h2 : h.K r0 = 11) (h3 : vp_in x2 (h.N r0)) (h4 : h.R 926 t = some r1) (h5 : h.K r1 = 12) (h6 : ¬ h.AI r0 (x2.toNatClampNeg) ≤ x3 → vp_in x2 (h.N r1)) (k0 : h.AI r0 (x2.toNatClampNeg) ≤ x3 → At X cells slots 77 [some (va_rf (some t)), some (.int x1), some (.int (x2 + 1)), some (.int x3), none] [] h) (k1 : ¬ h.AI r0 (x2.toNatClampNeg) ≤ x3 → h.AI r1 (x2.toNatClampNeg) = 0 → At X cells slots 77 [some (va_rf (some t)), some (.int x1), some (.int (x2 + 1)), some (.int x3), none] [] h) (k2 : ¬ h.AI r0 (x2.toNatClampNeg) ≤ x3 → ¬ h.AI r1 (x2.toNatClampNeg) = 0 → At X cells slots 113 [some (va_rf (some t)), some (.int x1), some (.int x2), some (.int x3), none] [.int x2, va_rf (some t), va_rf (h.R 904 t), va_rf (some t)] h) : At X cells slots 87 [some (va_rf (some t)), some (.int x1), some (.int x2), some (.int x3), none] [] h := by
  refine st_iload_n (pc := 87) C.1 dX9_reaches_87 rfl rfl ?_
  refine st_aload_n (pc := 88) C.1 (some t) dX9_reaches_88 rfl rfl ?_
  refine gR_RX9_26 (pc := 89) C.1 (some r0) dX9_reaches_89 h0 h1 ?_
  refine st_iload_n (pc := 92) C.1 dX9_reaches_92 rfl rfl ?_
  refine sv_iaload (pc := 93) C.1 (h.AI r0 (x2.toNatClampNeg)) dX9_reaches_93 h2 h3 rfl ?_
  refine st_icmp_ge (pc := 94) (tgt := 159) C.1 dX9_reaches_94 (by decide) (fun c0 => ?_) (fun c0 => ?_)
  · refine sv_iinc (pc := 159) (i := 2) (v := x2 + 1) C.1 [some (va_rf (some t)), some (.int x1), some (.int (x2 + 1)), some (.int x3), none] dX9_reaches_159 rfl rfl (by rw [C.2.1]; exact Nat.le_of_ble_eq_true rfl) rfl rfl ?_
    refine st_goto (pc := 162) (tgt := 77) C.1 dX9_reaches_162 (by decide) ?_
    exact (k0 c0)
  · refine st_aload_n (pc := 97) C.1 (some t) dX9_reaches_97 rfl rfl ?_
    refine gR_RX9_53 (pc := 98) C.1 (some r1) dX9_reaches_98 h0 h4 ?_
    refine st_iload_n (pc := 101) C.1 dX9_reaches_101 rfl rfl ?_
    refine sv_baload (pc := 102) C.1 (h.AI r1 (x2.toNatClampNeg)) dX9_reaches_102 h5 (h6 c0) rfl ?_
    refine st_if_eq (pc := 103) (tgt := 159) C.1 dX9_reaches_103 (by decide) (fun c1 => ?_) (fun c1 => ?_)
    · refine sv_iinc (pc := 159) (i := 2) (v := x2 + 1) C.1 [some (va_rf (some t)), some (.int x1), some (.int (x2 + 1)), some (.int x3), none] dX9_reaches_159 rfl rfl (by rw [C.2.1]; exact Nat.le_of_ble_eq_true rfl) rfl rfl ?_
      refine st_goto (pc := 162) (tgt := 77) C.1 dX9_reaches_162 (by decide) ?_
      exact (k1 c0 c1)
    · refine st_aload_n (pc := 106) C.1 (some t) dX9_reaches_106 rfl rfl ?_
      refine st_aload_n (pc := 107) C.1 (some t) dX9_reaches_107 rfl rfl ?_
      refine gR_RX9_7 (pc := 108) C.1 (h.R 904 t) dX9_reaches_108 h0 rfl ?_
      refine st_aload_n (pc := 111) C.1 (some t) dX9_reaches_111 rfl rfl ?_
      refine st_iload_n (pc := 112) C.1 dX9_reaches_112 rfl rfl ?_
      exact (k2 c0 c1)

theorem sgX9_reaches_116 {X : CX} {d mc ms cells slots : Nat} {pp : Hp → Prop} {h : Hp} {t : Nat} {x1 : Int32} {x2 : Int32} {x3 : Int32} {u0 : Int32} {q1 : Nat} {p2 : Option Nat}  (C : CmV X mX9_reaches d mc ms pp) (h0 : h.K q1 = 11) (h1 : vp_in (u0 + x3) (h.N q1)) (k0 : At X cells slots 119 [some (va_rf (some t)), some (.int x1), some (.int x2), some (.int x3), none] [.int (h.AI q1 ((u0 + x3).toNatClampNeg)), va_rf p2] h) : At X cells slots 116 [some (va_rf (some t)), some (.int x1), some (.int x2), some (.int x3), none] [.int u0, va_rf (some q1), va_rf p2] h := by
  refine st_iload_n (pc := 116) C.1 dX9_reaches_116 rfl rfl ?_
  refine st_iadd (pc := 117) C.1 dX9_reaches_117 ?_
  refine sv_iaload (pc := 118) C.1 (h.AI q1 ((u0 + x3).toNatClampNeg)) dX9_reaches_118 h0 h1 rfl ?_
  exact k0

theorem sgX9_reaches_122 {X : CX} {d mc ms cells slots : Nat} {pp : Hp → Prop} {h : Hp} {t : Nat} {x1 : Int32} {x2 : Int32} {x3 : Int32} {u0 : Int32} {r0 : Nat} (C : CmV X mX9_reaches d mc ms pp) (h0 : h.K t = 10) (h1 : h.R 926 t = some r0) (h2 : h.K r0 = 12) (h3 : ¬ u0 = (-1) → vp_in u0 (h.N r0)) (h4 : ¬ u0 = (-1) → h.AI r0 (u0.toNatClampNeg) = 0 → vp_in u0 (h.N r0)) (k0 : u0 = (-1) → At X cells slots 87 [some (va_rf (some t)), some (.int x1), some (.int x2), some (.int (x3 + 1)), some (.int u0)] [] h) (k1 : ¬ u0 = (-1) → h.AI r0 (u0.toNatClampNeg) = 0 → At X cells slots 87 [some (va_rf (some t)), some (.int 1), some (.int x2), some (.int (x3 + 1)), some (.int u0)] [] (h.sAI r0 (u0.toNatClampNeg) 1)) (k2 : ¬ u0 = (-1) → ¬ h.AI r0 (u0.toNatClampNeg) = 0 → At X cells slots 87 [some (va_rf (some t)), some (.int x1), some (.int x2), some (.int (x3 + 1)), some (.int u0)] [] h) : At X cells slots 122 [some (va_rf (some t)), some (.int x1), some (.int x2), some (.int x3), none] [.int u0] h := by
  refine sv_istore (pc := 122) (i := 4) C.1 [some (va_rf (some t)), some (.int x1), some (.int x2), some (.int x3), some (.int u0)] dX9_reaches_122 (Nat.le_of_ble_eq_true rfl) (by rw [C.2.1]; exact Nat.le_of_ble_eq_true rfl) rfl rfl ?_
  refine st_iload (pc := 124) C.1 dX9_reaches_124 rfl ?_
  refine st_iconst (pc := 126) (v := (-1)) C.1 dX9_reaches_126 (by decide) ?_
  refine st_icmp_eq (pc := 127) (tgt := 153) C.1 dX9_reaches_127 (by decide) (fun c0 => ?_) (fun c0 => ?_)
  · refine sv_iinc (pc := 153) (i := 3) (v := x3 + 1) C.1 [some (va_rf (some t)), some (.int x1), some (.int x2), some (.int (x3 + 1)), some (.int u0)] dX9_reaches_153 rfl rfl (by rw [C.2.1]; exact Nat.le_of_ble_eq_true rfl) rfl rfl ?_
    refine st_goto (pc := 156) (tgt := 87) C.1 dX9_reaches_156 (by decide) ?_
    exact (k0 c0)
  · refine st_aload_n (pc := 130) C.1 (some t) dX9_reaches_130 rfl rfl ?_
    refine gR_RX9_53 (pc := 131) C.1 (some r0) dX9_reaches_131 h0 h1 ?_
    refine st_iload (pc := 134) C.1 dX9_reaches_134 rfl ?_
    refine sv_baload (pc := 136) C.1 (h.AI r0 (u0.toNatClampNeg)) dX9_reaches_136 h2 (h3 c0) rfl ?_
    refine st_if_eq (pc := 137) (tgt := 143) C.1 dX9_reaches_137 (by decide) (fun c1 => ?_) (fun c1 => ?_)
    · refine st_aload_n (pc := 143) C.1 (some t) dX9_reaches_143 rfl rfl ?_
      refine gR_RX9_53 (pc := 144) C.1 (some r0) dX9_reaches_144 h0 h1 ?_
      refine st_iload (pc := 147) C.1 dX9_reaches_147 rfl ?_
      refine st_iconst (pc := 149) (v := 1) C.1 dX9_reaches_149 (by decide) ?_
      refine st_bastore (pc := 150) C.1 dX9_reaches_150 h2 (h4 c0 c1) (Or.inr rfl) ?_
      refine st_iconst (pc := 151) (v := 1) C.1 dX9_reaches_151 (by decide) ?_
      refine sv_istore_n (pc := 152) (i := 1) C.1 [some (va_rf (some t)), some (.int 1), some (.int x2), some (.int x3), some (.int u0)] dX9_reaches_152 rfl (Nat.le_of_ble_eq_true rfl) (by rw [C.2.1]; exact Nat.le_of_ble_eq_true rfl) rfl rfl ?_
      refine sv_iinc (pc := 153) (i := 3) (v := x3 + 1) C.1 [some (va_rf (some t)), some (.int 1), some (.int x2), some (.int (x3 + 1)), some (.int u0)] dX9_reaches_153 rfl rfl (by rw [C.2.1]; exact Nat.le_of_ble_eq_true rfl) rfl rfl ?_
      refine st_goto (pc := 156) (tgt := 87) C.1 dX9_reaches_156 (by decide) ?_
      exact (k1 c0 c1)
    · refine st_goto (pc := 140) (tgt := 153) C.1 dX9_reaches_140 (by decide) ?_
      refine sv_iinc (pc := 153) (i := 3) (v := x3 + 1) C.1 [some (va_rf (some t)), some (.int x1), some (.int x2), some (.int (x3 + 1)), some (.int u0)] dX9_reaches_153 rfl rfl (by rw [C.2.1]; exact Nat.le_of_ble_eq_true rfl) rfl rfl ?_
      refine st_goto (pc := 156) (tgt := 87) C.1 dX9_reaches_156 (by decide) ?_
      exact (k2 c0 c1)

theorem clX9_reaches_38 {X : CX} {d0 mc0 ms0 d mc ms cells slots : Nat} {pp : Hp → Prop} {h : Hp} {ls : List (Option Value)} {rest : List Value} {b : Nat} {a0 : Value} {post : Int32 → Hp → Prop} (C : CmV X mX9_reaches d0 mc0 ms0 pp) (hct : CtI mX9_leads d mc ms [va_rf (some b), a0] h post) (hK : h.K b = 10) (hdd : d < d0) (hmc : cells + mc ≤ mc0) (hms : slots + ms ≤ ms0) (hcat : (rest.map fun v => v.category).sum ≤ 8) (kk : ∀ r h', post r h' → At X (cells + mc) (slots + ms) 41 ls (.int r :: rest) h') : At X cells slots 38 ls (a0 :: va_rf (some b) :: rest) h :=
  st_callV (pc := 38) (M := mX9_leads) (idx := 187) (As := [a0]) C.1 C.2.2.1 C.2.2.2.2.2.2 ⟨wM_RX9_187, wC_X9_leads, wI_RX9, by decide +kernel, by decide⟩ wV_X9_leads wS_X9_leads (ci := 9) (n := 1) rfl rfl (by decide) dX9_reaches_38 rfl hdd hcat hK hct hmc hms (fun v h2 hp => by obtain ⟨r, rfl, hp⟩ := hp; exact kk r h2 hp)
theorem clX9_reaches_56 {X : CX} {d0 mc0 ms0 d mc ms cells slots : Nat} {pp : Hp → Prop} {h : Hp} {ls : List (Option Value)} {rest : List Value} {b : Nat} {a0 : Value} {post : Int32 → Hp → Prop} (C : CmV X mX9_reaches d0 mc0 ms0 pp) (hct : CtI mX9_leads d mc ms [va_rf (some b), a0] h post) (hK : h.K b = 10) (hdd : d < d0) (hmc : cells + mc ≤ mc0) (hms : slots + ms ≤ ms0) (hcat : (rest.map fun v => v.category).sum ≤ 8) (kk : ∀ r h', post r h' → At X (cells + mc) (slots + ms) 59 ls (.int r :: rest) h') : At X cells slots 56 ls (a0 :: va_rf (some b) :: rest) h :=
  st_callV (pc := 56) (M := mX9_leads) (idx := 187) (As := [a0]) C.1 C.2.2.1 C.2.2.2.2.2.2 ⟨wM_RX9_187, wC_X9_leads, wI_RX9, by decide +kernel, by decide⟩ wV_X9_leads wS_X9_leads (ci := 9) (n := 1) rfl rfl (by decide) dX9_reaches_56 rfl hdd hcat hK hct hmc hms (fun v h2 hp => by obtain ⟨r, rfl, hp⟩ := hp; exact kk r h2 hp)
theorem clX9_reaches_113 {X : CX} {d0 mc0 ms0 d mc ms cells slots : Nat} {pp : Hp → Prop} {h : Hp} {ls : List (Option Value)} {rest : List Value} {b : Nat} {a0 : Value} {post : Int32 → Hp → Prop} (C : CmV X mX9_reaches d0 mc0 ms0 pp) (hct : CtI mX9_start d mc ms [va_rf (some b), a0] h post) (hK : h.K b = 10) (hdd : d < d0) (hmc : cells + mc ≤ mc0) (hms : slots + ms ≤ ms0) (hcat : (rest.map fun v => v.category).sum ≤ 8) (kk : ∀ r h', post r h' → At X (cells + mc) (slots + ms) 116 ls (.int r :: rest) h') : At X cells slots 113 ls (a0 :: va_rf (some b) :: rest) h :=
  st_callV (pc := 113) (M := mX9_start) (idx := 91) (As := [a0]) C.1 C.2.2.1 C.2.2.2.2.2.2 ⟨wM_RX9_91, wC_X9_start, wI_RX9, by decide +kernel, by decide⟩ wV_X9_start wS_X9_start (ci := 9) (n := 1) rfl rfl (by decide) dX9_reaches_113 rfl hdd hcat hK hct hmc hms (fun v h2 hp => by obtain ⟨r, rfl, hp⟩ := hp; exact kk r h2 hp)
theorem clX9_reaches_119 {X : CX} {d0 mc0 ms0 d mc ms cells slots : Nat} {pp : Hp → Prop} {h : Hp} {ls : List (Option Value)} {rest : List Value} {b : Nat} {a0 : Value} {post : Int32 → Hp → Prop} (C : CmV X mX9_reaches d0 mc0 ms0 pp) (hct : CtI mX9_leads d mc ms [va_rf (some b), a0] h post) (hK : h.K b = 10) (hdd : d < d0) (hmc : cells + mc ≤ mc0) (hms : slots + ms ≤ ms0) (hcat : (rest.map fun v => v.category).sum ≤ 8) (kk : ∀ r h', post r h' → At X (cells + mc) (slots + ms) 122 ls (.int r :: rest) h') : At X cells slots 119 ls (a0 :: va_rf (some b) :: rest) h :=
  st_callV (pc := 119) (M := mX9_leads) (idx := 187) (As := [a0]) C.1 C.2.2.1 C.2.2.2.2.2.2 ⟨wM_RX9_187, wC_X9_leads, wI_RX9, by decide +kernel, by decide⟩ wV_X9_leads wS_X9_leads (ci := 9) (n := 1) rfl rfl (by decide) dX9_reaches_119 rfl hdd hcat hK hct hmc hms (fun v h2 hp => by obtain ⟨r, rfl, hp⟩ := hp; exact kk r h2 hp)
theorem sgX9_isHead_0 {X : CX} {d mc ms cells slots : Nat} {pp : Int32 → Hp → Prop} {h : Hp} {t : Nat} {x1 : Int32}  (C : CmI X mX9_isHead d mc ms pp)  (k0 : At X cells slots 2 [some (va_rf (some t)), some (.int x1), some (.int 0), none, none] [] h) : At X cells slots 0 [some (va_rf (some t)), some (.int x1), none, none, none] [] h := by
  refine st_iconst (pc := 0) (v := 0) C.1 dX9_isHead_0 (by decide) ?_
  refine sv_istore_n (pc := 1) (i := 2) C.1 [some (va_rf (some t)), some (.int x1), some (.int 0), none, none] dX9_isHead_1 rfl (Nat.le_of_ble_eq_true rfl) (by rw [C.2.1]; exact Nat.le_of_ble_eq_true rfl) rfl rfl ?_
  exact k0

theorem sgX9_isHead_2 {X : CX} {d mc ms cells slots : Nat} {pp : Int32 → Hp → Prop} {h : Hp} {t : Nat} {x1 : Int32} {x2 : Int32} {r0 : Nat} (C : CmI X mX9_isHead d mc ms pp) (hc : cells ≤ mc) (hs : slots ≤ ms) (h0 : h.K t = 10) (h1 : h.R 927 t = some r0) (h2 : h.K r0 = 11) (h3 : ¬ h.I 932 t ≤ x2 → vp_in x2 (h.N r0)) (k0 : h.I 932 t ≤ x2 → pp 1 h) (k1 : ¬ h.I 932 t ≤ x2 → At X cells slots 20 [some (va_rf (some t)), some (.int x1), some (.int x2), some (.int (h.AI r0 (x2.toNatClampNeg))), some (.int 0)] [] h) : At X cells slots 2 [some (va_rf (some t)), some (.int x1), some (.int x2), none, none] [] h := by
  refine st_iload_n (pc := 2) C.1 dX9_isHead_2 rfl rfl ?_
  refine st_aload_n (pc := 3) C.1 (some t) dX9_isHead_3 rfl rfl ?_
  refine gI_RX9_190 (pc := 4) C.1 (h.I 932 t) dX9_isHead_4 h0 rfl ?_
  refine st_icmp_ge (pc := 7) (tgt := 71) C.1 dX9_isHead_7 (by decide) (fun c0 => ?_) (fun c0 => ?_)
  · refine st_iconst (pc := 71) (v := 1) C.1 dX9_isHead_71 (by decide) ?_
    exact rt_i C (Or.inr ⟨rfl, (Or.inr rfl)⟩) dX9_isHead_72 hc hs ⟨_, rfl, (k0 c0)⟩
  · refine st_aload_n (pc := 10) C.1 (some t) dX9_isHead_10 rfl rfl ?_
    refine gR_RX9_57 (pc := 11) C.1 (some r0) dX9_isHead_11 h0 h1 ?_
    refine st_iload_n (pc := 14) C.1 dX9_isHead_14 rfl rfl ?_
    refine sv_iaload (pc := 15) C.1 (h.AI r0 (x2.toNatClampNeg)) dX9_isHead_15 h2 (h3 c0) rfl ?_
    refine sv_istore_n (pc := 16) (i := 3) C.1 [some (va_rf (some t)), some (.int x1), some (.int x2), some (.int (h.AI r0 (x2.toNatClampNeg))), none] dX9_isHead_16 rfl (Nat.le_of_ble_eq_true rfl) (by rw [C.2.1]; exact Nat.le_of_ble_eq_true rfl) rfl rfl ?_
    refine st_iconst (pc := 17) (v := 0) C.1 dX9_isHead_17 (by decide) ?_
    refine sv_istore (pc := 18) (i := 4) C.1 [some (va_rf (some t)), some (.int x1), some (.int x2), some (.int (h.AI r0 (x2.toNatClampNeg))), some (.int 0)] dX9_isHead_18 (Nat.le_of_ble_eq_true rfl) (by rw [C.2.1]; exact Nat.le_of_ble_eq_true rfl) rfl rfl ?_
    exact (k1 c0)

theorem sgX9_isHead_20 {X : CX} {d mc ms cells slots : Nat} {pp : Int32 → Hp → Prop} {h : Hp} {t : Nat} {x1 : Int32} {x2 : Int32} {x3 : Int32} {x4 : Int32} {r0 : Nat} (C : CmI X mX9_isHead d mc ms pp) (h0 : h.K t = 10) (h1 : h.R 909 t = some r0) (h2 : h.K r0 = 11) (h3 : vp_in x3 (h.N r0)) (k0 : h.AI r0 (x3.toNatClampNeg) ≤ x4 → At X cells slots 2 [some (va_rf (some t)), some (.int x1), some (.int (x2 + 1)), some (.int x3), some (.int x4)] [] h) (k1 : ¬ h.AI r0 (x3.toNatClampNeg) ≤ x4 → x3 = x1 → At X cells slots 2 [some (va_rf (some t)), some (.int x1), some (.int (x2 + 1)), some (.int x3), some (.int x4)] [] h) (k2 : ¬ h.AI r0 (x3.toNatClampNeg) ≤ x4 → ¬ x3 = x1 → At X cells slots 43 [some (va_rf (some t)), some (.int x1), some (.int x2), some (.int x3), some (.int x4)] [.int x3, va_rf (some t), va_rf (h.R 904 t), va_rf (some t)] h) : At X cells slots 20 [some (va_rf (some t)), some (.int x1), some (.int x2), some (.int x3), some (.int x4)] [] h := by
  refine st_iload (pc := 20) C.1 dX9_isHead_20 rfl ?_
  refine st_aload_n (pc := 22) C.1 (some t) dX9_isHead_22 rfl rfl ?_
  refine gR_RX9_26 (pc := 23) C.1 (some r0) dX9_isHead_23 h0 h1 ?_
  refine st_iload_n (pc := 26) C.1 dX9_isHead_26 rfl rfl ?_
  refine sv_iaload (pc := 27) C.1 (h.AI r0 (x3.toNatClampNeg)) dX9_isHead_27 h2 h3 rfl ?_
  refine st_icmp_ge (pc := 28) (tgt := 65) C.1 dX9_isHead_28 (by decide) (fun c0 => ?_) (fun c0 => ?_)
  · refine sv_iinc (pc := 65) (i := 2) (v := x2 + 1) C.1 [some (va_rf (some t)), some (.int x1), some (.int (x2 + 1)), some (.int x3), some (.int x4)] dX9_isHead_65 rfl rfl (by rw [C.2.1]; exact Nat.le_of_ble_eq_true rfl) rfl rfl ?_
    refine st_goto (pc := 68) (tgt := 2) C.1 dX9_isHead_68 (by decide) ?_
    exact (k0 c0)
  · refine st_iload_n (pc := 31) C.1 dX9_isHead_31 rfl rfl ?_
    refine st_iload_n (pc := 32) C.1 dX9_isHead_32 rfl rfl ?_
    refine st_icmp_eq (pc := 33) (tgt := 65) C.1 dX9_isHead_33 (by decide) (fun c1 => ?_) (fun c1 => ?_)
    · refine sv_iinc (pc := 65) (i := 2) (v := x2 + 1) C.1 [some (va_rf (some t)), some (.int x1), some (.int (x2 + 1)), some (.int x3), some (.int x4)] dX9_isHead_65 rfl rfl (by rw [C.2.1]; exact Nat.le_of_ble_eq_true rfl) rfl rfl ?_
      refine st_goto (pc := 68) (tgt := 2) C.1 dX9_isHead_68 (by decide) ?_
      exact (k1 c0 c1)
    · refine st_aload_n (pc := 36) C.1 (some t) dX9_isHead_36 rfl rfl ?_
      refine st_aload_n (pc := 37) C.1 (some t) dX9_isHead_37 rfl rfl ?_
      refine gR_RX9_7 (pc := 38) C.1 (h.R 904 t) dX9_isHead_38 h0 rfl ?_
      refine st_aload_n (pc := 41) C.1 (some t) dX9_isHead_41 rfl rfl ?_
      refine st_iload_n (pc := 42) C.1 dX9_isHead_42 rfl rfl ?_
      exact (k2 c0 c1)

theorem sgX9_isHead_46 {X : CX} {d mc ms cells slots : Nat} {pp : Int32 → Hp → Prop} {h : Hp} {t : Nat} {x1 : Int32} {x2 : Int32} {x3 : Int32} {x4 : Int32} {u0 : Int32} {q1 : Nat} {p2 : Option Nat}  (C : CmI X mX9_isHead d mc ms pp) (h0 : h.K q1 = 11) (h1 : vp_in (u0 + x4) (h.N q1)) (k0 : At X cells slots 50 [some (va_rf (some t)), some (.int x1), some (.int x2), some (.int x3), some (.int x4)] [.int (h.AI q1 ((u0 + x4).toNatClampNeg)), va_rf p2] h) : At X cells slots 46 [some (va_rf (some t)), some (.int x1), some (.int x2), some (.int x3), some (.int x4)] [.int u0, va_rf (some q1), va_rf p2] h := by
  refine st_iload (pc := 46) C.1 dX9_isHead_46 rfl ?_
  refine st_iadd (pc := 48) C.1 dX9_isHead_48 ?_
  refine sv_iaload (pc := 49) C.1 (h.AI q1 ((u0 + x4).toNatClampNeg)) dX9_isHead_49 h0 h1 rfl ?_
  exact k0

theorem sgX9_isHead_53 {X : CX} {d mc ms cells slots : Nat} {pp : Int32 → Hp → Prop} {h : Hp} {t : Nat} {x1 : Int32} {x2 : Int32} {x3 : Int32} {x4 : Int32} {u0 : Int32}  (C : CmI X mX9_isHead d mc ms pp) (hc : cells ≤ mc) (hs : slots ≤ ms)  (k0 : ¬ u0 = x1 → At X cells slots 20 [some (va_rf (some t)), some (.int x1), some (.int x2), some (.int x3), some (.int (x4 + 1))] [] h) (k1 : u0 = x1 → pp 0 h) : At X cells slots 53 [some (va_rf (some t)), some (.int x1), some (.int x2), some (.int x3), some (.int x4)] [.int u0] h := by
  refine st_iload_n (pc := 53) C.1 dX9_isHead_53 rfl rfl ?_
  refine st_icmp_ne (pc := 54) (tgt := 59) C.1 dX9_isHead_54 (by decide) (fun c0 => ?_) (fun c0 => ?_)
  · refine sv_iinc (pc := 59) (i := 4) (v := x4 + 1) C.1 [some (va_rf (some t)), some (.int x1), some (.int x2), some (.int x3), some (.int (x4 + 1))] dX9_isHead_59 rfl rfl (by rw [C.2.1]; exact Nat.le_of_ble_eq_true rfl) rfl rfl ?_
    refine st_goto (pc := 62) (tgt := 20) C.1 dX9_isHead_62 (by decide) ?_
    exact (k0 c0)
  · refine st_iconst (pc := 57) (v := 0) C.1 dX9_isHead_57 (by decide) ?_
    exact rt_i C (Or.inr ⟨rfl, (Or.inl rfl)⟩) dX9_isHead_58 hc hs ⟨_, rfl, (k1 c0)⟩

theorem clX9_isHead_43 {X : CX} {d0 mc0 ms0 d mc ms cells slots : Nat} {pp : Int32 → Hp → Prop} {h : Hp} {ls : List (Option Value)} {rest : List Value} {b : Nat} {a0 : Value} {post : Int32 → Hp → Prop} (C : CmI X mX9_isHead d0 mc0 ms0 pp) (hct : CtI mX9_start d mc ms [va_rf (some b), a0] h post) (hK : h.K b = 10) (hdd : d < d0) (hmc : cells + mc ≤ mc0) (hms : slots + ms ≤ ms0) (hcat : (rest.map fun v => v.category).sum ≤ 8) (kk : ∀ r h', post r h' → At X (cells + mc) (slots + ms) 46 ls (.int r :: rest) h') : At X cells slots 43 ls (a0 :: va_rf (some b) :: rest) h :=
  st_callV (pc := 43) (M := mX9_start) (idx := 91) (As := [a0]) C.1 C.2.2.1 C.2.2.2.2.2.2 ⟨wM_RX9_91, wC_X9_start, wI_RX9, by decide +kernel, by decide⟩ wV_X9_start wS_X9_start (ci := 9) (n := 1) rfl rfl (by decide) dX9_isHead_43 rfl hdd hcat hK hct hmc hms (fun v h2 hp => by obtain ⟨r, rfl, hp⟩ := hp; exact kk r h2 hp)
theorem clX9_isHead_50 {X : CX} {d0 mc0 ms0 d mc ms cells slots : Nat} {pp : Int32 → Hp → Prop} {h : Hp} {ls : List (Option Value)} {rest : List Value} {b : Nat} {a0 : Value} {post : Int32 → Hp → Prop} (C : CmI X mX9_isHead d0 mc0 ms0 pp) (hct : CtI mX9_leads d mc ms [va_rf (some b), a0] h post) (hK : h.K b = 10) (hdd : d < d0) (hmc : cells + mc ≤ mc0) (hms : slots + ms ≤ ms0) (hcat : (rest.map fun v => v.category).sum ≤ 8) (kk : ∀ r h', post r h' → At X (cells + mc) (slots + ms) 53 ls (.int r :: rest) h') : At X cells slots 50 ls (a0 :: va_rf (some b) :: rest) h :=
  st_callV (pc := 50) (M := mX9_leads) (idx := 187) (As := [a0]) C.1 C.2.2.1 C.2.2.2.2.2.2 ⟨wM_RX9_187, wC_X9_leads, wI_RX9, by decide +kernel, by decide⟩ wV_X9_leads wS_X9_leads (ci := 9) (n := 1) rfl rfl (by decide) dX9_isHead_50 rfl hdd hcat hK hct hmc hms (fun v h2 hp => by obtain ⟨r, rfl, hp⟩ := hp; exact kk r h2 hp)
theorem sgX9_leakScan_0 {X : CX} {d mc ms cells slots : Nat} {pp : Int32 → Hp → Prop} {h : Hp} {t : Nat}  (C : CmI X mX9_leakScan d mc ms pp) (h0 : h.K t = 10) (k0 : At X cells slots 6 [some (va_rf (some t)), none, none] [va_rf (some t)] (h.sI 903 t 0)) : At X cells slots 0 [some (va_rf (some t)), none, none] [] h := by
  refine st_aload_n (pc := 0) C.1 (some t) dX9_leakScan_0 rfl rfl ?_
  refine st_iconst (pc := 1) (v := 0) C.1 dX9_leakScan_1 (by decide) ?_
  refine pI_RX9_85 (pc := 2) C.1 dX9_leakScan_2 h0 ?_
  refine st_aload_n (pc := 5) C.1 (some t) dX9_leakScan_5 rfl rfl ?_
  exact k0

theorem sgX9_leakScan_9 {X : CX} {d mc ms cells slots : Nat} {pp : Int32 → Hp → Prop} {h : Hp} {t : Nat}  (C : CmI X mX9_leakScan d mc ms pp) (h0 : h.K t = 10) (k0 : At X cells slots 16 [some (va_rf (some t)), some (.int 0), none] [] (h.sI 932 t 0)) : At X cells slots 9 [some (va_rf (some t)), none, none] [] h := by
  refine st_aload_n (pc := 9) C.1 (some t) dX9_leakScan_9 rfl rfl ?_
  refine st_iconst (pc := 10) (v := 0) C.1 dX9_leakScan_10 (by decide) ?_
  refine pI_RX9_190 (pc := 11) C.1 dX9_leakScan_11 h0 ?_
  refine st_iconst (pc := 14) (v := 0) C.1 dX9_leakScan_14 (by decide) ?_
  refine sv_istore_n (pc := 15) (i := 1) C.1 [some (va_rf (some t)), some (.int 0), none] dX9_leakScan_15 rfl (Nat.le_of_ble_eq_true rfl) (by rw [C.2.1]; exact Nat.le_of_ble_eq_true rfl) rfl rfl ?_
  exact k0

theorem sgX9_leakScan_16 {X : CX} {d mc ms cells slots : Nat} {pp : Int32 → Hp → Prop} {h : Hp} {t : Nat} {x1 : Int32}  (C : CmI X mX9_leakScan d mc ms pp) (h0 : h.K t = 10) (k0 : h.I 912 t ≤ x1 → At X cells slots 120 [some (va_rf (some t)), some (.int 0), none] [] h) (k1 : ¬ h.I 912 t ≤ x1 → At X cells slots 26 [some (va_rf (some t)), some (.int x1), none] [.int x1, va_rf (some t)] h) : At X cells slots 16 [some (va_rf (some t)), some (.int x1), none] [] h := by
  refine st_iload_n (pc := 16) C.1 dX9_leakScan_16 rfl rfl ?_
  refine st_aload_n (pc := 17) C.1 (some t) dX9_leakScan_17 rfl rfl ?_
  refine gI_RX9_88 (pc := 18) C.1 (h.I 912 t) dX9_leakScan_18 h0 rfl ?_
  refine st_icmp_ge (pc := 21) (tgt := 118) C.1 dX9_leakScan_21 (by decide) (fun c0 => ?_) (fun c0 => ?_)
  · refine st_iconst (pc := 118) (v := 0) C.1 dX9_leakScan_118 (by decide) ?_
    refine sv_istore_n (pc := 119) (i := 1) C.1 [some (va_rf (some t)), some (.int 0), none] dX9_leakScan_119 rfl (Nat.le_of_ble_eq_true rfl) (by rw [C.2.1]; exact Nat.le_of_ble_eq_true rfl) rfl rfl ?_
    exact (k0 c0)
  · refine st_aload_n (pc := 24) C.1 (some t) dX9_leakScan_24 rfl rfl ?_
    refine st_iload_n (pc := 25) C.1 dX9_leakScan_25 rfl rfl ?_
    exact (k1 c0)

theorem sgX9_leakScan_29 {X : CX} {d mc ms cells slots : Nat} {pp : Int32 → Hp → Prop} {h : Hp} {t : Nat} {x1 : Int32} {u0 : Int32} {r0 : Nat} (C : CmI X mX9_leakScan d mc ms pp) (h0 : h.K t = 10) (h1 : h.R 926 t = some r0) (h2 : h.K r0 = 12) (h3 : ¬ u0 = 0 → vp_in x1 (h.N r0)) (k0 : u0 = 0 → At X cells slots 16 [some (va_rf (some t)), some (.int (x1 + 1)), none] [] h) (k1 : ¬ u0 = 0 → h.AI r0 (x1.toNatClampNeg) = 0 → At X cells slots 49 [some (va_rf (some t)), some (.int x1), some (.int (h.I 932 t))] [] h) (k2 : ¬ u0 = 0 → ¬ h.AI r0 (x1.toNatClampNeg) = 0 → At X cells slots 16 [some (va_rf (some t)), some (.int (x1 + 1)), none] [] h) : At X cells slots 29 [some (va_rf (some t)), some (.int x1), none] [.int u0] h := by
  refine st_if_eq (pc := 29) (tgt := 112) C.1 dX9_leakScan_29 (by decide) (fun c0 => ?_) (fun c0 => ?_)
  · refine sv_iinc (pc := 112) (i := 1) (v := x1 + 1) C.1 [some (va_rf (some t)), some (.int (x1 + 1)), none] dX9_leakScan_112 rfl rfl (by rw [C.2.1]; exact Nat.le_of_ble_eq_true rfl) rfl rfl ?_
    refine st_goto (pc := 115) (tgt := 16) C.1 dX9_leakScan_115 (by decide) ?_
    exact (k0 c0)
  · refine st_aload_n (pc := 32) C.1 (some t) dX9_leakScan_32 rfl rfl ?_
    refine gR_RX9_53 (pc := 33) C.1 (some r0) dX9_leakScan_33 h0 h1 ?_
    refine st_iload_n (pc := 36) C.1 dX9_leakScan_36 rfl rfl ?_
    refine sv_baload (pc := 37) C.1 (h.AI r0 (x1.toNatClampNeg)) dX9_leakScan_37 h2 (h3 c0) rfl ?_
    refine st_if_eq (pc := 38) (tgt := 44) C.1 dX9_leakScan_38 (by decide) (fun c1 => ?_) (fun c1 => ?_)
    · refine st_aload_n (pc := 44) C.1 (some t) dX9_leakScan_44 rfl rfl ?_
      refine gI_RX9_190 (pc := 45) C.1 (h.I 932 t) dX9_leakScan_45 h0 rfl ?_
      refine sv_istore_n (pc := 48) (i := 2) C.1 [some (va_rf (some t)), some (.int x1), some (.int (h.I 932 t))] dX9_leakScan_48 rfl (Nat.le_of_ble_eq_true rfl) (by rw [C.2.1]; exact Nat.le_of_ble_eq_true rfl) rfl rfl ?_
      exact (k1 c0 c1)
    · refine st_goto (pc := 41) (tgt := 112) C.1 dX9_leakScan_41 (by decide) ?_
      refine sv_iinc (pc := 112) (i := 1) (v := x1 + 1) C.1 [some (va_rf (some t)), some (.int (x1 + 1)), none] dX9_leakScan_112 rfl rfl (by rw [C.2.1]; exact Nat.le_of_ble_eq_true rfl) rfl rfl ?_
      refine st_goto (pc := 115) (tgt := 16) C.1 dX9_leakScan_115 (by decide) ?_
      exact (k2 c0 c1)

theorem sgX9_leakScan_49 {X : CX} {d mc ms cells slots : Nat} {pp : Int32 → Hp → Prop} {h : Hp} {t : Nat} {x1 : Int32} {x2 : Int32} {r0 : Nat} {r1 : Nat} (C : CmI X mX9_leakScan d mc ms pp) (h0 : h.K t = 10) (h1 : h.R 927 t = some r0) (h2 : h.K r0 = 11) (h3 : x2 ≤ 0 → vp_in x2 (h.N r0)) (h4 : h.R 907 t = some r1) (h5 : ¬ x2 ≤ 0 → vp_in (x2 - 1) (h.N r0)) (h6 : h.K r1 = 11) (h7 : ¬ x2 ≤ 0 → vp_in (h.AI r0 ((x2 - 1).toNatClampNeg)) (h.N r1)) (h8 : ¬ x2 ≤ 0 → vp_in x1 (h.N r1)) (h9 : ¬ x2 ≤ 0 → h.AI r1 ((h.AI r0 ((x2 - 1).toNatClampNeg)).toNatClampNeg) ≤ h.AI r1 (x1.toNatClampNeg) → vp_in x2 (h.N r0)) (h10 : ¬ x2 ≤ 0 → ¬ h.AI r1 ((h.AI r0 ((x2 - 1).toNatClampNeg)).toNatClampNeg) ≤ h.AI r1 (x1.toNatClampNeg) → vp_in (x2 - 1) (h.N r0)) (h11 : ¬ x2 ≤ 0 → ¬ h.AI r1 ((h.AI r0 ((x2 - 1).toNatClampNeg)).toNatClampNeg) ≤ h.AI r1 (x1.toNatClampNeg) → vp_in x2 (h.N r0)) (k0 : x2 ≤ 0 → At X cells slots 16 [some (va_rf (some t)), some (.int (x1 + 1)), some (.int x2)] [] ((h.sAI r0 (x2.toNatClampNeg) x1).sI 932 t ((h.I 932 t) + 1))) (k1 : ¬ x2 ≤ 0 → h.AI r1 ((h.AI r0 ((x2 - 1).toNatClampNeg)).toNatClampNeg) ≤ h.AI r1 (x1.toNatClampNeg) → At X cells slots 16 [some (va_rf (some t)), some (.int (x1 + 1)), some (.int x2)] [] ((h.sAI r0 (x2.toNatClampNeg) x1).sI 932 t ((h.I 932 t) + 1))) (k2 : ¬ x2 ≤ 0 → ¬ h.AI r1 ((h.AI r0 ((x2 - 1).toNatClampNeg)).toNatClampNeg) ≤ h.AI r1 (x1.toNatClampNeg) → At X cells slots 49 [some (va_rf (some t)), some (.int x1), some (.int (x2 + (-1)))] [] (h.sAI r0 (x2.toNatClampNeg) (h.AI r0 ((x2 - 1).toNatClampNeg)))) : At X cells slots 49 [some (va_rf (some t)), some (.int x1), some (.int x2)] [] h := by
  refine st_iload_n (pc := 49) C.1 dX9_leakScan_49 rfl rfl ?_
  refine st_if_le (pc := 50) (tgt := 95) C.1 dX9_leakScan_50 (by decide) (fun c0 => ?_) (fun c0 => ?_)
  · refine st_aload_n (pc := 95) C.1 (some t) dX9_leakScan_95 rfl rfl ?_
    refine gR_RX9_57 (pc := 96) C.1 (some r0) dX9_leakScan_96 h0 h1 ?_
    refine st_iload_n (pc := 99) C.1 dX9_leakScan_99 rfl rfl ?_
    refine st_iload_n (pc := 100) C.1 dX9_leakScan_100 rfl rfl ?_
    refine st_iastore (pc := 101) C.1 dX9_leakScan_101 h2 (h3 c0) ?_
    refine st_aload_n (pc := 102) C.1 (some t) dX9_leakScan_102 rfl rfl ?_
    refine st_dup (pc := 103) C.1 dX9_leakScan_103 (rf_cat (some t)) ?_
    refine gI_RX9_190 (pc := 104) C.1 (h.I 932 t) dX9_leakScan_104 h0 rfl ?_
    refine st_iconst (pc := 107) (v := 1) C.1 dX9_leakScan_107 (by decide) ?_
    refine st_iadd (pc := 108) C.1 dX9_leakScan_108 ?_
    refine pI_RX9_190 (pc := 109) C.1 dX9_leakScan_109 h0 ?_
    refine sv_iinc (pc := 112) (i := 1) (v := x1 + 1) C.1 [some (va_rf (some t)), some (.int (x1 + 1)), some (.int x2)] dX9_leakScan_112 rfl rfl (by rw [C.2.1]; exact Nat.le_of_ble_eq_true rfl) rfl rfl ?_
    refine st_goto (pc := 115) (tgt := 16) C.1 dX9_leakScan_115 (by decide) ?_
    exact (k0 c0)
  · refine st_aload_n (pc := 53) C.1 (some t) dX9_leakScan_53 rfl rfl ?_
    refine gR_RX9_20 (pc := 54) C.1 (some r1) dX9_leakScan_54 h0 h4 ?_
    refine st_aload_n (pc := 57) C.1 (some t) dX9_leakScan_57 rfl rfl ?_
    refine gR_RX9_57 (pc := 58) C.1 (some r0) dX9_leakScan_58 h0 h1 ?_
    refine st_iload_n (pc := 61) C.1 dX9_leakScan_61 rfl rfl ?_
    refine st_iconst (pc := 62) (v := 1) C.1 dX9_leakScan_62 (by decide) ?_
    refine st_isub (pc := 63) C.1 dX9_leakScan_63 ?_
    refine sv_iaload (pc := 64) C.1 (h.AI r0 ((x2 - 1).toNatClampNeg)) dX9_leakScan_64 h2 (h5 c0) rfl ?_
    refine sv_iaload (pc := 65) C.1 (h.AI r1 ((h.AI r0 ((x2 - 1).toNatClampNeg)).toNatClampNeg)) dX9_leakScan_65 h6 (h7 c0) rfl ?_
    refine st_aload_n (pc := 66) C.1 (some t) dX9_leakScan_66 rfl rfl ?_
    refine gR_RX9_20 (pc := 67) C.1 (some r1) dX9_leakScan_67 h0 h4 ?_
    refine st_iload_n (pc := 70) C.1 dX9_leakScan_70 rfl rfl ?_
    refine sv_iaload (pc := 71) C.1 (h.AI r1 (x1.toNatClampNeg)) dX9_leakScan_71 h6 (h8 c0) rfl ?_
    refine st_icmp_le (pc := 72) (tgt := 95) C.1 dX9_leakScan_72 (by decide) (fun c1 => ?_) (fun c1 => ?_)
    · refine st_aload_n (pc := 95) C.1 (some t) dX9_leakScan_95 rfl rfl ?_
      refine gR_RX9_57 (pc := 96) C.1 (some r0) dX9_leakScan_96 h0 h1 ?_
      refine st_iload_n (pc := 99) C.1 dX9_leakScan_99 rfl rfl ?_
      refine st_iload_n (pc := 100) C.1 dX9_leakScan_100 rfl rfl ?_
      refine st_iastore (pc := 101) C.1 dX9_leakScan_101 h2 (h9 c0 c1) ?_
      refine st_aload_n (pc := 102) C.1 (some t) dX9_leakScan_102 rfl rfl ?_
      refine st_dup (pc := 103) C.1 dX9_leakScan_103 (rf_cat (some t)) ?_
      refine gI_RX9_190 (pc := 104) C.1 (h.I 932 t) dX9_leakScan_104 h0 rfl ?_
      refine st_iconst (pc := 107) (v := 1) C.1 dX9_leakScan_107 (by decide) ?_
      refine st_iadd (pc := 108) C.1 dX9_leakScan_108 ?_
      refine pI_RX9_190 (pc := 109) C.1 dX9_leakScan_109 h0 ?_
      refine sv_iinc (pc := 112) (i := 1) (v := x1 + 1) C.1 [some (va_rf (some t)), some (.int (x1 + 1)), some (.int x2)] dX9_leakScan_112 rfl rfl (by rw [C.2.1]; exact Nat.le_of_ble_eq_true rfl) rfl rfl ?_
      refine st_goto (pc := 115) (tgt := 16) C.1 dX9_leakScan_115 (by decide) ?_
      exact (k1 c0 c1)
    · refine st_aload_n (pc := 75) C.1 (some t) dX9_leakScan_75 rfl rfl ?_
      refine gR_RX9_57 (pc := 76) C.1 (some r0) dX9_leakScan_76 h0 h1 ?_
      refine st_iload_n (pc := 79) C.1 dX9_leakScan_79 rfl rfl ?_
      refine st_aload_n (pc := 80) C.1 (some t) dX9_leakScan_80 rfl rfl ?_
      refine gR_RX9_57 (pc := 81) C.1 (some r0) dX9_leakScan_81 h0 h1 ?_
      refine st_iload_n (pc := 84) C.1 dX9_leakScan_84 rfl rfl ?_
      refine st_iconst (pc := 85) (v := 1) C.1 dX9_leakScan_85 (by decide) ?_
      refine st_isub (pc := 86) C.1 dX9_leakScan_86 ?_
      refine sv_iaload (pc := 87) C.1 (h.AI r0 ((x2 - 1).toNatClampNeg)) dX9_leakScan_87 h2 (h10 c0 c1) rfl ?_
      refine st_iastore (pc := 88) C.1 dX9_leakScan_88 h2 (h11 c0 c1) ?_
      refine sv_iinc (pc := 89) (i := 2) (v := x2 + (-1)) C.1 [some (va_rf (some t)), some (.int x1), some (.int (x2 + (-1)))] dX9_leakScan_89 rfl rfl (by rw [C.2.1]; exact Nat.le_of_ble_eq_true rfl) rfl rfl ?_
      refine st_goto (pc := 92) (tgt := 49) C.1 dX9_leakScan_92 (by decide) ?_
      exact (k2 c0 c1)

theorem sgX9_leakScan_120 {X : CX} {d mc ms cells slots : Nat} {pp : Int32 → Hp → Prop} {h : Hp} {t : Nat} {x1 : Int32} {r0 : Nat} (C : CmI X mX9_leakScan d mc ms pp) (hc : cells ≤ mc) (hs : slots ≤ ms) (h0 : h.K t = 10) (h1 : h.R 927 t = some r0) (h2 : h.K r0 = 11) (h3 : ¬ h.I 932 t ≤ x1 → vp_in x1 (h.N r0)) (k0 : h.I 932 t ≤ x1 → pp (h.I 932 t) h) (k1 : ¬ h.I 932 t ≤ x1 → At X cells slots 140 [some (va_rf (some t)), some (.int x1), none] [.int (h.AI r0 (x1.toNatClampNeg)), va_rf (some t), .int x1, va_rf (h.R 928 t)] h) : At X cells slots 120 [some (va_rf (some t)), some (.int x1), none] [] h := by
  refine st_iload_n (pc := 120) C.1 dX9_leakScan_120 rfl rfl ?_
  refine st_aload_n (pc := 121) C.1 (some t) dX9_leakScan_121 rfl rfl ?_
  refine gI_RX9_190 (pc := 122) C.1 (h.I 932 t) dX9_leakScan_122 h0 rfl ?_
  refine st_icmp_ge (pc := 125) (tgt := 200) C.1 dX9_leakScan_125 (by decide) (fun c0 => ?_) (fun c0 => ?_)
  · refine st_aload_n (pc := 200) C.1 (some t) dX9_leakScan_200 rfl rfl ?_
    refine gI_RX9_190 (pc := 201) C.1 (h.I 932 t) dX9_leakScan_201 h0 rfl ?_
    exact rt_i C (Or.inl rfl) dX9_leakScan_204 hc hs ⟨_, rfl, (k0 c0)⟩
  · refine st_aload_n (pc := 128) C.1 (some t) dX9_leakScan_128 rfl rfl ?_
    refine gR_RX9_60 (pc := 129) C.1 (h.R 928 t) dX9_leakScan_129 h0 rfl ?_
    refine st_iload_n (pc := 132) C.1 dX9_leakScan_132 rfl rfl ?_
    refine st_aload_n (pc := 133) C.1 (some t) dX9_leakScan_133 rfl rfl ?_
    refine st_aload_n (pc := 134) C.1 (some t) dX9_leakScan_134 rfl rfl ?_
    refine gR_RX9_57 (pc := 135) C.1 (some r0) dX9_leakScan_135 h0 h1 ?_
    refine st_iload_n (pc := 138) C.1 dX9_leakScan_138 rfl rfl ?_
    refine sv_iaload (pc := 139) C.1 (h.AI r0 (x1.toNatClampNeg)) dX9_leakScan_139 h2 (h3 c0) rfl ?_
    exact (k1 c0)

theorem sgX9_leakScan_143 {X : CX} {d mc ms cells slots : Nat} {pp : Int32 → Hp → Prop} {h : Hp} {t : Nat} {x1 : Int32} {u0 : Int32} {u1 : Int32} {q2 : Nat} {r2 : Nat} {r1 : Nat} {r0 : Nat} {r4 : Nat} {r3 : Nat} (C : CmI X mX9_leakScan d mc ms pp) (h0 : h.K q2 = 11) (h1 : vp_in u1 (h.N q2)) (h2 : h.K t = 10) (h3 : h.R 929 t = some r2) (h4 : h.R 909 t = some r1) (h5 : h.R 927 t = some r0) (h6 : h.K r0 = 11) (h7 : vp_in x1 (h.N r0)) (h8 : h.K r1 = 11) (h9 : vp_in ((h.sAI q2 (u1.toNatClampNeg) u0).AI r0 (x1.toNatClampNeg)) (h.N r1)) (h10 : h.K r2 = 11) (h11 : vp_in x1 (h.N r2)) (h12 : h.R 930 t = some r4) (h13 : h.R 910 t = some r3) (h14 : h.K r3 = 11) (h15 : vp_in (((h.sAI q2 (u1.toNatClampNeg) u0).sAI r2 (x1.toNatClampNeg) ((h.sAI q2 (u1.toNatClampNeg) u0).AI r1 (((h.sAI q2 (u1.toNatClampNeg) u0).AI r0 (x1.toNatClampNeg)).toNatClampNeg))).AI r0 (x1.toNatClampNeg)) (h.N r3)) (h16 : h.K r4 = 11) (h17 : vp_in x1 (h.N r4)) (k0 : At X cells slots 190 [some (va_rf (some t)), some (.int x1), none] [.int ((((h.sAI q2 (u1.toNatClampNeg) u0).sAI r2 (x1.toNatClampNeg) ((h.sAI q2 (u1.toNatClampNeg) u0).AI r1 (((h.sAI q2 (u1.toNatClampNeg) u0).AI r0 (x1.toNatClampNeg)).toNatClampNeg))).sAI r4 (x1.toNatClampNeg) (((h.sAI q2 (u1.toNatClampNeg) u0).sAI r2 (x1.toNatClampNeg) ((h.sAI q2 (u1.toNatClampNeg) u0).AI r1 (((h.sAI q2 (u1.toNatClampNeg) u0).AI r0 (x1.toNatClampNeg)).toNatClampNeg))).AI r3 ((((h.sAI q2 (u1.toNatClampNeg) u0).sAI r2 (x1.toNatClampNeg) ((h.sAI q2 (u1.toNatClampNeg) u0).AI r1 (((h.sAI q2 (u1.toNatClampNeg) u0).AI r0 (x1.toNatClampNeg)).toNatClampNeg))).AI r0 (x1.toNatClampNeg)).toNatClampNeg))).AI r0 (x1.toNatClampNeg)), va_rf (some t), .int x1, va_rf (h.R 931 t)] (((h.sAI q2 (u1.toNatClampNeg) u0).sAI r2 (x1.toNatClampNeg) ((h.sAI q2 (u1.toNatClampNeg) u0).AI r1 (((h.sAI q2 (u1.toNatClampNeg) u0).AI r0 (x1.toNatClampNeg)).toNatClampNeg))).sAI r4 (x1.toNatClampNeg) (((h.sAI q2 (u1.toNatClampNeg) u0).sAI r2 (x1.toNatClampNeg) ((h.sAI q2 (u1.toNatClampNeg) u0).AI r1 (((h.sAI q2 (u1.toNatClampNeg) u0).AI r0 (x1.toNatClampNeg)).toNatClampNeg))).AI r3 ((((h.sAI q2 (u1.toNatClampNeg) u0).sAI r2 (x1.toNatClampNeg) ((h.sAI q2 (u1.toNatClampNeg) u0).AI r1 (((h.sAI q2 (u1.toNatClampNeg) u0).AI r0 (x1.toNatClampNeg)).toNatClampNeg))).AI r0 (x1.toNatClampNeg)).toNatClampNeg)))) : At X cells slots 143 [some (va_rf (some t)), some (.int x1), none] [.int u0, .int u1, va_rf (some q2)] h := by
  refine st_iastore (pc := 143) C.1 dX9_leakScan_143 h0 h1 ?_
  refine st_aload_n (pc := 144) C.1 (some t) dX9_leakScan_144 rfl rfl ?_
  refine gR_RX9_63 (pc := 145) C.1 (some r2) dX9_leakScan_145 h2 h3 ?_
  refine st_iload_n (pc := 148) C.1 dX9_leakScan_148 rfl rfl ?_
  refine st_aload_n (pc := 149) C.1 (some t) dX9_leakScan_149 rfl rfl ?_
  refine gR_RX9_26 (pc := 150) C.1 (some r1) dX9_leakScan_150 h2 h4 ?_
  refine st_aload_n (pc := 153) C.1 (some t) dX9_leakScan_153 rfl rfl ?_
  refine gR_RX9_57 (pc := 154) C.1 (some r0) dX9_leakScan_154 h2 h5 ?_
  refine st_iload_n (pc := 157) C.1 dX9_leakScan_157 rfl rfl ?_
  refine sv_iaload (pc := 158) C.1 ((h.sAI q2 (u1.toNatClampNeg) u0).AI r0 (x1.toNatClampNeg)) dX9_leakScan_158 h6 h7 rfl ?_
  refine sv_iaload (pc := 159) C.1 ((h.sAI q2 (u1.toNatClampNeg) u0).AI r1 (((h.sAI q2 (u1.toNatClampNeg) u0).AI r0 (x1.toNatClampNeg)).toNatClampNeg)) dX9_leakScan_159 h8 h9 rfl ?_
  refine st_iastore (pc := 160) C.1 dX9_leakScan_160 h10 h11 ?_
  refine st_aload_n (pc := 161) C.1 (some t) dX9_leakScan_161 rfl rfl ?_
  refine gR_RX9_66 (pc := 162) C.1 (some r4) dX9_leakScan_162 h2 h12 ?_
  refine st_iload_n (pc := 165) C.1 dX9_leakScan_165 rfl rfl ?_
  refine st_aload_n (pc := 166) C.1 (some t) dX9_leakScan_166 rfl rfl ?_
  refine gR_RX9_29 (pc := 167) C.1 (some r3) dX9_leakScan_167 h2 h13 ?_
  refine st_aload_n (pc := 170) C.1 (some t) dX9_leakScan_170 rfl rfl ?_
  refine gR_RX9_57 (pc := 171) C.1 (some r0) dX9_leakScan_171 h2 h5 ?_
  refine st_iload_n (pc := 174) C.1 dX9_leakScan_174 rfl rfl ?_
  refine sv_iaload (pc := 175) C.1 (((h.sAI q2 (u1.toNatClampNeg) u0).sAI r2 (x1.toNatClampNeg) ((h.sAI q2 (u1.toNatClampNeg) u0).AI r1 (((h.sAI q2 (u1.toNatClampNeg) u0).AI r0 (x1.toNatClampNeg)).toNatClampNeg))).AI r0 (x1.toNatClampNeg)) dX9_leakScan_175 h6 h7 rfl ?_
  refine sv_iaload (pc := 176) C.1 (((h.sAI q2 (u1.toNatClampNeg) u0).sAI r2 (x1.toNatClampNeg) ((h.sAI q2 (u1.toNatClampNeg) u0).AI r1 (((h.sAI q2 (u1.toNatClampNeg) u0).AI r0 (x1.toNatClampNeg)).toNatClampNeg))).AI r3 ((((h.sAI q2 (u1.toNatClampNeg) u0).sAI r2 (x1.toNatClampNeg) ((h.sAI q2 (u1.toNatClampNeg) u0).AI r1 (((h.sAI q2 (u1.toNatClampNeg) u0).AI r0 (x1.toNatClampNeg)).toNatClampNeg))).AI r0 (x1.toNatClampNeg)).toNatClampNeg)) dX9_leakScan_176 h14 h15 rfl ?_
  refine st_iastore (pc := 177) C.1 dX9_leakScan_177 h16 h17 ?_
  refine st_aload_n (pc := 178) C.1 (some t) dX9_leakScan_178 rfl rfl ?_
  refine gR_RX9_69 (pc := 179) C.1 (h.R 931 t) dX9_leakScan_179 h2 rfl ?_
  refine st_iload_n (pc := 182) C.1 dX9_leakScan_182 rfl rfl ?_
  refine st_aload_n (pc := 183) C.1 (some t) dX9_leakScan_183 rfl rfl ?_
  refine st_aload_n (pc := 184) C.1 (some t) dX9_leakScan_184 rfl rfl ?_
  refine gR_RX9_57 (pc := 185) C.1 (some r0) dX9_leakScan_185 h2 h5 ?_
  refine st_iload_n (pc := 188) C.1 dX9_leakScan_188 rfl rfl ?_
  refine sv_iaload (pc := 189) C.1 ((((h.sAI q2 (u1.toNatClampNeg) u0).sAI r2 (x1.toNatClampNeg) ((h.sAI q2 (u1.toNatClampNeg) u0).AI r1 (((h.sAI q2 (u1.toNatClampNeg) u0).AI r0 (x1.toNatClampNeg)).toNatClampNeg))).sAI r4 (x1.toNatClampNeg) (((h.sAI q2 (u1.toNatClampNeg) u0).sAI r2 (x1.toNatClampNeg) ((h.sAI q2 (u1.toNatClampNeg) u0).AI r1 (((h.sAI q2 (u1.toNatClampNeg) u0).AI r0 (x1.toNatClampNeg)).toNatClampNeg))).AI r3 ((((h.sAI q2 (u1.toNatClampNeg) u0).sAI r2 (x1.toNatClampNeg) ((h.sAI q2 (u1.toNatClampNeg) u0).AI r1 (((h.sAI q2 (u1.toNatClampNeg) u0).AI r0 (x1.toNatClampNeg)).toNatClampNeg))).AI r0 (x1.toNatClampNeg)).toNatClampNeg))).AI r0 (x1.toNatClampNeg)) dX9_leakScan_189 h6 h7 rfl ?_
  exact k0

theorem sgX9_leakScan_193 {X : CX} {d mc ms cells slots : Nat} {pp : Int32 → Hp → Prop} {h : Hp} {t : Nat} {x1 : Int32} {u0 : Int32} {u1 : Int32} {q2 : Nat}  (C : CmI X mX9_leakScan d mc ms pp) (h0 : h.K q2 = 12) (h1 : vp_in u1 (h.N q2)) (h2 : u0 = 0 ∨ u0 = 1) (k0 : At X cells slots 120 [some (va_rf (some t)), some (.int (x1 + 1)), none] [] (h.sAI q2 (u1.toNatClampNeg) u0)) : At X cells slots 193 [some (va_rf (some t)), some (.int x1), none] [.int u0, .int u1, va_rf (some q2)] h := by
  refine st_bastore (pc := 193) C.1 dX9_leakScan_193 h0 h1 h2 ?_
  refine sv_iinc (pc := 194) (i := 1) (v := x1 + 1) C.1 [some (va_rf (some t)), some (.int (x1 + 1)), none] dX9_leakScan_194 rfl rfl (by rw [C.2.1]; exact Nat.le_of_ble_eq_true rfl) rfl rfl ?_
  refine st_goto (pc := 197) (tgt := 120) C.1 dX9_leakScan_197 (by decide) ?_
  exact k0

theorem clX9_leakScan_6 {X : CX} {d0 mc0 ms0 d mc ms cells slots : Nat} {pp : Int32 → Hp → Prop} {h : Hp} {ls : List (Option Value)} {rest : List Value} {b : Nat} {post : Hp → Prop} (C : CmI X mX9_leakScan d0 mc0 ms0 pp) (hct : CtV mX9_reaches d mc ms [va_rf (some b)] h post) (hK : h.K b = 10) (hdd : d < d0) (hmc : cells + mc ≤ mc0) (hms : slots + ms ≤ ms0) (hcat : (rest.map fun v => v.category).sum ≤ 8) (kk : ∀ h', post h' → At X (cells + mc) (slots + ms) 9 ls rest h') : At X cells slots 6 ls (va_rf (some b) :: rest) h :=
  st_callV (pc := 6) (M := mX9_reaches) (idx := 193) (As := []) C.1 C.2.2.1 C.2.2.2.2.2.2 ⟨wM_RX9_193, wC_X9_reaches, wI_RX9, by decide +kernel, by decide⟩ wV_X9_reaches wS_X9_reaches (ci := 9) (n := 0) rfl rfl (by decide) dX9_leakScan_6 rfl hdd hcat hK hct hmc hms (fun v h2 hp => by obtain ⟨rfl, hp⟩ := hp; exact kk h2 hp)
theorem clX9_leakScan_26 {X : CX} {d0 mc0 ms0 d mc ms cells slots : Nat} {pp : Int32 → Hp → Prop} {h : Hp} {ls : List (Option Value)} {rest : List Value} {b : Nat} {a0 : Value} {post : Int32 → Hp → Prop} (C : CmI X mX9_leakScan d0 mc0 ms0 pp) (hct : CtI mX9_isLive d mc ms [va_rf (some b), a0] h post) (hK : h.K b = 10) (hdd : d < d0) (hmc : cells + mc ≤ mc0) (hms : slots + ms ≤ ms0) (hcat : (rest.map fun v => v.category).sum ≤ 8) (kk : ∀ r h', post r h' → At X (cells + mc) (slots + ms) 29 ls (.int r :: rest) h') : At X cells slots 26 ls (a0 :: va_rf (some b) :: rest) h :=
  st_callV (pc := 26) (M := mX9_isLive) (idx := 98) (As := [a0]) C.1 C.2.2.1 C.2.2.2.2.2.2 ⟨wM_RX9_98, wC_X9_isLive, wI_RX9, by decide +kernel, by decide⟩ wV_X9_isLive wS_X9_isLive (ci := 9) (n := 1) rfl rfl (by decide) dX9_leakScan_26 rfl hdd hcat hK hct hmc hms (fun v h2 hp => by obtain ⟨r, rfl, hp⟩ := hp; exact kk r h2 hp)
theorem clX9_leakScan_140 {X : CX} {d0 mc0 ms0 d mc ms cells slots : Nat} {pp : Int32 → Hp → Prop} {h : Hp} {ls : List (Option Value)} {rest : List Value} {b : Nat} {a0 : Value} {post : Int32 → Hp → Prop} (C : CmI X mX9_leakScan d0 mc0 ms0 pp) (hct : CtI mX9_start d mc ms [va_rf (some b), a0] h post) (hK : h.K b = 10) (hdd : d < d0) (hmc : cells + mc ≤ mc0) (hms : slots + ms ≤ ms0) (hcat : (rest.map fun v => v.category).sum ≤ 8) (kk : ∀ r h', post r h' → At X (cells + mc) (slots + ms) 143 ls (.int r :: rest) h') : At X cells slots 140 ls (a0 :: va_rf (some b) :: rest) h :=
  st_callV (pc := 140) (M := mX9_start) (idx := 91) (As := [a0]) C.1 C.2.2.1 C.2.2.2.2.2.2 ⟨wM_RX9_91, wC_X9_start, wI_RX9, by decide +kernel, by decide⟩ wV_X9_start wS_X9_start (ci := 9) (n := 1) rfl rfl (by decide) dX9_leakScan_140 rfl hdd hcat hK hct hmc hms (fun v h2 hp => by obtain ⟨r, rfl, hp⟩ := hp; exact kk r h2 hp)
theorem clX9_leakScan_190 {X : CX} {d0 mc0 ms0 d mc ms cells slots : Nat} {pp : Int32 → Hp → Prop} {h : Hp} {ls : List (Option Value)} {rest : List Value} {b : Nat} {a0 : Value} {post : Int32 → Hp → Prop} (C : CmI X mX9_leakScan d0 mc0 ms0 pp) (hct : CtI mX9_isHead d mc ms [va_rf (some b), a0] h post) (hK : h.K b = 10) (hdd : d < d0) (hmc : cells + mc ≤ mc0) (hms : slots + ms ≤ ms0) (hcat : (rest.map fun v => v.category).sum ≤ 8) (kk : ∀ r h', post r h' → At X (cells + mc) (slots + ms) 193 ls (.int r :: rest) h') : At X cells slots 190 ls (a0 :: va_rf (some b) :: rest) h :=
  st_callV (pc := 190) (M := mX9_isHead) (idx := 196) (As := [a0]) C.1 C.2.2.1 C.2.2.2.2.2.2 ⟨wM_RX9_196, wC_X9_isHead, wI_RX9, by decide +kernel, by decide⟩ wV_X9_isHead wS_X9_isHead (ci := 9) (n := 1) rfl rfl (by decide) dX9_leakScan_190 rfl hdd hcat hK hct hmc hms (fun v h2 hp => by obtain ⟨r, rfl, hp⟩ := hp; exact kk r h2 hp)
theorem sgX9_leak_0 {X : CX} {d mc ms cells slots : Nat} {pp : Int32 → Hp → Prop} {h : Hp} {t : Nat} {x1 : Int32} {x2 : Int32} {r0 : Nat} {r1 : Nat} {r2 : Nat} {r3 : Nat} (C : CmI X mX9_leak d mc ms pp) (hc : cells ≤ mc) (hs : slots ≤ ms) (h0 : h.K t = 10) (h1 : h.R 928 t = some r0) (h2 : h.K r0 = 11) (h3 : ¬ x1 < 0 → x1 < h.I 932 t → x2 = 0 → vp_in x1 (h.N r0)) (h4 : h.R 929 t = some r1) (h5 : h.K r1 = 11) (h6 : ¬ x1 < 0 → x1 < h.I 932 t → x2 = 1 → vp_in x1 (h.N r1)) (h7 : h.R 930 t = some r2) (h8 : h.K r2 = 11) (h9 : ¬ x1 < 0 → x1 < h.I 932 t → x2 = 2 → vp_in x1 (h.N r2)) (h10 : h.R 931 t = some r3) (h11 : h.K r3 = 12) (h12 : ¬ x1 < 0 → x1 < h.I 932 t → x2 = 3 → vp_in x1 (h.N r3)) (k0 : x1 < 0 → pp (-1) (h.sI 903 t 0)) (k1 : ¬ x1 < 0 → x1 < h.I 932 t → x2.toInt < 0 ∨ 3 < x2.toInt → pp (-1) (h.sI 903 t 0)) (k2 : ¬ x1 < 0 → x1 < h.I 932 t → x2 = 0 → pp (h.AI r0 (x1.toNatClampNeg)) (h.sI 903 t 0)) (k3 : ¬ x1 < 0 → x1 < h.I 932 t → x2 = 1 → pp (h.AI r1 (x1.toNatClampNeg)) (h.sI 903 t 0)) (k4 : ¬ x1 < 0 → x1 < h.I 932 t → x2 = 2 → pp (h.AI r2 (x1.toNatClampNeg)) (h.sI 903 t 0)) (k5 : ¬ x1 < 0 → x1 < h.I 932 t → x2 = 3 → h.AI r3 (x1.toNatClampNeg) = 0 → pp 0 (h.sI 903 t 0)) (k6 : ¬ x1 < 0 → x1 < h.I 932 t → x2 = 3 → ¬ h.AI r3 (x1.toNatClampNeg) = 0 → pp 1 (h.sI 903 t 0)) (k7 : ¬ x1 < 0 → ¬ x1 < h.I 932 t → pp (-1) (h.sI 903 t 0)) : At X cells slots 0 [some (va_rf (some t)), some (.int x1), some (.int x2)] [] h := by
  refine st_aload_n (pc := 0) C.1 (some t) dX9_leak_0 rfl rfl ?_
  refine st_iconst (pc := 1) (v := 0) C.1 dX9_leak_1 (by decide) ?_
  refine pI_RX9_85 (pc := 2) C.1 dX9_leak_2 h0 ?_
  refine st_iload_n (pc := 5) C.1 dX9_leak_5 rfl rfl ?_
  refine st_if_lt (pc := 6) (tgt := 17) C.1 dX9_leak_6 (by decide) (fun c0 => ?_) (fun c0 => ?_)
  · refine st_iconst (pc := 17) (v := (-1)) C.1 dX9_leak_17 (by decide) ?_
    exact rt_i C (Or.inl rfl) dX9_leak_18 hc hs ⟨_, rfl, (k0 c0)⟩
  · refine st_iload_n (pc := 9) C.1 dX9_leak_9 rfl rfl ?_
    refine st_aload_n (pc := 10) C.1 (some t) dX9_leak_10 rfl rfl ?_
    refine gI_RX9_190 (pc := 11) C.1 (h.I 932 t) dX9_leak_11 h0 rfl ?_
    refine st_icmp_lt (pc := 14) (tgt := 19) C.1 dX9_leak_14 (by decide) (fun c1 => ?_) (fun c1 => ?_)
    · refine st_iload_n (pc := 19) C.1 dX9_leak_19 rfl rfl ?_
      by_cases c2o : x2.toInt < 0 ∨ 3 < x2.toInt
      · refine st_tableOut (pc := 20) (tgt := 88) C.1 dX9_leak_20 c2o (by decide) ?_
        refine st_iconst (pc := 88) (v := (-1)) C.1 dX9_leak_88 (by decide) ?_
        exact rt_i C (Or.inl rfl) dX9_leak_89 hc hs ⟨_, rfl, (k1 c0 c1 c2o)⟩
      · rcases (show x2.toInt = 0 ∨ x2.toInt = 1 ∨ x2.toInt = 2 ∨ x2.toInt = 3 by omega) with c2 | c2 | c2 | c2
        · have c2e : x2 = 0 := Int32.toInt_inj.mp (by rw [c2]; rfl)
          refine st_tableIn (pc := 20) (off := 32) (tgt := 52) C.1 dX9_leak_20 (by omega) (by omega) (by rw [c2]; rfl) (by decide) ?_
          refine st_aload_n (pc := 52) C.1 (some t) dX9_leak_52 rfl rfl ?_
          refine gR_RX9_60 (pc := 53) C.1 (some r0) dX9_leak_53 h0 h1 ?_
          refine st_iload_n (pc := 56) C.1 dX9_leak_56 rfl rfl ?_
          refine sv_iaload (pc := 57) C.1 (h.AI r0 (x1.toNatClampNeg)) dX9_leak_57 h2 (h3 c0 c1 c2e) rfl ?_
          exact rt_i C (Or.inl rfl) dX9_leak_58 hc hs ⟨_, rfl, (k2 c0 c1 c2e)⟩
        · have c2e : x2 = 1 := Int32.toInt_inj.mp (by rw [c2]; rfl)
          refine st_tableIn (pc := 20) (off := 39) (tgt := 59) C.1 dX9_leak_20 (by omega) (by omega) (by rw [c2]; rfl) (by decide) ?_
          refine st_aload_n (pc := 59) C.1 (some t) dX9_leak_59 rfl rfl ?_
          refine gR_RX9_63 (pc := 60) C.1 (some r1) dX9_leak_60 h0 h4 ?_
          refine st_iload_n (pc := 63) C.1 dX9_leak_63 rfl rfl ?_
          refine sv_iaload (pc := 64) C.1 (h.AI r1 (x1.toNatClampNeg)) dX9_leak_64 h5 (h6 c0 c1 c2e) rfl ?_
          exact rt_i C (Or.inl rfl) dX9_leak_65 hc hs ⟨_, rfl, (k3 c0 c1 c2e)⟩
        · have c2e : x2 = 2 := Int32.toInt_inj.mp (by rw [c2]; rfl)
          refine st_tableIn (pc := 20) (off := 46) (tgt := 66) C.1 dX9_leak_20 (by omega) (by omega) (by rw [c2]; rfl) (by decide) ?_
          refine st_aload_n (pc := 66) C.1 (some t) dX9_leak_66 rfl rfl ?_
          refine gR_RX9_66 (pc := 67) C.1 (some r2) dX9_leak_67 h0 h7 ?_
          refine st_iload_n (pc := 70) C.1 dX9_leak_70 rfl rfl ?_
          refine sv_iaload (pc := 71) C.1 (h.AI r2 (x1.toNatClampNeg)) dX9_leak_71 h8 (h9 c0 c1 c2e) rfl ?_
          exact rt_i C (Or.inl rfl) dX9_leak_72 hc hs ⟨_, rfl, (k4 c0 c1 c2e)⟩
        · have c2e : x2 = 3 := Int32.toInt_inj.mp (by rw [c2]; rfl)
          refine st_tableIn (pc := 20) (off := 53) (tgt := 73) C.1 dX9_leak_20 (by omega) (by omega) (by rw [c2]; rfl) (by decide) ?_
          refine st_aload_n (pc := 73) C.1 (some t) dX9_leak_73 rfl rfl ?_
          refine gR_RX9_69 (pc := 74) C.1 (some r3) dX9_leak_74 h0 h10 ?_
          refine st_iload_n (pc := 77) C.1 dX9_leak_77 rfl rfl ?_
          refine sv_baload (pc := 78) C.1 (h.AI r3 (x1.toNatClampNeg)) dX9_leak_78 h11 (h12 c0 c1 c2e) rfl ?_
          refine st_if_eq (pc := 79) (tgt := 86) C.1 dX9_leak_79 (by decide) (fun c3 => ?_) (fun c3 => ?_)
          · refine st_iconst (pc := 86) (v := 0) C.1 dX9_leak_86 (by decide) ?_
            exact rt_i C (Or.inl rfl) dX9_leak_87 hc hs ⟨_, rfl, (k5 c0 c1 c2e c3)⟩
          · refine st_iconst (pc := 82) (v := 1) C.1 dX9_leak_82 (by decide) ?_
            refine st_goto (pc := 83) (tgt := 87) C.1 dX9_leak_83 (by decide) ?_
            exact rt_i C (Or.inl rfl) dX9_leak_87 hc hs ⟨_, rfl, (k6 c0 c1 c2e c3)⟩
    · refine st_iconst (pc := 17) (v := (-1)) C.1 dX9_leak_17 (by decide) ?_
      exact rt_i C (Or.inl rfl) dX9_leak_18 hc hs ⟨_, rfl, (k7 c0 c1)⟩

theorem sgX9_pointers_0 {X : CX} {d mc ms cells slots : Nat} {pp : Int32 → Hp → Prop} {h : Hp} {t : Nat}  (C : CmI X mX9_pointers d mc ms pp) (h0 : h.K t = 10) (k0 : At X cells slots 9 [some (va_rf (some t)), some (.int 0), some (.int 0), none] [] (h.sI 903 t 0)) : At X cells slots 0 [some (va_rf (some t)), none, none, none] [] h := by
  refine st_aload_n (pc := 0) C.1 (some t) dX9_pointers_0 rfl rfl ?_
  refine st_iconst (pc := 1) (v := 0) C.1 dX9_pointers_1 (by decide) ?_
  refine pI_RX9_85 (pc := 2) C.1 dX9_pointers_2 h0 ?_
  refine st_iconst (pc := 5) (v := 0) C.1 dX9_pointers_5 (by decide) ?_
  refine sv_istore_n (pc := 6) (i := 1) C.1 [some (va_rf (some t)), some (.int 0), none, none] dX9_pointers_6 rfl (Nat.le_of_ble_eq_true rfl) (by rw [C.2.1]; exact Nat.le_of_ble_eq_true rfl) rfl rfl ?_
  refine st_iconst (pc := 7) (v := 0) C.1 dX9_pointers_7 (by decide) ?_
  refine sv_istore_n (pc := 8) (i := 2) C.1 [some (va_rf (some t)), some (.int 0), some (.int 0), none] dX9_pointers_8 rfl (Nat.le_of_ble_eq_true rfl) (by rw [C.2.1]; exact Nat.le_of_ble_eq_true rfl) rfl rfl ?_
  exact k0

theorem sgX9_pointers_9 {X : CX} {d mc ms cells slots : Nat} {pp : Int32 → Hp → Prop} {h : Hp} {t : Nat} {x1 : Int32} {x2 : Int32} {r0 : Nat} (C : CmI X mX9_pointers d mc ms pp) (h0 : h.K t = 10) (h1 : h.R 922 t = some r0) (h2 : h.K r0 = 11) (h3 : ¬ 16 ≤ x2 → vp_in x2 (h.N r0)) (k0 : 16 ≤ x2 → At X cells slots 45 [some (va_rf (some t)), some (.int x1), some (.int 0), none] [] h) (k1 : ¬ 16 ≤ x2 → At X cells slots 23 [some (va_rf (some t)), some (.int x1), some (.int x2), none] [.int (h.AI r0 (x2.toNatClampNeg)), va_rf (some t), .int x1] h) : At X cells slots 9 [some (va_rf (some t)), some (.int x1), some (.int x2), none] [] h := by
  refine st_iload_n (pc := 9) C.1 dX9_pointers_9 rfl rfl ?_
  refine st_bipush (pc := 10) (v := 16) C.1 dX9_pointers_10 (by decide) ?_
  refine st_icmp_ge (pc := 12) (tgt := 43) C.1 dX9_pointers_12 (by decide) (fun c0 => ?_) (fun c0 => ?_)
  · refine st_iconst (pc := 43) (v := 0) C.1 dX9_pointers_43 (by decide) ?_
    refine sv_istore_n (pc := 44) (i := 2) C.1 [some (va_rf (some t)), some (.int x1), some (.int 0), none] dX9_pointers_44 rfl (Nat.le_of_ble_eq_true rfl) (by rw [C.2.1]; exact Nat.le_of_ble_eq_true rfl) rfl rfl ?_
    exact (k0 c0)
  · refine st_iload_n (pc := 15) C.1 dX9_pointers_15 rfl rfl ?_
    refine st_aload_n (pc := 16) C.1 (some t) dX9_pointers_16 rfl rfl ?_
    refine st_aload_n (pc := 17) C.1 (some t) dX9_pointers_17 rfl rfl ?_
    refine gR_RX9_41 (pc := 18) C.1 (some r0) dX9_pointers_18 h0 h1 ?_
    refine st_iload_n (pc := 21) C.1 dX9_pointers_21 rfl rfl ?_
    refine sv_iaload (pc := 22) C.1 (h.AI r0 (x2.toNatClampNeg)) dX9_pointers_22 h2 (h3 c0) rfl ?_
    exact (k1 c0)

theorem sgX9_pointers_26 {X : CX} {d mc ms cells slots : Nat} {pp : Int32 → Hp → Prop} {h : Hp} {t : Nat} {x1 : Int32} {x2 : Int32} {u0 : Int32} {u1 : Int32}  (C : CmI X mX9_pointers d mc ms pp)  (k0 : u0 = (-1) → At X cells slots 9 [some (va_rf (some t)), some (.int (u1 + 0)), some (.int (x2 + 1)), none] [] h) (k1 : ¬ u0 = (-1) → At X cells slots 9 [some (va_rf (some t)), some (.int (u1 + 1)), some (.int (x2 + 1)), none] [] h) : At X cells slots 26 [some (va_rf (some t)), some (.int x1), some (.int x2), none] [.int u0, .int u1] h := by
  refine st_iconst (pc := 26) (v := (-1)) C.1 dX9_pointers_26 (by decide) ?_
  refine st_icmp_eq (pc := 27) (tgt := 34) C.1 dX9_pointers_27 (by decide) (fun c0 => ?_) (fun c0 => ?_)
  · refine st_iconst (pc := 34) (v := 0) C.1 dX9_pointers_34 (by decide) ?_
    refine st_iadd (pc := 35) C.1 dX9_pointers_35 ?_
    refine sv_istore_n (pc := 36) (i := 1) C.1 [some (va_rf (some t)), some (.int (u1 + 0)), some (.int x2), none] dX9_pointers_36 rfl (Nat.le_of_ble_eq_true rfl) (by rw [C.2.1]; exact Nat.le_of_ble_eq_true rfl) rfl rfl ?_
    refine sv_iinc (pc := 37) (i := 2) (v := x2 + 1) C.1 [some (va_rf (some t)), some (.int (u1 + 0)), some (.int (x2 + 1)), none] dX9_pointers_37 rfl rfl (by rw [C.2.1]; exact Nat.le_of_ble_eq_true rfl) rfl rfl ?_
    refine st_goto (pc := 40) (tgt := 9) C.1 dX9_pointers_40 (by decide) ?_
    exact (k0 c0)
  · refine st_iconst (pc := 30) (v := 1) C.1 dX9_pointers_30 (by decide) ?_
    refine st_goto (pc := 31) (tgt := 35) C.1 dX9_pointers_31 (by decide) ?_
    refine st_iadd (pc := 35) C.1 dX9_pointers_35 ?_
    refine sv_istore_n (pc := 36) (i := 1) C.1 [some (va_rf (some t)), some (.int (u1 + 1)), some (.int x2), none] dX9_pointers_36 rfl (Nat.le_of_ble_eq_true rfl) (by rw [C.2.1]; exact Nat.le_of_ble_eq_true rfl) rfl rfl ?_
    refine sv_iinc (pc := 37) (i := 2) (v := x2 + 1) C.1 [some (va_rf (some t)), some (.int (u1 + 1)), some (.int (x2 + 1)), none] dX9_pointers_37 rfl rfl (by rw [C.2.1]; exact Nat.le_of_ble_eq_true rfl) rfl rfl ?_
    refine st_goto (pc := 40) (tgt := 9) C.1 dX9_pointers_40 (by decide) ?_
    exact (k1 c0)

theorem sgX9_pointers_45 {X : CX} {d mc ms cells slots : Nat} {pp : Int32 → Hp → Prop} {h : Hp} {t : Nat} {x1 : Int32} {x2 : Int32}  (C : CmI X mX9_pointers d mc ms pp) (hc : cells ≤ mc) (hs : slots ≤ ms) (h0 : h.K t = 10) (k0 : h.I 912 t ≤ x2 → pp x1 h) (k1 : ¬ h.I 912 t ≤ x2 → At X cells slots 55 [some (va_rf (some t)), some (.int x1), some (.int x2), some (.int 0)] [] h) : At X cells slots 45 [some (va_rf (some t)), some (.int x1), some (.int x2), none] [] h := by
  refine st_iload_n (pc := 45) C.1 dX9_pointers_45 rfl rfl ?_
  refine st_aload_n (pc := 46) C.1 (some t) dX9_pointers_46 rfl rfl ?_
  refine gI_RX9_88 (pc := 47) C.1 (h.I 912 t) dX9_pointers_47 h0 rfl ?_
  refine st_icmp_ge (pc := 50) (tgt := 113) C.1 dX9_pointers_50 (by decide) (fun c0 => ?_) (fun c0 => ?_)
  · refine st_iload_n (pc := 113) C.1 dX9_pointers_113 rfl rfl ?_
    exact rt_i C (Or.inl rfl) dX9_pointers_114 hc hs ⟨_, rfl, (k0 c0)⟩
  · refine st_iconst (pc := 53) (v := 0) C.1 dX9_pointers_53 (by decide) ?_
    refine sv_istore_n (pc := 54) (i := 3) C.1 [some (va_rf (some t)), some (.int x1), some (.int x2), some (.int 0)] dX9_pointers_54 rfl (Nat.le_of_ble_eq_true rfl) (by rw [C.2.1]; exact Nat.le_of_ble_eq_true rfl) rfl rfl ?_
    exact (k1 c0)

theorem sgX9_pointers_55 {X : CX} {d mc ms cells slots : Nat} {pp : Int32 → Hp → Prop} {h : Hp} {t : Nat} {x1 : Int32} {x2 : Int32} {x3 : Int32} {r0 : Nat} (C : CmI X mX9_pointers d mc ms pp) (h0 : h.K t = 10) (h1 : h.R 909 t = some r0) (h2 : h.K r0 = 11) (h3 : vp_in x2 (h.N r0)) (k0 : h.AI r0 (x2.toNatClampNeg) ≤ x3 → At X cells slots 45 [some (va_rf (some t)), some (.int x1), some (.int (x2 + 1)), some (.int x3)] [] h) (k1 : ¬ h.AI r0 (x2.toNatClampNeg) ≤ x3 → At X cells slots 67 [some (va_rf (some t)), some (.int x1), some (.int x2), some (.int x3)] [.int x2, va_rf (some t)] h) : At X cells slots 55 [some (va_rf (some t)), some (.int x1), some (.int x2), some (.int x3)] [] h := by
  refine st_iload_n (pc := 55) C.1 dX9_pointers_55 rfl rfl ?_
  refine st_aload_n (pc := 56) C.1 (some t) dX9_pointers_56 rfl rfl ?_
  refine gR_RX9_26 (pc := 57) C.1 (some r0) dX9_pointers_57 h0 h1 ?_
  refine st_iload_n (pc := 60) C.1 dX9_pointers_60 rfl rfl ?_
  refine sv_iaload (pc := 61) C.1 (h.AI r0 (x2.toNatClampNeg)) dX9_pointers_61 h2 h3 rfl ?_
  refine st_icmp_ge (pc := 62) (tgt := 107) C.1 dX9_pointers_62 (by decide) (fun c0 => ?_) (fun c0 => ?_)
  · refine sv_iinc (pc := 107) (i := 2) (v := x2 + 1) C.1 [some (va_rf (some t)), some (.int x1), some (.int (x2 + 1)), some (.int x3)] dX9_pointers_107 rfl rfl (by rw [C.2.1]; exact Nat.le_of_ble_eq_true rfl) rfl rfl ?_
    refine st_goto (pc := 110) (tgt := 45) C.1 dX9_pointers_110 (by decide) ?_
    exact (k0 c0)
  · refine st_aload_n (pc := 65) C.1 (some t) dX9_pointers_65 rfl rfl ?_
    refine st_iload_n (pc := 66) C.1 dX9_pointers_66 rfl rfl ?_
    exact (k1 c0)

theorem sgX9_pointers_70 {X : CX} {d mc ms cells slots : Nat} {pp : Int32 → Hp → Prop} {h : Hp} {t : Nat} {x1 : Int32} {x2 : Int32} {x3 : Int32} {u0 : Int32}  (C : CmI X mX9_pointers d mc ms pp) (h0 : h.K t = 10) (k0 : u0 = 0 → At X cells slots 45 [some (va_rf (some t)), some (.int x1), some (.int (x2 + 1)), some (.int x3)] [] h) (k1 : ¬ u0 = 0 → At X cells slots 81 [some (va_rf (some t)), some (.int x1), some (.int x2), some (.int x3)] [.int x2, va_rf (some t), va_rf (h.R 904 t), va_rf (some t), .int x1] h) : At X cells slots 70 [some (va_rf (some t)), some (.int x1), some (.int x2), some (.int x3)] [.int u0] h := by
  refine st_if_eq (pc := 70) (tgt := 107) C.1 dX9_pointers_70 (by decide) (fun c0 => ?_) (fun c0 => ?_)
  · refine sv_iinc (pc := 107) (i := 2) (v := x2 + 1) C.1 [some (va_rf (some t)), some (.int x1), some (.int (x2 + 1)), some (.int x3)] dX9_pointers_107 rfl rfl (by rw [C.2.1]; exact Nat.le_of_ble_eq_true rfl) rfl rfl ?_
    refine st_goto (pc := 110) (tgt := 45) C.1 dX9_pointers_110 (by decide) ?_
    exact (k0 c0)
  · refine st_iload_n (pc := 73) C.1 dX9_pointers_73 rfl rfl ?_
    refine st_aload_n (pc := 74) C.1 (some t) dX9_pointers_74 rfl rfl ?_
    refine st_aload_n (pc := 75) C.1 (some t) dX9_pointers_75 rfl rfl ?_
    refine gR_RX9_7 (pc := 76) C.1 (h.R 904 t) dX9_pointers_76 h0 rfl ?_
    refine st_aload_n (pc := 79) C.1 (some t) dX9_pointers_79 rfl rfl ?_
    refine st_iload_n (pc := 80) C.1 dX9_pointers_80 rfl rfl ?_
    exact (k1 c0)

theorem sgX9_pointers_84 {X : CX} {d mc ms cells slots : Nat} {pp : Int32 → Hp → Prop} {h : Hp} {t : Nat} {x1 : Int32} {x2 : Int32} {x3 : Int32} {u0 : Int32} {q1 : Nat} {p2 : Option Nat} {u3 : Int32}  (C : CmI X mX9_pointers d mc ms pp) (h0 : h.K q1 = 11) (h1 : vp_in (u0 + x3) (h.N q1)) (k0 : At X cells slots 87 [some (va_rf (some t)), some (.int x1), some (.int x2), some (.int x3)] [.int (h.AI q1 ((u0 + x3).toNatClampNeg)), va_rf p2, .int u3] h) : At X cells slots 84 [some (va_rf (some t)), some (.int x1), some (.int x2), some (.int x3)] [.int u0, va_rf (some q1), va_rf p2, .int u3] h := by
  refine st_iload_n (pc := 84) C.1 dX9_pointers_84 rfl rfl ?_
  refine st_iadd (pc := 85) C.1 dX9_pointers_85 ?_
  refine sv_iaload (pc := 86) C.1 (h.AI q1 ((u0 + x3).toNatClampNeg)) dX9_pointers_86 h0 h1 rfl ?_
  exact k0

theorem sgX9_pointers_90 {X : CX} {d mc ms cells slots : Nat} {pp : Int32 → Hp → Prop} {h : Hp} {t : Nat} {x1 : Int32} {x2 : Int32} {x3 : Int32} {u0 : Int32} {u1 : Int32}  (C : CmI X mX9_pointers d mc ms pp)  (k0 : u0 = (-1) → At X cells slots 55 [some (va_rf (some t)), some (.int (u1 + 0)), some (.int x2), some (.int (x3 + 1))] [] h) (k1 : ¬ u0 = (-1) → At X cells slots 55 [some (va_rf (some t)), some (.int (u1 + 1)), some (.int x2), some (.int (x3 + 1))] [] h) : At X cells slots 90 [some (va_rf (some t)), some (.int x1), some (.int x2), some (.int x3)] [.int u0, .int u1] h := by
  refine st_iconst (pc := 90) (v := (-1)) C.1 dX9_pointers_90 (by decide) ?_
  refine st_icmp_eq (pc := 91) (tgt := 98) C.1 dX9_pointers_91 (by decide) (fun c0 => ?_) (fun c0 => ?_)
  · refine st_iconst (pc := 98) (v := 0) C.1 dX9_pointers_98 (by decide) ?_
    refine st_iadd (pc := 99) C.1 dX9_pointers_99 ?_
    refine sv_istore_n (pc := 100) (i := 1) C.1 [some (va_rf (some t)), some (.int (u1 + 0)), some (.int x2), some (.int x3)] dX9_pointers_100 rfl (Nat.le_of_ble_eq_true rfl) (by rw [C.2.1]; exact Nat.le_of_ble_eq_true rfl) rfl rfl ?_
    refine sv_iinc (pc := 101) (i := 3) (v := x3 + 1) C.1 [some (va_rf (some t)), some (.int (u1 + 0)), some (.int x2), some (.int (x3 + 1))] dX9_pointers_101 rfl rfl (by rw [C.2.1]; exact Nat.le_of_ble_eq_true rfl) rfl rfl ?_
    refine st_goto (pc := 104) (tgt := 55) C.1 dX9_pointers_104 (by decide) ?_
    exact (k0 c0)
  · refine st_iconst (pc := 94) (v := 1) C.1 dX9_pointers_94 (by decide) ?_
    refine st_goto (pc := 95) (tgt := 99) C.1 dX9_pointers_95 (by decide) ?_
    refine st_iadd (pc := 99) C.1 dX9_pointers_99 ?_
    refine sv_istore_n (pc := 100) (i := 1) C.1 [some (va_rf (some t)), some (.int (u1 + 1)), some (.int x2), some (.int x3)] dX9_pointers_100 rfl (Nat.le_of_ble_eq_true rfl) (by rw [C.2.1]; exact Nat.le_of_ble_eq_true rfl) rfl rfl ?_
    refine sv_iinc (pc := 101) (i := 3) (v := x3 + 1) C.1 [some (va_rf (some t)), some (.int (u1 + 1)), some (.int x2), some (.int (x3 + 1))] dX9_pointers_101 rfl rfl (by rw [C.2.1]; exact Nat.le_of_ble_eq_true rfl) rfl rfl ?_
    refine st_goto (pc := 104) (tgt := 55) C.1 dX9_pointers_104 (by decide) ?_
    exact (k1 c0)

theorem clX9_pointers_23 {X : CX} {d0 mc0 ms0 d mc ms cells slots : Nat} {pp : Int32 → Hp → Prop} {h : Hp} {ls : List (Option Value)} {rest : List Value} {b : Nat} {a0 : Value} {post : Int32 → Hp → Prop} (C : CmI X mX9_pointers d0 mc0 ms0 pp) (hct : CtI mX9_leads d mc ms [va_rf (some b), a0] h post) (hK : h.K b = 10) (hdd : d < d0) (hmc : cells + mc ≤ mc0) (hms : slots + ms ≤ ms0) (hcat : (rest.map fun v => v.category).sum ≤ 8) (kk : ∀ r h', post r h' → At X (cells + mc) (slots + ms) 26 ls (.int r :: rest) h') : At X cells slots 23 ls (a0 :: va_rf (some b) :: rest) h :=
  st_callV (pc := 23) (M := mX9_leads) (idx := 187) (As := [a0]) C.1 C.2.2.1 C.2.2.2.2.2.2 ⟨wM_RX9_187, wC_X9_leads, wI_RX9, by decide +kernel, by decide⟩ wV_X9_leads wS_X9_leads (ci := 9) (n := 1) rfl rfl (by decide) dX9_pointers_23 rfl hdd hcat hK hct hmc hms (fun v h2 hp => by obtain ⟨r, rfl, hp⟩ := hp; exact kk r h2 hp)
theorem clX9_pointers_67 {X : CX} {d0 mc0 ms0 d mc ms cells slots : Nat} {pp : Int32 → Hp → Prop} {h : Hp} {ls : List (Option Value)} {rest : List Value} {b : Nat} {a0 : Value} {post : Int32 → Hp → Prop} (C : CmI X mX9_pointers d0 mc0 ms0 pp) (hct : CtI mX9_isLive d mc ms [va_rf (some b), a0] h post) (hK : h.K b = 10) (hdd : d < d0) (hmc : cells + mc ≤ mc0) (hms : slots + ms ≤ ms0) (hcat : (rest.map fun v => v.category).sum ≤ 8) (kk : ∀ r h', post r h' → At X (cells + mc) (slots + ms) 70 ls (.int r :: rest) h') : At X cells slots 67 ls (a0 :: va_rf (some b) :: rest) h :=
  st_callV (pc := 67) (M := mX9_isLive) (idx := 98) (As := [a0]) C.1 C.2.2.1 C.2.2.2.2.2.2 ⟨wM_RX9_98, wC_X9_isLive, wI_RX9, by decide +kernel, by decide⟩ wV_X9_isLive wS_X9_isLive (ci := 9) (n := 1) rfl rfl (by decide) dX9_pointers_67 rfl hdd hcat hK hct hmc hms (fun v h2 hp => by obtain ⟨r, rfl, hp⟩ := hp; exact kk r h2 hp)
theorem clX9_pointers_81 {X : CX} {d0 mc0 ms0 d mc ms cells slots : Nat} {pp : Int32 → Hp → Prop} {h : Hp} {ls : List (Option Value)} {rest : List Value} {b : Nat} {a0 : Value} {post : Int32 → Hp → Prop} (C : CmI X mX9_pointers d0 mc0 ms0 pp) (hct : CtI mX9_start d mc ms [va_rf (some b), a0] h post) (hK : h.K b = 10) (hdd : d < d0) (hmc : cells + mc ≤ mc0) (hms : slots + ms ≤ ms0) (hcat : (rest.map fun v => v.category).sum ≤ 8) (kk : ∀ r h', post r h' → At X (cells + mc) (slots + ms) 84 ls (.int r :: rest) h') : At X cells slots 81 ls (a0 :: va_rf (some b) :: rest) h :=
  st_callV (pc := 81) (M := mX9_start) (idx := 91) (As := [a0]) C.1 C.2.2.1 C.2.2.2.2.2.2 ⟨wM_RX9_91, wC_X9_start, wI_RX9, by decide +kernel, by decide⟩ wV_X9_start wS_X9_start (ci := 9) (n := 1) rfl rfl (by decide) dX9_pointers_81 rfl hdd hcat hK hct hmc hms (fun v h2 hp => by obtain ⟨r, rfl, hp⟩ := hp; exact kk r h2 hp)
theorem clX9_pointers_87 {X : CX} {d0 mc0 ms0 d mc ms cells slots : Nat} {pp : Int32 → Hp → Prop} {h : Hp} {ls : List (Option Value)} {rest : List Value} {b : Nat} {a0 : Value} {post : Int32 → Hp → Prop} (C : CmI X mX9_pointers d0 mc0 ms0 pp) (hct : CtI mX9_leads d mc ms [va_rf (some b), a0] h post) (hK : h.K b = 10) (hdd : d < d0) (hmc : cells + mc ≤ mc0) (hms : slots + ms ≤ ms0) (hcat : (rest.map fun v => v.category).sum ≤ 8) (kk : ∀ r h', post r h' → At X (cells + mc) (slots + ms) 90 ls (.int r :: rest) h') : At X cells slots 87 ls (a0 :: va_rf (some b) :: rest) h :=
  st_callV (pc := 87) (M := mX9_leads) (idx := 187) (As := [a0]) C.1 C.2.2.1 C.2.2.2.2.2.2 ⟨wM_RX9_187, wC_X9_leads, wI_RX9, by decide +kernel, by decide⟩ wV_X9_leads wS_X9_leads (ci := 9) (n := 1) rfl rfl (by decide) dX9_pointers_87 rfl hdd hcat hK hct hmc hms (fun v h2 hp => by obtain ⟨r, rfl, hp⟩ := hp; exact kk r h2 hp)
theorem sgX9_lives_0 {X : CX} {d mc ms cells slots : Nat} {pp : Int32 → Hp → Prop} {h : Hp} {t : Nat} {x1 : Int32}  (C : CmI X mX9_lives d mc ms pp)  (k0 : At X cells slots 4 [some (va_rf (some t)), some (.int x1), some (.int 0), some (.int 0)] [] h) : At X cells slots 0 [some (va_rf (some t)), some (.int x1), none, none] [] h := by
  refine st_iconst (pc := 0) (v := 0) C.1 dX9_lives_0 (by decide) ?_
  refine sv_istore_n (pc := 1) (i := 2) C.1 [some (va_rf (some t)), some (.int x1), some (.int 0), none] dX9_lives_1 rfl (Nat.le_of_ble_eq_true rfl) (by rw [C.2.1]; exact Nat.le_of_ble_eq_true rfl) rfl rfl ?_
  refine st_iconst (pc := 2) (v := 0) C.1 dX9_lives_2 (by decide) ?_
  refine sv_istore_n (pc := 3) (i := 3) C.1 [some (va_rf (some t)), some (.int x1), some (.int 0), some (.int 0)] dX9_lives_3 rfl (Nat.le_of_ble_eq_true rfl) (by rw [C.2.1]; exact Nat.le_of_ble_eq_true rfl) rfl rfl ?_
  exact k0

theorem sgX9_lives_4 {X : CX} {d mc ms cells slots : Nat} {pp : Int32 → Hp → Prop} {h : Hp} {t : Nat} {x1 : Int32} {x2 : Int32} {x3 : Int32}  (C : CmI X mX9_lives d mc ms pp) (hc : cells ≤ mc) (hs : slots ≤ ms) (h0 : h.K t = 10) (k0 : h.I 912 t ≤ x3 → pp x2 h) (k1 : ¬ h.I 912 t ≤ x3 → At X cells slots 14 [some (va_rf (some t)), some (.int x1), some (.int x2), some (.int x3)] [.int x3, va_rf (some t)] h) : At X cells slots 4 [some (va_rf (some t)), some (.int x1), some (.int x2), some (.int x3)] [] h := by
  refine st_iload_n (pc := 4) C.1 dX9_lives_4 rfl rfl ?_
  refine st_aload_n (pc := 5) C.1 (some t) dX9_lives_5 rfl rfl ?_
  refine gI_RX9_88 (pc := 6) C.1 (h.I 912 t) dX9_lives_6 h0 rfl ?_
  refine st_icmp_ge (pc := 9) (tgt := 43) C.1 dX9_lives_9 (by decide) (fun c0 => ?_) (fun c0 => ?_)
  · refine st_iload_n (pc := 43) C.1 dX9_lives_43 rfl rfl ?_
    exact rt_i C (Or.inl rfl) dX9_lives_44 hc hs ⟨_, rfl, (k0 c0)⟩
  · refine st_aload_n (pc := 12) C.1 (some t) dX9_lives_12 rfl rfl ?_
    refine st_iload_n (pc := 13) C.1 dX9_lives_13 rfl rfl ?_
    exact (k1 c0)

theorem sgX9_lives_17 {X : CX} {d mc ms cells slots : Nat} {pp : Int32 → Hp → Prop} {h : Hp} {t : Nat} {x1 : Int32} {x2 : Int32} {x3 : Int32} {u0 : Int32} {r0 : Nat} (C : CmI X mX9_lives d mc ms pp) (h0 : h.K t = 10) (h1 : h.R 909 t = some r0) (h2 : h.K r0 = 11) (h3 : ¬ u0 = 0 → ¬ x1 = 0 → vp_in x3 (h.N r0)) (k0 : u0 = 0 → At X cells slots 4 [some (va_rf (some t)), some (.int x1), some (.int x2), some (.int (x3 + 1))] [] h) (k1 : ¬ u0 = 0 → x1 = 0 → At X cells slots 4 [some (va_rf (some t)), some (.int x1), some (.int (x2 + 1)), some (.int (x3 + 1))] [] h) (k2 : ¬ u0 = 0 → ¬ x1 = 0 → At X cells slots 4 [some (va_rf (some t)), some (.int x1), some (.int (x2 + (h.AI r0 (x3.toNatClampNeg)))), some (.int (x3 + 1))] [] h) : At X cells slots 17 [some (va_rf (some t)), some (.int x1), some (.int x2), some (.int x3)] [.int u0] h := by
  refine st_if_eq (pc := 17) (tgt := 37) C.1 dX9_lives_17 (by decide) (fun c0 => ?_) (fun c0 => ?_)
  · refine sv_iinc (pc := 37) (i := 3) (v := x3 + 1) C.1 [some (va_rf (some t)), some (.int x1), some (.int x2), some (.int (x3 + 1))] dX9_lives_37 rfl rfl (by rw [C.2.1]; exact Nat.le_of_ble_eq_true rfl) rfl rfl ?_
    refine st_goto (pc := 40) (tgt := 4) C.1 dX9_lives_40 (by decide) ?_
    exact (k0 c0)
  · refine st_iload_n (pc := 20) C.1 dX9_lives_20 rfl rfl ?_
    refine st_iload_n (pc := 21) C.1 dX9_lives_21 rfl rfl ?_
    refine st_if_eq (pc := 22) (tgt := 34) C.1 dX9_lives_22 (by decide) (fun c1 => ?_) (fun c1 => ?_)
    · refine st_iconst (pc := 34) (v := 1) C.1 dX9_lives_34 (by decide) ?_
      refine st_iadd (pc := 35) C.1 dX9_lives_35 ?_
      refine sv_istore_n (pc := 36) (i := 2) C.1 [some (va_rf (some t)), some (.int x1), some (.int (x2 + 1)), some (.int x3)] dX9_lives_36 rfl (Nat.le_of_ble_eq_true rfl) (by rw [C.2.1]; exact Nat.le_of_ble_eq_true rfl) rfl rfl ?_
      refine sv_iinc (pc := 37) (i := 3) (v := x3 + 1) C.1 [some (va_rf (some t)), some (.int x1), some (.int (x2 + 1)), some (.int (x3 + 1))] dX9_lives_37 rfl rfl (by rw [C.2.1]; exact Nat.le_of_ble_eq_true rfl) rfl rfl ?_
      refine st_goto (pc := 40) (tgt := 4) C.1 dX9_lives_40 (by decide) ?_
      exact (k1 c0 c1)
    · refine st_aload_n (pc := 25) C.1 (some t) dX9_lives_25 rfl rfl ?_
      refine gR_RX9_26 (pc := 26) C.1 (some r0) dX9_lives_26 h0 h1 ?_
      refine st_iload_n (pc := 29) C.1 dX9_lives_29 rfl rfl ?_
      refine sv_iaload (pc := 30) C.1 (h.AI r0 (x3.toNatClampNeg)) dX9_lives_30 h2 (h3 c0 c1) rfl ?_
      refine st_goto (pc := 31) (tgt := 35) C.1 dX9_lives_31 (by decide) ?_
      refine st_iadd (pc := 35) C.1 dX9_lives_35 ?_
      refine sv_istore_n (pc := 36) (i := 2) C.1 [some (va_rf (some t)), some (.int x1), some (.int (x2 + (h.AI r0 (x3.toNatClampNeg)))), some (.int x3)] dX9_lives_36 rfl (Nat.le_of_ble_eq_true rfl) (by rw [C.2.1]; exact Nat.le_of_ble_eq_true rfl) rfl rfl ?_
      refine sv_iinc (pc := 37) (i := 3) (v := x3 + 1) C.1 [some (va_rf (some t)), some (.int x1), some (.int (x2 + (h.AI r0 (x3.toNatClampNeg)))), some (.int (x3 + 1))] dX9_lives_37 rfl rfl (by rw [C.2.1]; exact Nat.le_of_ble_eq_true rfl) rfl rfl ?_
      refine st_goto (pc := 40) (tgt := 4) C.1 dX9_lives_40 (by decide) ?_
      exact (k2 c0 c1)

theorem clX9_lives_14 {X : CX} {d0 mc0 ms0 d mc ms cells slots : Nat} {pp : Int32 → Hp → Prop} {h : Hp} {ls : List (Option Value)} {rest : List Value} {b : Nat} {a0 : Value} {post : Int32 → Hp → Prop} (C : CmI X mX9_lives d0 mc0 ms0 pp) (hct : CtI mX9_isLive d mc ms [va_rf (some b), a0] h post) (hK : h.K b = 10) (hdd : d < d0) (hmc : cells + mc ≤ mc0) (hms : slots + ms ≤ ms0) (hcat : (rest.map fun v => v.category).sum ≤ 8) (kk : ∀ r h', post r h' → At X (cells + mc) (slots + ms) 17 ls (.int r :: rest) h') : At X cells slots 14 ls (a0 :: va_rf (some b) :: rest) h :=
  st_callV (pc := 14) (M := mX9_isLive) (idx := 98) (As := [a0]) C.1 C.2.2.1 C.2.2.2.2.2.2 ⟨wM_RX9_98, wC_X9_isLive, wI_RX9, by decide +kernel, by decide⟩ wV_X9_isLive wS_X9_isLive (ci := 9) (n := 1) rfl rfl (by decide) dX9_lives_14 rfl hdd hcat hK hct hmc hms (fun v h2 hp => by obtain ⟨r, rfl, hp⟩ := hp; exact kk r h2 hp)
theorem sgX9_freeWords_0 {X : CX} {d mc ms cells slots : Nat} {pp : Int32 → Hp → Prop} {h : Hp} {t : Nat}  (C : CmI X mX9_freeWords d mc ms pp)  (k0 : At X cells slots 4 [some (va_rf (some t)), some (.int 0), some (.int 0)] [] h) : At X cells slots 0 [some (va_rf (some t)), none, none] [] h := by
  refine st_iconst (pc := 0) (v := 0) C.1 dX9_freeWords_0 (by decide) ?_
  refine sv_istore_n (pc := 1) (i := 1) C.1 [some (va_rf (some t)), some (.int 0), none] dX9_freeWords_1 rfl (Nat.le_of_ble_eq_true rfl) (by rw [C.2.1]; exact Nat.le_of_ble_eq_true rfl) rfl rfl ?_
  refine st_iconst (pc := 2) (v := 0) C.1 dX9_freeWords_2 (by decide) ?_
  refine sv_istore_n (pc := 3) (i := 2) C.1 [some (va_rf (some t)), some (.int 0), some (.int 0)] dX9_freeWords_3 rfl (Nat.le_of_ble_eq_true rfl) (by rw [C.2.1]; exact Nat.le_of_ble_eq_true rfl) rfl rfl ?_
  exact k0

theorem sgX9_freeWords_4 {X : CX} {d mc ms cells slots : Nat} {pp : Int32 → Hp → Prop} {h : Hp} {t : Nat} {x1 : Int32} {x2 : Int32} {r0 : Nat} (C : CmI X mX9_freeWords d mc ms pp) (hc : cells ≤ mc) (hs : slots ≤ ms) (h0 : h.K t = 10) (h1 : h.R 914 t = some r0) (h2 : h.K r0 = 11) (h3 : ¬ h.I 915 t ≤ x2 → vp_in x2 (h.N r0)) (k0 : h.I 915 t ≤ x2 → pp x1 h) (k1 : ¬ h.I 915 t ≤ x2 → At X cells slots 4 [some (va_rf (some t)), some (.int (x1 + (h.AI r0 (x2.toNatClampNeg)))), some (.int (x2 + 1))] [] h) : At X cells slots 4 [some (va_rf (some t)), some (.int x1), some (.int x2)] [] h := by
  refine st_iload_n (pc := 4) C.1 dX9_freeWords_4 rfl rfl ?_
  refine st_aload_n (pc := 5) C.1 (some t) dX9_freeWords_5 rfl rfl ?_
  refine gI_RX9_105 (pc := 6) C.1 (h.I 915 t) dX9_freeWords_6 h0 rfl ?_
  refine st_icmp_ge (pc := 9) (tgt := 27) C.1 dX9_freeWords_9 (by decide) (fun c0 => ?_) (fun c0 => ?_)
  · refine st_iload_n (pc := 27) C.1 dX9_freeWords_27 rfl rfl ?_
    exact rt_i C (Or.inl rfl) dX9_freeWords_28 hc hs ⟨_, rfl, (k0 c0)⟩
  · refine st_iload_n (pc := 12) C.1 dX9_freeWords_12 rfl rfl ?_
    refine st_aload_n (pc := 13) C.1 (some t) dX9_freeWords_13 rfl rfl ?_
    refine gR_RX9_38 (pc := 14) C.1 (some r0) dX9_freeWords_14 h0 h1 ?_
    refine st_iload_n (pc := 17) C.1 dX9_freeWords_17 rfl rfl ?_
    refine sv_iaload (pc := 18) C.1 (h.AI r0 (x2.toNatClampNeg)) dX9_freeWords_18 h2 (h3 c0) rfl ?_
    refine st_iadd (pc := 19) C.1 dX9_freeWords_19 ?_
    refine sv_istore_n (pc := 20) (i := 1) C.1 [some (va_rf (some t)), some (.int (x1 + (h.AI r0 (x2.toNatClampNeg)))), some (.int x2)] dX9_freeWords_20 rfl (Nat.le_of_ble_eq_true rfl) (by rw [C.2.1]; exact Nat.le_of_ble_eq_true rfl) rfl rfl ?_
    refine sv_iinc (pc := 21) (i := 2) (v := x2 + 1) C.1 [some (va_rf (some t)), some (.int (x1 + (h.AI r0 (x2.toNatClampNeg)))), some (.int (x2 + 1))] dX9_freeWords_21 rfl rfl (by rw [C.2.1]; exact Nat.le_of_ble_eq_true rfl) rfl rfl ?_
    refine st_goto (pc := 24) (tgt := 4) C.1 dX9_freeWords_24 (by decide) ?_
    exact (k1 c0)

theorem sgX9_count_0 {X : CX} {d mc ms cells slots : Nat} {pp : Int32 → Hp → Prop} {h : Hp} {t : Nat} {x1 : Int32}  (C : CmI X mX9_count d mc ms pp) (hc : cells ≤ mc) (hs : slots ≤ ms) (h0 : h.K t = 10) (k0 : x1.toInt < 0 ∨ 16 < x1.toInt → pp (-1) (h.sI 903 t 0)) (k1 : x1 = 0 → pp (h.I 905 t) (h.sI 903 t 0)) (k2 : x1 = 1 → At X cells slots 95 [some (va_rf (some t)), some (.int x1)] [.int 0, va_rf (some t)] (h.sI 903 t 0)) (k3 : x1 = 2 → At X cells slots 101 [some (va_rf (some t)), some (.int x1)] [.int 1, va_rf (some t)] (h.sI 903 t 0)) (k4 : x1 = 3 → At X cells slots 111 [some (va_rf (some t)), some (.int x1)] [.int 0, va_rf (some t), .int (h.I 912 t)] (h.sI 903 t 0)) (k5 : x1 = 4 → At X cells slots 117 [some (va_rf (some t)), some (.int x1)] [va_rf (some t)] (h.sI 903 t 0)) (k6 : x1 = 5 → pp (h.I 915 t) (h.sI 903 t 0)) (k7 : x1 = 6 → At X cells slots 127 [some (va_rf (some t)), some (.int x1)] [va_rf (some t)] (h.sI 903 t 0)) (k8 : x1 = 7 → pp (h.I 916 t) (h.sI 903 t 0)) (k9 : x1 = 8 → pp (h.I 917 t) (h.sI 903 t 0)) (k10 : x1 = 9 → pp (h.I 918 t) (h.sI 903 t 0)) (k11 : x1 = 10 → pp (h.I 919 t) (h.sI 903 t 0)) (k12 : x1 = 11 → pp (h.I 920 t) (h.sI 903 t 0)) (k13 : x1 = 12 → pp (h.I 906 t) (h.sI 903 t 0)) (k14 : x1 = 13 → pp (h.I 921 t) (h.sI 903 t 0)) (k15 : x1 = 14 → pp (h.I 900 t) (h.sI 903 t 0)) (k16 : x1 = 15 → pp (h.I 901 t) (h.sI 903 t 0)) (k17 : x1 = 16 → pp (h.I 902 t) (h.sI 903 t 0)) : At X cells slots 0 [some (va_rf (some t)), some (.int x1)] [] h := by
  refine st_aload_n (pc := 0) C.1 (some t) dX9_count_0 rfl rfl ?_
  refine st_iconst (pc := 1) (v := 0) C.1 dX9_count_1 (by decide) ?_
  refine pI_RX9_85 (pc := 2) C.1 dX9_count_2 h0 ?_
  refine st_iload_n (pc := 5) C.1 dX9_count_5 rfl rfl ?_
  by_cases c0o : x1.toInt < 0 ∨ 16 < x1.toInt
  · refine st_tableOut (pc := 6) (tgt := 181) C.1 dX9_count_6 c0o (by decide) ?_
    refine st_iconst (pc := 181) (v := (-1)) C.1 dX9_count_181 (by decide) ?_
    exact rt_i C (Or.inl rfl) dX9_count_182 hc hs ⟨_, rfl, (k0 c0o)⟩
  · rcases (show x1.toInt = 0 ∨ x1.toInt = 1 ∨ x1.toInt = 2 ∨ x1.toInt = 3 ∨ x1.toInt = 4 ∨ x1.toInt = 5 ∨ x1.toInt = 6 ∨ x1.toInt = 7 ∨ x1.toInt = 8 ∨ x1.toInt = 9 ∨ x1.toInt = 10 ∨ x1.toInt = 11 ∨ x1.toInt = 12 ∨ x1.toInt = 13 ∨ x1.toInt = 14 ∨ x1.toInt = 15 ∨ x1.toInt = 16 by omega) with c0 | c0 | c0 | c0 | c0 | c0 | c0 | c0 | c0 | c0 | c0 | c0 | c0 | c0 | c0 | c0 | c0
    · have c0e : x1 = 0 := Int32.toInt_inj.mp (by rw [c0]; rfl)
      refine st_tableIn (pc := 6) (off := 82) (tgt := 88) C.1 dX9_count_6 (by omega) (by omega) (by rw [c0]; rfl) (by decide) ?_
      refine st_aload_n (pc := 88) C.1 (some t) dX9_count_88 rfl rfl ?_
      refine gI_RX9_13 (pc := 89) C.1 (h.I 905 t) dX9_count_89 h0 rfl ?_
      exact rt_i C (Or.inl rfl) dX9_count_92 hc hs ⟨_, rfl, (k1 c0e)⟩
    · have c0e : x1 = 1 := Int32.toInt_inj.mp (by rw [c0]; rfl)
      refine st_tableIn (pc := 6) (off := 87) (tgt := 93) C.1 dX9_count_6 (by omega) (by omega) (by rw [c0]; rfl) (by decide) ?_
      refine st_aload_n (pc := 93) C.1 (some t) dX9_count_93 rfl rfl ?_
      refine st_iconst (pc := 94) (v := 0) C.1 dX9_count_94 (by decide) ?_
      exact (k2 c0e)
    · have c0e : x1 = 2 := Int32.toInt_inj.mp (by rw [c0]; rfl)
      refine st_tableIn (pc := 6) (off := 93) (tgt := 99) C.1 dX9_count_6 (by omega) (by omega) (by rw [c0]; rfl) (by decide) ?_
      refine st_aload_n (pc := 99) C.1 (some t) dX9_count_99 rfl rfl ?_
      refine st_iconst (pc := 100) (v := 1) C.1 dX9_count_100 (by decide) ?_
      exact (k3 c0e)
    · have c0e : x1 = 3 := Int32.toInt_inj.mp (by rw [c0]; rfl)
      refine st_tableIn (pc := 6) (off := 99) (tgt := 105) C.1 dX9_count_6 (by omega) (by omega) (by rw [c0]; rfl) (by decide) ?_
      refine st_aload_n (pc := 105) C.1 (some t) dX9_count_105 rfl rfl ?_
      refine gI_RX9_88 (pc := 106) C.1 (h.I 912 t) dX9_count_106 h0 rfl ?_
      refine st_aload_n (pc := 109) C.1 (some t) dX9_count_109 rfl rfl ?_
      refine st_iconst (pc := 110) (v := 0) C.1 dX9_count_110 (by decide) ?_
      exact (k4 c0e)
    · have c0e : x1 = 4 := Int32.toInt_inj.mp (by rw [c0]; rfl)
      refine st_tableIn (pc := 6) (off := 110) (tgt := 116) C.1 dX9_count_6 (by omega) (by omega) (by rw [c0]; rfl) (by decide) ?_
      refine st_aload_n (pc := 116) C.1 (some t) dX9_count_116 rfl rfl ?_
      exact (k5 c0e)
    · have c0e : x1 = 5 := Int32.toInt_inj.mp (by rw [c0]; rfl)
      refine st_tableIn (pc := 6) (off := 115) (tgt := 121) C.1 dX9_count_6 (by omega) (by omega) (by rw [c0]; rfl) (by decide) ?_
      refine st_aload_n (pc := 121) C.1 (some t) dX9_count_121 rfl rfl ?_
      refine gI_RX9_105 (pc := 122) C.1 (h.I 915 t) dX9_count_122 h0 rfl ?_
      exact rt_i C (Or.inl rfl) dX9_count_125 hc hs ⟨_, rfl, (k6 c0e)⟩
    · have c0e : x1 = 6 := Int32.toInt_inj.mp (by rw [c0]; rfl)
      refine st_tableIn (pc := 6) (off := 120) (tgt := 126) C.1 dX9_count_6 (by omega) (by omega) (by rw [c0]; rfl) (by decide) ?_
      refine st_aload_n (pc := 126) C.1 (some t) dX9_count_126 rfl rfl ?_
      exact (k7 c0e)
    · have c0e : x1 = 7 := Int32.toInt_inj.mp (by rw [c0]; rfl)
      refine st_tableIn (pc := 6) (off := 125) (tgt := 131) C.1 dX9_count_6 (by omega) (by omega) (by rw [c0]; rfl) (by decide) ?_
      refine st_aload_n (pc := 131) C.1 (some t) dX9_count_131 rfl rfl ?_
      refine gI_RX9_157 (pc := 132) C.1 (h.I 916 t) dX9_count_132 h0 rfl ?_
      exact rt_i C (Or.inl rfl) dX9_count_135 hc hs ⟨_, rfl, (k8 c0e)⟩
    · have c0e : x1 = 8 := Int32.toInt_inj.mp (by rw [c0]; rfl)
      refine st_tableIn (pc := 6) (off := 130) (tgt := 136) C.1 dX9_count_6 (by omega) (by omega) (by rw [c0]; rfl) (by decide) ?_
      refine st_aload_n (pc := 136) C.1 (some t) dX9_count_136 rfl rfl ?_
      refine gI_RX9_160 (pc := 137) C.1 (h.I 917 t) dX9_count_137 h0 rfl ?_
      exact rt_i C (Or.inl rfl) dX9_count_140 hc hs ⟨_, rfl, (k9 c0e)⟩
    · have c0e : x1 = 9 := Int32.toInt_inj.mp (by rw [c0]; rfl)
      refine st_tableIn (pc := 6) (off := 135) (tgt := 141) C.1 dX9_count_6 (by omega) (by omega) (by rw [c0]; rfl) (by decide) ?_
      refine st_aload_n (pc := 141) C.1 (some t) dX9_count_141 rfl rfl ?_
      refine gI_RX9_139 (pc := 142) C.1 (h.I 918 t) dX9_count_142 h0 rfl ?_
      exact rt_i C (Or.inl rfl) dX9_count_145 hc hs ⟨_, rfl, (k10 c0e)⟩
    · have c0e : x1 = 10 := Int32.toInt_inj.mp (by rw [c0]; rfl)
      refine st_tableIn (pc := 6) (off := 140) (tgt := 146) C.1 dX9_count_6 (by omega) (by omega) (by rw [c0]; rfl) (by decide) ?_
      refine st_aload_n (pc := 146) C.1 (some t) dX9_count_146 rfl rfl ?_
      refine gI_RX9_126 (pc := 147) C.1 (h.I 919 t) dX9_count_147 h0 rfl ?_
      exact rt_i C (Or.inl rfl) dX9_count_150 hc hs ⟨_, rfl, (k11 c0e)⟩
    · have c0e : x1 = 11 := Int32.toInt_inj.mp (by rw [c0]; rfl)
      refine st_tableIn (pc := 6) (off := 145) (tgt := 151) C.1 dX9_count_6 (by omega) (by omega) (by rw [c0]; rfl) (by decide) ?_
      refine st_aload_n (pc := 151) C.1 (some t) dX9_count_151 rfl rfl ?_
      refine gI_RX9_120 (pc := 152) C.1 (h.I 920 t) dX9_count_152 h0 rfl ?_
      exact rt_i C (Or.inl rfl) dX9_count_155 hc hs ⟨_, rfl, (k12 c0e)⟩
    · have c0e : x1 = 12 := Int32.toInt_inj.mp (by rw [c0]; rfl)
      refine st_tableIn (pc := 6) (off := 150) (tgt := 156) C.1 dX9_count_6 (by omega) (by omega) (by rw [c0]; rfl) (by decide) ?_
      refine st_aload_n (pc := 156) C.1 (some t) dX9_count_156 rfl rfl ?_
      refine gI_RX9_17 (pc := 157) C.1 (h.I 906 t) dX9_count_157 h0 rfl ?_
      exact rt_i C (Or.inl rfl) dX9_count_160 hc hs ⟨_, rfl, (k13 c0e)⟩
    · have c0e : x1 = 13 := Int32.toInt_inj.mp (by rw [c0]; rfl)
      refine st_tableIn (pc := 6) (off := 155) (tgt := 161) C.1 dX9_count_6 (by omega) (by omega) (by rw [c0]; rfl) (by decide) ?_
      refine st_aload_n (pc := 161) C.1 (some t) dX9_count_161 rfl rfl ?_
      refine gI_RX9_102 (pc := 162) C.1 (h.I 921 t) dX9_count_162 h0 rfl ?_
      exact rt_i C (Or.inl rfl) dX9_count_165 hc hs ⟨_, rfl, (k14 c0e)⟩
    · have c0e : x1 = 14 := Int32.toInt_inj.mp (by rw [c0]; rfl)
      refine st_tableIn (pc := 6) (off := 160) (tgt := 166) C.1 dX9_count_6 (by omega) (by omega) (by rw [c0]; rfl) (by decide) ?_
      refine st_aload_n (pc := 166) C.1 (some t) dX9_count_166 rfl rfl ?_
      refine gI_RX9_76 (pc := 167) C.1 (h.I 900 t) dX9_count_167 h0 rfl ?_
      exact rt_i C (Or.inl rfl) dX9_count_170 hc hs ⟨_, rfl, (k15 c0e)⟩
    · have c0e : x1 = 15 := Int32.toInt_inj.mp (by rw [c0]; rfl)
      refine st_tableIn (pc := 6) (off := 165) (tgt := 171) C.1 dX9_count_6 (by omega) (by omega) (by rw [c0]; rfl) (by decide) ?_
      refine st_aload_n (pc := 171) C.1 (some t) dX9_count_171 rfl rfl ?_
      refine gI_RX9_79 (pc := 172) C.1 (h.I 901 t) dX9_count_172 h0 rfl ?_
      exact rt_i C (Or.inl rfl) dX9_count_175 hc hs ⟨_, rfl, (k16 c0e)⟩
    · have c0e : x1 = 16 := Int32.toInt_inj.mp (by rw [c0]; rfl)
      refine st_tableIn (pc := 6) (off := 170) (tgt := 176) C.1 dX9_count_6 (by omega) (by omega) (by rw [c0]; rfl) (by decide) ?_
      refine st_aload_n (pc := 176) C.1 (some t) dX9_count_176 rfl rfl ?_
      refine gI_RX9_82 (pc := 177) C.1 (h.I 902 t) dX9_count_177 h0 rfl ?_
      exact rt_i C (Or.inl rfl) dX9_count_180 hc hs ⟨_, rfl, (k17 c0e)⟩

theorem sgX9_count_98 {X : CX} {d mc ms cells slots : Nat} {pp : Int32 → Hp → Prop} {h : Hp} {t : Nat} {x1 : Int32} {u0 : Int32}  (C : CmI X mX9_count d mc ms pp) (hc : cells ≤ mc) (hs : slots ≤ ms)  (k0 : pp u0 h) : At X cells slots 98 [some (va_rf (some t)), some (.int x1)] [.int u0] h := by
  exact rt_i C (Or.inl rfl) dX9_count_98 hc hs ⟨_, rfl, k0⟩

theorem sgX9_count_104 {X : CX} {d mc ms cells slots : Nat} {pp : Int32 → Hp → Prop} {h : Hp} {t : Nat} {x1 : Int32} {u0 : Int32}  (C : CmI X mX9_count d mc ms pp) (hc : cells ≤ mc) (hs : slots ≤ ms)  (k0 : pp u0 h) : At X cells slots 104 [some (va_rf (some t)), some (.int x1)] [.int u0] h := by
  exact rt_i C (Or.inl rfl) dX9_count_104 hc hs ⟨_, rfl, k0⟩

theorem sgX9_count_114 {X : CX} {d mc ms cells slots : Nat} {pp : Int32 → Hp → Prop} {h : Hp} {t : Nat} {x1 : Int32} {u0 : Int32} {u1 : Int32}  (C : CmI X mX9_count d mc ms pp) (hc : cells ≤ mc) (hs : slots ≤ ms)  (k0 : pp (u1 - u0) h) : At X cells slots 114 [some (va_rf (some t)), some (.int x1)] [.int u0, .int u1] h := by
  refine st_isub (pc := 114) C.1 dX9_count_114 ?_
  exact rt_i C (Or.inl rfl) dX9_count_115 hc hs ⟨_, rfl, k0⟩

theorem sgX9_count_120 {X : CX} {d mc ms cells slots : Nat} {pp : Int32 → Hp → Prop} {h : Hp} {t : Nat} {x1 : Int32} {u0 : Int32}  (C : CmI X mX9_count d mc ms pp) (hc : cells ≤ mc) (hs : slots ≤ ms)  (k0 : pp u0 h) : At X cells slots 120 [some (va_rf (some t)), some (.int x1)] [.int u0] h := by
  exact rt_i C (Or.inl rfl) dX9_count_120 hc hs ⟨_, rfl, k0⟩

theorem sgX9_count_130 {X : CX} {d mc ms cells slots : Nat} {pp : Int32 → Hp → Prop} {h : Hp} {t : Nat} {x1 : Int32} {u0 : Int32}  (C : CmI X mX9_count d mc ms pp) (hc : cells ≤ mc) (hs : slots ≤ ms)  (k0 : pp u0 h) : At X cells slots 130 [some (va_rf (some t)), some (.int x1)] [.int u0] h := by
  exact rt_i C (Or.inl rfl) dX9_count_130 hc hs ⟨_, rfl, k0⟩

theorem clX9_count_95 {X : CX} {d0 mc0 ms0 d mc ms cells slots : Nat} {pp : Int32 → Hp → Prop} {h : Hp} {ls : List (Option Value)} {rest : List Value} {b : Nat} {a0 : Value} {post : Int32 → Hp → Prop} (C : CmI X mX9_count d0 mc0 ms0 pp) (hct : CtI mX9_lives d mc ms [va_rf (some b), a0] h post) (hK : h.K b = 10) (hdd : d < d0) (hmc : cells + mc ≤ mc0) (hms : slots + ms ≤ ms0) (hcat : (rest.map fun v => v.category).sum ≤ 8) (kk : ∀ r h', post r h' → At X (cells + mc) (slots + ms) 98 ls (.int r :: rest) h') : At X cells slots 95 ls (a0 :: va_rf (some b) :: rest) h :=
  st_callV (pc := 95) (M := mX9_lives) (idx := 199) (As := [a0]) C.1 C.2.2.1 C.2.2.2.2.2.2 ⟨wM_RX9_199, wC_X9_lives, wI_RX9, by decide +kernel, by decide⟩ wV_X9_lives wS_X9_lives (ci := 9) (n := 1) rfl rfl (by decide) dX9_count_95 rfl hdd hcat hK hct hmc hms (fun v h2 hp => by obtain ⟨r, rfl, hp⟩ := hp; exact kk r h2 hp)
theorem clX9_count_101 {X : CX} {d0 mc0 ms0 d mc ms cells slots : Nat} {pp : Int32 → Hp → Prop} {h : Hp} {ls : List (Option Value)} {rest : List Value} {b : Nat} {a0 : Value} {post : Int32 → Hp → Prop} (C : CmI X mX9_count d0 mc0 ms0 pp) (hct : CtI mX9_lives d mc ms [va_rf (some b), a0] h post) (hK : h.K b = 10) (hdd : d < d0) (hmc : cells + mc ≤ mc0) (hms : slots + ms ≤ ms0) (hcat : (rest.map fun v => v.category).sum ≤ 8) (kk : ∀ r h', post r h' → At X (cells + mc) (slots + ms) 104 ls (.int r :: rest) h') : At X cells slots 101 ls (a0 :: va_rf (some b) :: rest) h :=
  st_callV (pc := 101) (M := mX9_lives) (idx := 199) (As := [a0]) C.1 C.2.2.1 C.2.2.2.2.2.2 ⟨wM_RX9_199, wC_X9_lives, wI_RX9, by decide +kernel, by decide⟩ wV_X9_lives wS_X9_lives (ci := 9) (n := 1) rfl rfl (by decide) dX9_count_101 rfl hdd hcat hK hct hmc hms (fun v h2 hp => by obtain ⟨r, rfl, hp⟩ := hp; exact kk r h2 hp)
theorem clX9_count_111 {X : CX} {d0 mc0 ms0 d mc ms cells slots : Nat} {pp : Int32 → Hp → Prop} {h : Hp} {ls : List (Option Value)} {rest : List Value} {b : Nat} {a0 : Value} {post : Int32 → Hp → Prop} (C : CmI X mX9_count d0 mc0 ms0 pp) (hct : CtI mX9_lives d mc ms [va_rf (some b), a0] h post) (hK : h.K b = 10) (hdd : d < d0) (hmc : cells + mc ≤ mc0) (hms : slots + ms ≤ ms0) (hcat : (rest.map fun v => v.category).sum ≤ 8) (kk : ∀ r h', post r h' → At X (cells + mc) (slots + ms) 114 ls (.int r :: rest) h') : At X cells slots 111 ls (a0 :: va_rf (some b) :: rest) h :=
  st_callV (pc := 111) (M := mX9_lives) (idx := 199) (As := [a0]) C.1 C.2.2.1 C.2.2.2.2.2.2 ⟨wM_RX9_199, wC_X9_lives, wI_RX9, by decide +kernel, by decide⟩ wV_X9_lives wS_X9_lives (ci := 9) (n := 1) rfl rfl (by decide) dX9_count_111 rfl hdd hcat hK hct hmc hms (fun v h2 hp => by obtain ⟨r, rfl, hp⟩ := hp; exact kk r h2 hp)
theorem clX9_count_117 {X : CX} {d0 mc0 ms0 d mc ms cells slots : Nat} {pp : Int32 → Hp → Prop} {h : Hp} {ls : List (Option Value)} {rest : List Value} {b : Nat} {post : Int32 → Hp → Prop} (C : CmI X mX9_count d0 mc0 ms0 pp) (hct : CtI mX9_waits d mc ms [va_rf (some b)] h post) (hK : h.K b = 10) (hdd : d < d0) (hmc : cells + mc ≤ mc0) (hms : slots + ms ≤ ms0) (hcat : (rest.map fun v => v.category).sum ≤ 8) (kk : ∀ r h', post r h' → At X (cells + mc) (slots + ms) 120 ls (.int r :: rest) h') : At X cells slots 117 ls (va_rf (some b) :: rest) h :=
  st_callV (pc := 117) (M := mX9_waits) (idx := 163) (As := []) C.1 C.2.2.1 C.2.2.2.2.2.2 ⟨wM_RX9_163, wC_X9_waits, wI_RX9, by decide +kernel, by decide⟩ wV_X9_waits wS_X9_waits (ci := 9) (n := 0) rfl rfl (by decide) dX9_count_117 rfl hdd hcat hK hct hmc hms (fun v h2 hp => by obtain ⟨r, rfl, hp⟩ := hp; exact kk r h2 hp)
theorem clX9_count_127 {X : CX} {d0 mc0 ms0 d mc ms cells slots : Nat} {pp : Int32 → Hp → Prop} {h : Hp} {ls : List (Option Value)} {rest : List Value} {b : Nat} {post : Int32 → Hp → Prop} (C : CmI X mX9_count d0 mc0 ms0 pp) (hct : CtI mX9_freeWords d mc ms [va_rf (some b)] h post) (hK : h.K b = 10) (hdd : d < d0) (hmc : cells + mc ≤ mc0) (hms : slots + ms ≤ ms0) (hcat : (rest.map fun v => v.category).sum ≤ 8) (kk : ∀ r h', post r h' → At X (cells + mc) (slots + ms) 130 ls (.int r :: rest) h') : At X cells slots 127 ls (va_rf (some b) :: rest) h :=
  st_callV (pc := 127) (M := mX9_freeWords) (idx := 203) (As := []) C.1 C.2.2.1 C.2.2.2.2.2.2 ⟨wM_RX9_203, wC_X9_freeWords, wI_RX9, by decide +kernel, by decide⟩ wV_X9_freeWords wS_X9_freeWords (ci := 9) (n := 0) rfl rfl (by decide) dX9_count_127 rfl hdd hcat hK hct hmc hms (fun v h2 hp => by obtain ⟨r, rfl, hp⟩ := hp; exact kk r h2 hp)
theorem sgX9_freeMany_0 {X : CX} {d mc ms cells slots : Nat} {pp : Int32 → Hp → Prop} {h : Hp} {t : Nat} {x1 : Int32}  (C : CmI X mX9_freeMany d mc ms pp) (h0 : h.K t = 10) (k0 : At X cells slots 9 [some (va_rf (some t)), some (.int x1), some (.int 0), some (.int 0)] [] (h.sI 903 t 0)) : At X cells slots 0 [some (va_rf (some t)), some (.int x1), none, none] [] h := by
  refine st_aload_n (pc := 0) C.1 (some t) dX9_freeMany_0 rfl rfl ?_
  refine st_iconst (pc := 1) (v := 0) C.1 dX9_freeMany_1 (by decide) ?_
  refine pI_RX9_85 (pc := 2) C.1 dX9_freeMany_2 h0 ?_
  refine st_iconst (pc := 5) (v := 0) C.1 dX9_freeMany_5 (by decide) ?_
  refine sv_istore_n (pc := 6) (i := 2) C.1 [some (va_rf (some t)), some (.int x1), some (.int 0), none] dX9_freeMany_6 rfl (Nat.le_of_ble_eq_true rfl) (by rw [C.2.1]; exact Nat.le_of_ble_eq_true rfl) rfl rfl ?_
  refine st_iconst (pc := 7) (v := 0) C.1 dX9_freeMany_7 (by decide) ?_
  refine sv_istore_n (pc := 8) (i := 3) C.1 [some (va_rf (some t)), some (.int x1), some (.int 0), some (.int 0)] dX9_freeMany_8 rfl (Nat.le_of_ble_eq_true rfl) (by rw [C.2.1]; exact Nat.le_of_ble_eq_true rfl) rfl rfl ?_
  exact k0

theorem sgX9_freeMany_9 {X : CX} {d mc ms cells slots : Nat} {pp : Int32 → Hp → Prop} {h : Hp} {t : Nat} {x1 : Int32} {x2 : Int32} {x3 : Int32} {r0 : Nat} (C : CmI X mX9_freeMany d mc ms pp) (hc : cells ≤ mc) (hs : slots ≤ ms) (h0 : h.K t = 10) (h1 : h.R 914 t = some r0) (h2 : h.K r0 = 11) (h3 : ¬ h.I 915 t ≤ x3 → vp_in x3 (h.N r0)) (k0 : h.I 915 t ≤ x3 → pp x2 h) (k1 : ¬ h.I 915 t ≤ x3 → ¬ h.AI r0 (x3.toNatClampNeg) = x1 → At X cells slots 9 [some (va_rf (some t)), some (.int x1), some (.int (x2 + 0)), some (.int (x3 + 1))] [] h) (k2 : ¬ h.I 915 t ≤ x3 → h.AI r0 (x3.toNatClampNeg) = x1 → At X cells slots 9 [some (va_rf (some t)), some (.int x1), some (.int (x2 + 1)), some (.int (x3 + 1))] [] h) : At X cells slots 9 [some (va_rf (some t)), some (.int x1), some (.int x2), some (.int x3)] [] h := by
  refine st_iload_n (pc := 9) C.1 dX9_freeMany_9 rfl rfl ?_
  refine st_aload_n (pc := 10) C.1 (some t) dX9_freeMany_10 rfl rfl ?_
  refine gI_RX9_105 (pc := 11) C.1 (h.I 915 t) dX9_freeMany_11 h0 rfl ?_
  refine st_icmp_ge (pc := 14) (tgt := 41) C.1 dX9_freeMany_14 (by decide) (fun c0 => ?_) (fun c0 => ?_)
  · refine st_iload_n (pc := 41) C.1 dX9_freeMany_41 rfl rfl ?_
    exact rt_i C (Or.inl rfl) dX9_freeMany_42 hc hs ⟨_, rfl, (k0 c0)⟩
  · refine st_iload_n (pc := 17) C.1 dX9_freeMany_17 rfl rfl ?_
    refine st_aload_n (pc := 18) C.1 (some t) dX9_freeMany_18 rfl rfl ?_
    refine gR_RX9_38 (pc := 19) C.1 (some r0) dX9_freeMany_19 h0 h1 ?_
    refine st_iload_n (pc := 22) C.1 dX9_freeMany_22 rfl rfl ?_
    refine sv_iaload (pc := 23) C.1 (h.AI r0 (x3.toNatClampNeg)) dX9_freeMany_23 h2 (h3 c0) rfl ?_
    refine st_iload_n (pc := 24) C.1 dX9_freeMany_24 rfl rfl ?_
    refine st_icmp_ne (pc := 25) (tgt := 32) C.1 dX9_freeMany_25 (by decide) (fun c1 => ?_) (fun c1 => ?_)
    · refine st_iconst (pc := 32) (v := 0) C.1 dX9_freeMany_32 (by decide) ?_
      refine st_iadd (pc := 33) C.1 dX9_freeMany_33 ?_
      refine sv_istore_n (pc := 34) (i := 2) C.1 [some (va_rf (some t)), some (.int x1), some (.int (x2 + 0)), some (.int x3)] dX9_freeMany_34 rfl (Nat.le_of_ble_eq_true rfl) (by rw [C.2.1]; exact Nat.le_of_ble_eq_true rfl) rfl rfl ?_
      refine sv_iinc (pc := 35) (i := 3) (v := x3 + 1) C.1 [some (va_rf (some t)), some (.int x1), some (.int (x2 + 0)), some (.int (x3 + 1))] dX9_freeMany_35 rfl rfl (by rw [C.2.1]; exact Nat.le_of_ble_eq_true rfl) rfl rfl ?_
      refine st_goto (pc := 38) (tgt := 9) C.1 dX9_freeMany_38 (by decide) ?_
      exact (k1 c0 c1)
    · refine st_iconst (pc := 28) (v := 1) C.1 dX9_freeMany_28 (by decide) ?_
      refine st_goto (pc := 29) (tgt := 33) C.1 dX9_freeMany_29 (by decide) ?_
      refine st_iadd (pc := 33) C.1 dX9_freeMany_33 ?_
      refine sv_istore_n (pc := 34) (i := 2) C.1 [some (va_rf (some t)), some (.int x1), some (.int (x2 + 1)), some (.int x3)] dX9_freeMany_34 rfl (Nat.le_of_ble_eq_true rfl) (by rw [C.2.1]; exact Nat.le_of_ble_eq_true rfl) rfl rfl ?_
      refine sv_iinc (pc := 35) (i := 3) (v := x3 + 1) C.1 [some (va_rf (some t)), some (.int x1), some (.int (x2 + 1)), some (.int (x3 + 1))] dX9_freeMany_35 rfl rfl (by rw [C.2.1]; exact Nat.le_of_ble_eq_true rfl) rfl rfl ?_
      refine st_goto (pc := 38) (tgt := 9) C.1 dX9_freeMany_38 (by decide) ?_
      exact (k2 c0 c1)

theorem sgX9_freeAt_0 {X : CX} {d mc ms cells slots : Nat} {pp : Int32 → Hp → Prop} {h : Hp} {t : Nat} {x1 : Int32} {x2 : Int32}  (C : CmI X mX9_freeAt d mc ms pp) (hc : cells ≤ mc) (hs : slots ≤ ms) (h0 : h.K t = 10) (k0 : 0 ≤ x2 → 64 < x1 → At X cells slots 71 [some (va_rf (some t)), some (.int x1), some (.int x2), some (.int 0), none, none] [] (h.sI 903 t 0)) (k1 : 0 ≤ x2 → ¬ 64 < x1 → At X cells slots 27 [some (va_rf (some t)), some (.int x1), some (.int x2), some (.int x2), some (.int ((h.I 915 t) - 1)), none] [] (h.sI 903 t 0)) (k2 : ¬ 0 ≤ x2 → pp (-1) (h.sI 903 t 0)) : At X cells slots 0 [some (va_rf (some t)), some (.int x1), some (.int x2), none, none, none] [] h := by
  refine st_aload_n (pc := 0) C.1 (some t) dX9_freeAt_0 rfl rfl ?_
  refine st_iconst (pc := 1) (v := 0) C.1 dX9_freeAt_1 (by decide) ?_
  refine pI_RX9_85 (pc := 2) C.1 dX9_freeAt_2 h0 ?_
  refine st_iload_n (pc := 5) C.1 dX9_freeAt_5 rfl rfl ?_
  refine st_if_ge (pc := 6) (tgt := 11) C.1 dX9_freeAt_6 (by decide) (fun c0 => ?_) (fun c0 => ?_)
  · refine st_iload_n (pc := 11) C.1 dX9_freeAt_11 rfl rfl ?_
    refine st_bipush (pc := 12) (v := 64) C.1 dX9_freeAt_12 (by decide) ?_
    refine st_icmp_gt (pc := 14) (tgt := 69) C.1 dX9_freeAt_14 (by decide) (fun c1 => ?_) (fun c1 => ?_)
    · refine st_iconst (pc := 69) (v := 0) C.1 dX9_freeAt_69 (by decide) ?_
      refine sv_istore_n (pc := 70) (i := 3) C.1 [some (va_rf (some t)), some (.int x1), some (.int x2), some (.int 0), none, none] dX9_freeAt_70 rfl (Nat.le_of_ble_eq_true rfl) (by rw [C.2.1]; exact Nat.le_of_ble_eq_true rfl) rfl rfl ?_
      exact (k0 c0 c1)
    · refine st_iload_n (pc := 17) C.1 dX9_freeAt_17 rfl rfl ?_
      refine sv_istore_n (pc := 18) (i := 3) C.1 [some (va_rf (some t)), some (.int x1), some (.int x2), some (.int x2), none, none] dX9_freeAt_18 rfl (Nat.le_of_ble_eq_true rfl) (by rw [C.2.1]; exact Nat.le_of_ble_eq_true rfl) rfl rfl ?_
      refine st_aload_n (pc := 19) C.1 (some t) dX9_freeAt_19 rfl rfl ?_
      refine gI_RX9_105 (pc := 20) C.1 (h.I 915 t) dX9_freeAt_20 h0 rfl ?_
      refine st_iconst (pc := 23) (v := 1) C.1 dX9_freeAt_23 (by decide) ?_
      refine st_isub (pc := 24) C.1 dX9_freeAt_24 ?_
      refine sv_istore (pc := 25) (i := 4) C.1 [some (va_rf (some t)), some (.int x1), some (.int x2), some (.int x2), some (.int ((h.I 915 t) - 1)), none] dX9_freeAt_25 (Nat.le_of_ble_eq_true rfl) (by rw [C.2.1]; exact Nat.le_of_ble_eq_true rfl) rfl rfl ?_
      exact (k1 c0 c1)
  · refine st_iconst (pc := 9) (v := (-1)) C.1 dX9_freeAt_9 (by decide) ?_
    exact rt_i C (Or.inl rfl) dX9_freeAt_10 hc hs ⟨_, rfl, (k2 c0)⟩

theorem sgX9_freeAt_27 {X : CX} {d mc ms cells slots : Nat} {pp : Int32 → Hp → Prop} {h : Hp} {t : Nat} {x1 : Int32} {x2 : Int32} {x3 : Int32} {x4 : Int32} {r0 : Nat} {r1 : Nat} (C : CmI X mX9_freeAt d mc ms pp) (hc : cells ≤ mc) (hs : slots ≤ ms) (h0 : h.K t = 10) (h1 : h.R 914 t = some r0) (h2 : h.K r0 = 11) (h3 : ¬ x4 < 0 → vp_in x4 (h.N r0)) (h4 : h.R 913 t = some r1) (h5 : h.K r1 = 11) (h6 : ¬ x4 < 0 → h.AI r0 (x4.toNatClampNeg) = x1 → x3 = 0 → vp_in x4 (h.N r1)) (k0 : x4 < 0 → pp (-1) h) (k1 : ¬ x4 < 0 → h.AI r0 (x4.toNatClampNeg) = x1 → ¬ x3 = 0 → At X cells slots 27 [some (va_rf (some t)), some (.int x1), some (.int x2), some (.int (x3 + (-1))), some (.int (x4 + (-1))), none] [] h) (k2 : ¬ x4 < 0 → h.AI r0 (x4.toNatClampNeg) = x1 → x3 = 0 → pp (h.AI r1 (x4.toNatClampNeg)) h) (k3 : ¬ x4 < 0 → ¬ h.AI r0 (x4.toNatClampNeg) = x1 → At X cells slots 27 [some (va_rf (some t)), some (.int x1), some (.int x2), some (.int x3), some (.int (x4 + (-1))), none] [] h) : At X cells slots 27 [some (va_rf (some t)), some (.int x1), some (.int x2), some (.int x3), some (.int x4), none] [] h := by
  refine st_iload (pc := 27) C.1 dX9_freeAt_27 rfl ?_
  refine st_if_lt (pc := 29) (tgt := 67) C.1 dX9_freeAt_29 (by decide) (fun c0 => ?_) (fun c0 => ?_)
  · refine st_iconst (pc := 67) (v := (-1)) C.1 dX9_freeAt_67 (by decide) ?_
    exact rt_i C (Or.inl rfl) dX9_freeAt_68 hc hs ⟨_, rfl, (k0 c0)⟩
  · refine st_aload_n (pc := 32) C.1 (some t) dX9_freeAt_32 rfl rfl ?_
    refine gR_RX9_38 (pc := 33) C.1 (some r0) dX9_freeAt_33 h0 h1 ?_
    refine st_iload (pc := 36) C.1 dX9_freeAt_36 rfl ?_
    refine sv_iaload (pc := 38) C.1 (h.AI r0 (x4.toNatClampNeg)) dX9_freeAt_38 h2 (h3 c0) rfl ?_
    refine st_iload_n (pc := 39) C.1 dX9_freeAt_39 rfl rfl ?_
    refine st_icmp_eq (pc := 40) (tgt := 46) C.1 dX9_freeAt_40 (by decide) (fun c1 => ?_) (fun c1 => ?_)
    · refine st_iload_n (pc := 46) C.1 dX9_freeAt_46 rfl rfl ?_
      refine st_if_ne (pc := 47) (tgt := 58) C.1 dX9_freeAt_47 (by decide) (fun c2 => ?_) (fun c2 => ?_)
      · refine sv_iinc (pc := 58) (i := 3) (v := x3 + (-1)) C.1 [some (va_rf (some t)), some (.int x1), some (.int x2), some (.int (x3 + (-1))), some (.int x4), none] dX9_freeAt_58 rfl rfl (by rw [C.2.1]; exact Nat.le_of_ble_eq_true rfl) rfl rfl ?_
        refine sv_iinc (pc := 61) (i := 4) (v := x4 + (-1)) C.1 [some (va_rf (some t)), some (.int x1), some (.int x2), some (.int (x3 + (-1))), some (.int (x4 + (-1))), none] dX9_freeAt_61 rfl rfl (by rw [C.2.1]; exact Nat.le_of_ble_eq_true rfl) rfl rfl ?_
        refine st_goto (pc := 64) (tgt := 27) C.1 dX9_freeAt_64 (by decide) ?_
        exact (k1 c0 c1 c2)
      · refine st_aload_n (pc := 50) C.1 (some t) dX9_freeAt_50 rfl rfl ?_
        refine gR_RX9_35 (pc := 51) C.1 (some r1) dX9_freeAt_51 h0 h4 ?_
        refine st_iload (pc := 54) C.1 dX9_freeAt_54 rfl ?_
        refine sv_iaload (pc := 56) C.1 (h.AI r1 (x4.toNatClampNeg)) dX9_freeAt_56 h5 (h6 c0 c1 c2) rfl ?_
        exact rt_i C (Or.inl rfl) dX9_freeAt_57 hc hs ⟨_, rfl, (k2 c0 c1 c2)⟩
    · refine st_goto (pc := 43) (tgt := 61) C.1 dX9_freeAt_43 (by decide) ?_
      refine sv_iinc (pc := 61) (i := 4) (v := x4 + (-1)) C.1 [some (va_rf (some t)), some (.int x1), some (.int x2), some (.int x3), some (.int (x4 + (-1))), none] dX9_freeAt_61 rfl rfl (by rw [C.2.1]; exact Nat.le_of_ble_eq_true rfl) rfl rfl ?_
      refine st_goto (pc := 64) (tgt := 27) C.1 dX9_freeAt_64 (by decide) ?_
      exact (k3 c0 c1)

theorem sgX9_freeAt_71 {X : CX} {d mc ms cells slots : Nat} {pp : Int32 → Hp → Prop} {h : Hp} {t : Nat} {x1 : Int32} {x2 : Int32} {x3 : Int32}  (C : CmI X mX9_freeAt d mc ms pp) (hc : cells ≤ mc) (hs : slots ≤ ms) (h0 : h.K t = 10) (k0 : h.I 915 t ≤ x3 → pp (-1) h) (k1 : ¬ h.I 915 t ≤ x3 → At X cells slots 85 [some (va_rf (some t)), some (.int x1), some (.int x2), some (.int x3), some (.int 0), some (.int 0)] [] h) : At X cells slots 71 [some (va_rf (some t)), some (.int x1), some (.int x2), some (.int x3), none, none] [] h := by
  refine st_iload_n (pc := 71) C.1 dX9_freeAt_71 rfl rfl ?_
  refine st_aload_n (pc := 72) C.1 (some t) dX9_freeAt_72 rfl rfl ?_
  refine gI_RX9_105 (pc := 73) C.1 (h.I 915 t) dX9_freeAt_73 h0 rfl ?_
  refine st_icmp_ge (pc := 76) (tgt := 166) C.1 dX9_freeAt_76 (by decide) (fun c0 => ?_) (fun c0 => ?_)
  · refine st_iconst (pc := 166) (v := (-1)) C.1 dX9_freeAt_166 (by decide) ?_
    exact rt_i C (Or.inl rfl) dX9_freeAt_167 hc hs ⟨_, rfl, (k0 c0)⟩
  · refine st_iconst (pc := 79) (v := 0) C.1 dX9_freeAt_79 (by decide) ?_
    refine sv_istore (pc := 80) (i := 4) C.1 [some (va_rf (some t)), some (.int x1), some (.int x2), some (.int x3), some (.int 0), none] dX9_freeAt_80 (Nat.le_of_ble_eq_true rfl) (by rw [C.2.1]; exact Nat.le_of_ble_eq_true rfl) rfl rfl ?_
    refine st_iconst (pc := 82) (v := 0) C.1 dX9_freeAt_82 (by decide) ?_
    refine sv_istore (pc := 83) (i := 5) C.1 [some (va_rf (some t)), some (.int x1), some (.int x2), some (.int x3), some (.int 0), some (.int 0)] dX9_freeAt_83 (Nat.le_of_ble_eq_true rfl) (by rw [C.2.1]; exact Nat.le_of_ble_eq_true rfl) rfl rfl ?_
    exact (k1 c0)

theorem sgX9_freeAt_85 {X : CX} {d mc ms cells slots : Nat} {pp : Int32 → Hp → Prop} {h : Hp} {t : Nat} {x1 : Int32} {x2 : Int32} {x3 : Int32} {x4 : Int32} {x5 : Int32} {r0 : Nat} {r1 : Nat} (C : CmI X mX9_freeAt d mc ms pp) (hc : cells ≤ mc) (hs : slots ≤ ms) (h0 : h.K t = 10) (h1 : h.R 914 t = some r0) (h2 : h.K r0 = 11) (h3 : h.I 915 t ≤ x5 → vp_in x3 (h.N r0)) (h4 : h.R 913 t = some r1) (h5 : h.K r1 = 11) (h6 : h.I 915 t ≤ x5 → h.AI r0 (x3.toNatClampNeg) = x1 → x4 = x2 → vp_in x3 (h.N r1)) (h7 : ¬ h.I 915 t ≤ x5 → vp_in x5 (h.N r0)) (h8 : ¬ h.I 915 t ≤ x5 → h.AI r0 (x5.toNatClampNeg) = x1 → vp_in x5 (h.N r1)) (h9 : ¬ h.I 915 t ≤ x5 → h.AI r0 (x5.toNatClampNeg) = x1 → vp_in x3 (h.N r1)) (k0 : h.I 915 t ≤ x5 → ¬ h.AI r0 (x3.toNatClampNeg) = x1 → At X cells slots 71 [some (va_rf (some t)), some (.int x1), some (.int x2), some (.int (x3 + 1)), some (.int x4), some (.int x5)] [] h) (k1 : h.I 915 t ≤ x5 → h.AI r0 (x3.toNatClampNeg) = x1 → ¬ x4 = x2 → At X cells slots 71 [some (va_rf (some t)), some (.int x1), some (.int x2), some (.int (x3 + 1)), some (.int x4), some (.int x5)] [] h) (k2 : h.I 915 t ≤ x5 → h.AI r0 (x3.toNatClampNeg) = x1 → x4 = x2 → pp (h.AI r1 (x3.toNatClampNeg)) h) (k3 : ¬ h.I 915 t ≤ x5 → ¬ h.AI r0 (x5.toNatClampNeg) = x1 → At X cells slots 85 [some (va_rf (some t)), some (.int x1), some (.int x2), some (.int x3), some (.int (x4 + 0)), some (.int (x5 + 1))] [] h) (k4 : ¬ h.I 915 t ≤ x5 → h.AI r0 (x5.toNatClampNeg) = x1 → h.AI r1 (x3.toNatClampNeg) ≤ h.AI r1 (x5.toNatClampNeg) → At X cells slots 85 [some (va_rf (some t)), some (.int x1), some (.int x2), some (.int x3), some (.int (x4 + 0)), some (.int (x5 + 1))] [] h) (k5 : ¬ h.I 915 t ≤ x5 → h.AI r0 (x5.toNatClampNeg) = x1 → ¬ h.AI r1 (x3.toNatClampNeg) ≤ h.AI r1 (x5.toNatClampNeg) → At X cells slots 85 [some (va_rf (some t)), some (.int x1), some (.int x2), some (.int x3), some (.int (x4 + 1)), some (.int (x5 + 1))] [] h) : At X cells slots 85 [some (va_rf (some t)), some (.int x1), some (.int x2), some (.int x3), some (.int x4), some (.int x5)] [] h := by
  refine st_iload (pc := 85) C.1 dX9_freeAt_85 rfl ?_
  refine st_aload_n (pc := 87) C.1 (some t) dX9_freeAt_87 rfl rfl ?_
  refine gI_RX9_105 (pc := 88) C.1 (h.I 915 t) dX9_freeAt_88 h0 rfl ?_
  refine st_icmp_ge (pc := 91) (tgt := 137) C.1 dX9_freeAt_91 (by decide) (fun c0 => ?_) (fun c0 => ?_)
  · refine st_aload_n (pc := 137) C.1 (some t) dX9_freeAt_137 rfl rfl ?_
    refine gR_RX9_38 (pc := 138) C.1 (some r0) dX9_freeAt_138 h0 h1 ?_
    refine st_iload_n (pc := 141) C.1 dX9_freeAt_141 rfl rfl ?_
    refine sv_iaload (pc := 142) C.1 (h.AI r0 (x3.toNatClampNeg)) dX9_freeAt_142 h2 (h3 c0) rfl ?_
    refine st_iload_n (pc := 143) C.1 dX9_freeAt_143 rfl rfl ?_
    refine st_icmp_ne (pc := 144) (tgt := 160) C.1 dX9_freeAt_144 (by decide) (fun c1 => ?_) (fun c1 => ?_)
    · refine sv_iinc (pc := 160) (i := 3) (v := x3 + 1) C.1 [some (va_rf (some t)), some (.int x1), some (.int x2), some (.int (x3 + 1)), some (.int x4), some (.int x5)] dX9_freeAt_160 rfl rfl (by rw [C.2.1]; exact Nat.le_of_ble_eq_true rfl) rfl rfl ?_
      refine st_goto (pc := 163) (tgt := 71) C.1 dX9_freeAt_163 (by decide) ?_
      exact (k0 c0 c1)
    · refine st_iload (pc := 147) C.1 dX9_freeAt_147 rfl ?_
      refine st_iload_n (pc := 149) C.1 dX9_freeAt_149 rfl rfl ?_
      refine st_icmp_ne (pc := 150) (tgt := 160) C.1 dX9_freeAt_150 (by decide) (fun c2 => ?_) (fun c2 => ?_)
      · refine sv_iinc (pc := 160) (i := 3) (v := x3 + 1) C.1 [some (va_rf (some t)), some (.int x1), some (.int x2), some (.int (x3 + 1)), some (.int x4), some (.int x5)] dX9_freeAt_160 rfl rfl (by rw [C.2.1]; exact Nat.le_of_ble_eq_true rfl) rfl rfl ?_
        refine st_goto (pc := 163) (tgt := 71) C.1 dX9_freeAt_163 (by decide) ?_
        exact (k1 c0 c1 c2)
      · refine st_aload_n (pc := 153) C.1 (some t) dX9_freeAt_153 rfl rfl ?_
        refine gR_RX9_35 (pc := 154) C.1 (some r1) dX9_freeAt_154 h0 h4 ?_
        refine st_iload_n (pc := 157) C.1 dX9_freeAt_157 rfl rfl ?_
        refine sv_iaload (pc := 158) C.1 (h.AI r1 (x3.toNatClampNeg)) dX9_freeAt_158 h5 (h6 c0 c1 c2) rfl ?_
        exact rt_i C (Or.inl rfl) dX9_freeAt_159 hc hs ⟨_, rfl, (k2 c0 c1 c2)⟩
  · refine st_iload (pc := 94) C.1 dX9_freeAt_94 rfl ?_
    refine st_aload_n (pc := 96) C.1 (some t) dX9_freeAt_96 rfl rfl ?_
    refine gR_RX9_38 (pc := 97) C.1 (some r0) dX9_freeAt_97 h0 h1 ?_
    refine st_iload (pc := 100) C.1 dX9_freeAt_100 rfl ?_
    refine sv_iaload (pc := 102) C.1 (h.AI r0 (x5.toNatClampNeg)) dX9_freeAt_102 h2 (h7 c0) rfl ?_
    refine st_iload_n (pc := 103) C.1 dX9_freeAt_103 rfl rfl ?_
    refine st_icmp_ne (pc := 104) (tgt := 127) C.1 dX9_freeAt_104 (by decide) (fun c3 => ?_) (fun c3 => ?_)
    · refine st_iconst (pc := 127) (v := 0) C.1 dX9_freeAt_127 (by decide) ?_
      refine st_iadd (pc := 128) C.1 dX9_freeAt_128 ?_
      refine sv_istore (pc := 129) (i := 4) C.1 [some (va_rf (some t)), some (.int x1), some (.int x2), some (.int x3), some (.int (x4 + 0)), some (.int x5)] dX9_freeAt_129 (Nat.le_of_ble_eq_true rfl) (by rw [C.2.1]; exact Nat.le_of_ble_eq_true rfl) rfl rfl ?_
      refine sv_iinc (pc := 131) (i := 5) (v := x5 + 1) C.1 [some (va_rf (some t)), some (.int x1), some (.int x2), some (.int x3), some (.int (x4 + 0)), some (.int (x5 + 1))] dX9_freeAt_131 rfl rfl (by rw [C.2.1]; exact Nat.le_of_ble_eq_true rfl) rfl rfl ?_
      refine st_goto (pc := 134) (tgt := 85) C.1 dX9_freeAt_134 (by decide) ?_
      exact (k3 c0 c3)
    · refine st_aload_n (pc := 107) C.1 (some t) dX9_freeAt_107 rfl rfl ?_
      refine gR_RX9_35 (pc := 108) C.1 (some r1) dX9_freeAt_108 h0 h4 ?_
      refine st_iload (pc := 111) C.1 dX9_freeAt_111 rfl ?_
      refine sv_iaload (pc := 113) C.1 (h.AI r1 (x5.toNatClampNeg)) dX9_freeAt_113 h5 (h8 c0 c3) rfl ?_
      refine st_aload_n (pc := 114) C.1 (some t) dX9_freeAt_114 rfl rfl ?_
      refine gR_RX9_35 (pc := 115) C.1 (some r1) dX9_freeAt_115 h0 h4 ?_
      refine st_iload_n (pc := 118) C.1 dX9_freeAt_118 rfl rfl ?_
      refine sv_iaload (pc := 119) C.1 (h.AI r1 (x3.toNatClampNeg)) dX9_freeAt_119 h5 (h9 c0 c3) rfl ?_
      refine st_icmp_ge (pc := 120) (tgt := 127) C.1 dX9_freeAt_120 (by decide) (fun c4 => ?_) (fun c4 => ?_)
      · refine st_iconst (pc := 127) (v := 0) C.1 dX9_freeAt_127 (by decide) ?_
        refine st_iadd (pc := 128) C.1 dX9_freeAt_128 ?_
        refine sv_istore (pc := 129) (i := 4) C.1 [some (va_rf (some t)), some (.int x1), some (.int x2), some (.int x3), some (.int (x4 + 0)), some (.int x5)] dX9_freeAt_129 (Nat.le_of_ble_eq_true rfl) (by rw [C.2.1]; exact Nat.le_of_ble_eq_true rfl) rfl rfl ?_
        refine sv_iinc (pc := 131) (i := 5) (v := x5 + 1) C.1 [some (va_rf (some t)), some (.int x1), some (.int x2), some (.int x3), some (.int (x4 + 0)), some (.int (x5 + 1))] dX9_freeAt_131 rfl rfl (by rw [C.2.1]; exact Nat.le_of_ble_eq_true rfl) rfl rfl ?_
        refine st_goto (pc := 134) (tgt := 85) C.1 dX9_freeAt_134 (by decide) ?_
        exact (k4 c0 c3 c4)
      · refine st_iconst (pc := 123) (v := 1) C.1 dX9_freeAt_123 (by decide) ?_
        refine st_goto (pc := 124) (tgt := 128) C.1 dX9_freeAt_124 (by decide) ?_
        refine st_iadd (pc := 128) C.1 dX9_freeAt_128 ?_
        refine sv_istore (pc := 129) (i := 4) C.1 [some (va_rf (some t)), some (.int x1), some (.int x2), some (.int x3), some (.int (x4 + 1)), some (.int x5)] dX9_freeAt_129 (Nat.le_of_ble_eq_true rfl) (by rw [C.2.1]; exact Nat.le_of_ble_eq_true rfl) rfl rfl ?_
        refine sv_iinc (pc := 131) (i := 5) (v := x5 + 1) C.1 [some (va_rf (some t)), some (.int x1), some (.int x2), some (.int x3), some (.int (x4 + 1)), some (.int (x5 + 1))] dX9_freeAt_131 rfl rfl (by rw [C.2.1]; exact Nat.le_of_ble_eq_true rfl) rfl rfl ?_
        refine st_goto (pc := 134) (tgt := 85) C.1 dX9_freeAt_134 (by decide) ?_
        exact (k5 c0 c3 c4)

theorem sgX9_waiting_0 {X : CX} {d mc ms cells slots : Nat} {pp : Int32 → Hp → Prop} {h : Hp} {t : Nat} {x1 : Int32}  (C : CmI X mX9_waiting d mc ms pp) (h0 : h.K t = 10) (k0 : At X cells slots 7 [some (va_rf (some t)), some (.int x1), some (.int 0), none, none] [] (h.sI 903 t 0)) : At X cells slots 0 [some (va_rf (some t)), some (.int x1), none, none, none] [] h := by
  refine st_aload_n (pc := 0) C.1 (some t) dX9_waiting_0 rfl rfl ?_
  refine st_iconst (pc := 1) (v := 0) C.1 dX9_waiting_1 (by decide) ?_
  refine pI_RX9_85 (pc := 2) C.1 dX9_waiting_2 h0 ?_
  refine st_iconst (pc := 5) (v := 0) C.1 dX9_waiting_5 (by decide) ?_
  refine sv_istore_n (pc := 6) (i := 2) C.1 [some (va_rf (some t)), some (.int x1), some (.int 0), none, none] dX9_waiting_6 rfl (Nat.le_of_ble_eq_true rfl) (by rw [C.2.1]; exact Nat.le_of_ble_eq_true rfl) rfl rfl ?_
  exact k0

theorem sgX9_waiting_7 {X : CX} {d mc ms cells slots : Nat} {pp : Int32 → Hp → Prop} {h : Hp} {t : Nat} {x1 : Int32} {x2 : Int32}  (C : CmI X mX9_waiting d mc ms pp) (hc : cells ≤ mc) (hs : slots ≤ ms) (h0 : h.K t = 10) (k0 : h.I 912 t ≤ x2 → pp (-1) h) (k1 : ¬ h.I 912 t ≤ x2 → At X cells slots 17 [some (va_rf (some t)), some (.int x1), some (.int x2), none, none] [.int x2, va_rf (some t)] h) : At X cells slots 7 [some (va_rf (some t)), some (.int x1), some (.int x2), none, none] [] h := by
  refine st_iload_n (pc := 7) C.1 dX9_waiting_7 rfl rfl ?_
  refine st_aload_n (pc := 8) C.1 (some t) dX9_waiting_8 rfl rfl ?_
  refine gI_RX9_88 (pc := 9) C.1 (h.I 912 t) dX9_waiting_9 h0 rfl ?_
  refine st_icmp_ge (pc := 12) (tgt := 96) C.1 dX9_waiting_12 (by decide) (fun c0 => ?_) (fun c0 => ?_)
  · refine st_iconst (pc := 96) (v := (-1)) C.1 dX9_waiting_96 (by decide) ?_
    exact rt_i C (Or.inl rfl) dX9_waiting_97 hc hs ⟨_, rfl, (k0 c0)⟩
  · refine st_aload_n (pc := 15) C.1 (some t) dX9_waiting_15 rfl rfl ?_
    refine st_iload_n (pc := 16) C.1 dX9_waiting_16 rfl rfl ?_
    exact (k1 c0)

theorem sgX9_waiting_20 {X : CX} {d mc ms cells slots : Nat} {pp : Int32 → Hp → Prop} {h : Hp} {t : Nat} {x1 : Int32} {x2 : Int32} {u0 : Int32}  (C : CmI X mX9_waiting d mc ms pp)  (k0 : u0 = 0 → At X cells slots 31 [some (va_rf (some t)), some (.int x1), some (.int x2), some (.int 0), some (.int 0)] [] h) (k1 : ¬ u0 = 0 → At X cells slots 7 [some (va_rf (some t)), some (.int x1), some (.int (x2 + 1)), none, none] [] h) : At X cells slots 20 [some (va_rf (some t)), some (.int x1), some (.int x2), none, none] [.int u0] h := by
  refine st_if_eq (pc := 20) (tgt := 26) C.1 dX9_waiting_20 (by decide) (fun c0 => ?_) (fun c0 => ?_)
  · refine st_iconst (pc := 26) (v := 0) C.1 dX9_waiting_26 (by decide) ?_
    refine sv_istore_n (pc := 27) (i := 3) C.1 [some (va_rf (some t)), some (.int x1), some (.int x2), some (.int 0), none] dX9_waiting_27 rfl (Nat.le_of_ble_eq_true rfl) (by rw [C.2.1]; exact Nat.le_of_ble_eq_true rfl) rfl rfl ?_
    refine st_iconst (pc := 28) (v := 0) C.1 dX9_waiting_28 (by decide) ?_
    refine sv_istore (pc := 29) (i := 4) C.1 [some (va_rf (some t)), some (.int x1), some (.int x2), some (.int 0), some (.int 0)] dX9_waiting_29 (Nat.le_of_ble_eq_true rfl) (by rw [C.2.1]; exact Nat.le_of_ble_eq_true rfl) rfl rfl ?_
    exact (k0 c0)
  · refine st_goto (pc := 23) (tgt := 90) C.1 dX9_waiting_23 (by decide) ?_
    refine sv_iinc (pc := 90) (i := 2) (v := x2 + 1) C.1 [some (va_rf (some t)), some (.int x1), some (.int (x2 + 1)), none, none] dX9_waiting_90 rfl rfl (by rw [C.2.1]; exact Nat.le_of_ble_eq_true rfl) rfl rfl ?_
    refine st_goto (pc := 93) (tgt := 7) C.1 dX9_waiting_93 (by decide) ?_
    exact (k1 c0)

theorem sgX9_waiting_31 {X : CX} {d mc ms cells slots : Nat} {pp : Int32 → Hp → Prop} {h : Hp} {t : Nat} {x1 : Int32} {x2 : Int32} {x3 : Int32} {x4 : Int32}  (C : CmI X mX9_waiting d mc ms pp) (h0 : h.K t = 10) (k0 : h.I 912 t ≤ x4 → ¬ x3 = x1 → At X cells slots 7 [some (va_rf (some t)), some (.int x1), some (.int (x2 + 1)), some (.int x3), some (.int x4)] [] h) (k1 : h.I 912 t ≤ x4 → x3 = x1 → At X cells slots 86 [some (va_rf (some t)), some (.int x1), some (.int x2), some (.int x3), some (.int x4)] [.int x2, va_rf (some t)] h) (k2 : ¬ h.I 912 t ≤ x4 → At X cells slots 44 [some (va_rf (some t)), some (.int x1), some (.int x2), some (.int x3), some (.int x4)] [.int x4, va_rf (some t), .int x3] h) : At X cells slots 31 [some (va_rf (some t)), some (.int x1), some (.int x2), some (.int x3), some (.int x4)] [] h := by
  refine st_iload (pc := 31) C.1 dX9_waiting_31 rfl ?_
  refine st_aload_n (pc := 33) C.1 (some t) dX9_waiting_33 rfl rfl ?_
  refine gI_RX9_88 (pc := 34) C.1 (h.I 912 t) dX9_waiting_34 h0 rfl ?_
  refine st_icmp_ge (pc := 37) (tgt := 79) C.1 dX9_waiting_37 (by decide) (fun c0 => ?_) (fun c0 => ?_)
  · refine st_iload_n (pc := 79) C.1 dX9_waiting_79 rfl rfl ?_
    refine st_iload_n (pc := 80) C.1 dX9_waiting_80 rfl rfl ?_
    refine st_icmp_ne (pc := 81) (tgt := 90) C.1 dX9_waiting_81 (by decide) (fun c1 => ?_) (fun c1 => ?_)
    · refine sv_iinc (pc := 90) (i := 2) (v := x2 + 1) C.1 [some (va_rf (some t)), some (.int x1), some (.int (x2 + 1)), some (.int x3), some (.int x4)] dX9_waiting_90 rfl rfl (by rw [C.2.1]; exact Nat.le_of_ble_eq_true rfl) rfl rfl ?_
      refine st_goto (pc := 93) (tgt := 7) C.1 dX9_waiting_93 (by decide) ?_
      exact (k0 c0 c1)
    · refine st_aload_n (pc := 84) C.1 (some t) dX9_waiting_84 rfl rfl ?_
      refine st_iload_n (pc := 85) C.1 dX9_waiting_85 rfl rfl ?_
      exact (k1 c0 c1)
  · refine st_iload_n (pc := 40) C.1 dX9_waiting_40 rfl rfl ?_
    refine st_aload_n (pc := 41) C.1 (some t) dX9_waiting_41 rfl rfl ?_
    refine st_iload (pc := 42) C.1 dX9_waiting_42 rfl ?_
    exact (k2 c0)

theorem sgX9_waiting_47 {X : CX} {d mc ms cells slots : Nat} {pp : Int32 → Hp → Prop} {h : Hp} {t : Nat} {x1 : Int32} {x2 : Int32} {x3 : Int32} {x4 : Int32} {u0 : Int32} {u1 : Int32} {r0 : Nat} (C : CmI X mX9_waiting d mc ms pp) (h0 : h.K t = 10) (h1 : h.R 911 t = some r0) (h2 : h.K r0 = 11) (h3 : u0 = 0 → vp_in x4 (h.N r0)) (h4 : u0 = 0 → vp_in x2 (h.N r0)) (k0 : ¬ u0 = 0 → At X cells slots 31 [some (va_rf (some t)), some (.int x1), some (.int x2), some (.int (u1 + 0)), some (.int (x4 + 1))] [] h) (k1 : u0 = 0 → h.AI r0 (x2.toNatClampNeg) ≤ h.AI r0 (x4.toNatClampNeg) → At X cells slots 31 [some (va_rf (some t)), some (.int x1), some (.int x2), some (.int (u1 + 0)), some (.int (x4 + 1))] [] h) (k2 : u0 = 0 → ¬ h.AI r0 (x2.toNatClampNeg) ≤ h.AI r0 (x4.toNatClampNeg) → At X cells slots 31 [some (va_rf (some t)), some (.int x1), some (.int x2), some (.int (u1 + 1)), some (.int (x4 + 1))] [] h) : At X cells slots 47 [some (va_rf (some t)), some (.int x1), some (.int x2), some (.int x3), some (.int x4)] [.int u0, .int u1] h := by
  refine st_if_ne (pc := 47) (tgt := 70) C.1 dX9_waiting_47 (by decide) (fun c0 => ?_) (fun c0 => ?_)
  · refine st_iconst (pc := 70) (v := 0) C.1 dX9_waiting_70 (by decide) ?_
    refine st_iadd (pc := 71) C.1 dX9_waiting_71 ?_
    refine sv_istore_n (pc := 72) (i := 3) C.1 [some (va_rf (some t)), some (.int x1), some (.int x2), some (.int (u1 + 0)), some (.int x4)] dX9_waiting_72 rfl (Nat.le_of_ble_eq_true rfl) (by rw [C.2.1]; exact Nat.le_of_ble_eq_true rfl) rfl rfl ?_
    refine sv_iinc (pc := 73) (i := 4) (v := x4 + 1) C.1 [some (va_rf (some t)), some (.int x1), some (.int x2), some (.int (u1 + 0)), some (.int (x4 + 1))] dX9_waiting_73 rfl rfl (by rw [C.2.1]; exact Nat.le_of_ble_eq_true rfl) rfl rfl ?_
    refine st_goto (pc := 76) (tgt := 31) C.1 dX9_waiting_76 (by decide) ?_
    exact (k0 c0)
  · refine st_aload_n (pc := 50) C.1 (some t) dX9_waiting_50 rfl rfl ?_
    refine gR_RX9_32 (pc := 51) C.1 (some r0) dX9_waiting_51 h0 h1 ?_
    refine st_iload (pc := 54) C.1 dX9_waiting_54 rfl ?_
    refine sv_iaload (pc := 56) C.1 (h.AI r0 (x4.toNatClampNeg)) dX9_waiting_56 h2 (h3 c0) rfl ?_
    refine st_aload_n (pc := 57) C.1 (some t) dX9_waiting_57 rfl rfl ?_
    refine gR_RX9_32 (pc := 58) C.1 (some r0) dX9_waiting_58 h0 h1 ?_
    refine st_iload_n (pc := 61) C.1 dX9_waiting_61 rfl rfl ?_
    refine sv_iaload (pc := 62) C.1 (h.AI r0 (x2.toNatClampNeg)) dX9_waiting_62 h2 (h4 c0) rfl ?_
    refine st_icmp_ge (pc := 63) (tgt := 70) C.1 dX9_waiting_63 (by decide) (fun c1 => ?_) (fun c1 => ?_)
    · refine st_iconst (pc := 70) (v := 0) C.1 dX9_waiting_70 (by decide) ?_
      refine st_iadd (pc := 71) C.1 dX9_waiting_71 ?_
      refine sv_istore_n (pc := 72) (i := 3) C.1 [some (va_rf (some t)), some (.int x1), some (.int x2), some (.int (u1 + 0)), some (.int x4)] dX9_waiting_72 rfl (Nat.le_of_ble_eq_true rfl) (by rw [C.2.1]; exact Nat.le_of_ble_eq_true rfl) rfl rfl ?_
      refine sv_iinc (pc := 73) (i := 4) (v := x4 + 1) C.1 [some (va_rf (some t)), some (.int x1), some (.int x2), some (.int (u1 + 0)), some (.int (x4 + 1))] dX9_waiting_73 rfl rfl (by rw [C.2.1]; exact Nat.le_of_ble_eq_true rfl) rfl rfl ?_
      refine st_goto (pc := 76) (tgt := 31) C.1 dX9_waiting_76 (by decide) ?_
      exact (k1 c0 c1)
    · refine st_iconst (pc := 66) (v := 1) C.1 dX9_waiting_66 (by decide) ?_
      refine st_goto (pc := 67) (tgt := 71) C.1 dX9_waiting_67 (by decide) ?_
      refine st_iadd (pc := 71) C.1 dX9_waiting_71 ?_
      refine sv_istore_n (pc := 72) (i := 3) C.1 [some (va_rf (some t)), some (.int x1), some (.int x2), some (.int (u1 + 1)), some (.int x4)] dX9_waiting_72 rfl (Nat.le_of_ble_eq_true rfl) (by rw [C.2.1]; exact Nat.le_of_ble_eq_true rfl) rfl rfl ?_
      refine sv_iinc (pc := 73) (i := 4) (v := x4 + 1) C.1 [some (va_rf (some t)), some (.int x1), some (.int x2), some (.int (u1 + 1)), some (.int (x4 + 1))] dX9_waiting_73 rfl rfl (by rw [C.2.1]; exact Nat.le_of_ble_eq_true rfl) rfl rfl ?_
      refine st_goto (pc := 76) (tgt := 31) C.1 dX9_waiting_76 (by decide) ?_
      exact (k2 c0 c1)

theorem sgX9_waiting_89 {X : CX} {d mc ms cells slots : Nat} {pp : Int32 → Hp → Prop} {h : Hp} {t : Nat} {x1 : Int32} {x2 : Int32} {x3 : Int32} {x4 : Int32} {u0 : Int32}  (C : CmI X mX9_waiting d mc ms pp) (hc : cells ≤ mc) (hs : slots ≤ ms)  (k0 : pp u0 h) : At X cells slots 89 [some (va_rf (some t)), some (.int x1), some (.int x2), some (.int x3), some (.int x4)] [.int u0] h := by
  exact rt_i C (Or.inl rfl) dX9_waiting_89 hc hs ⟨_, rfl, k0⟩

theorem clX9_waiting_17 {X : CX} {d0 mc0 ms0 d mc ms cells slots : Nat} {pp : Int32 → Hp → Prop} {h : Hp} {ls : List (Option Value)} {rest : List Value} {b : Nat} {a0 : Value} {post : Int32 → Hp → Prop} (C : CmI X mX9_waiting d0 mc0 ms0 pp) (hct : CtI mX9_isLive d mc ms [va_rf (some b), a0] h post) (hK : h.K b = 10) (hdd : d < d0) (hmc : cells + mc ≤ mc0) (hms : slots + ms ≤ ms0) (hcat : (rest.map fun v => v.category).sum ≤ 8) (kk : ∀ r h', post r h' → At X (cells + mc) (slots + ms) 20 ls (.int r :: rest) h') : At X cells slots 17 ls (a0 :: va_rf (some b) :: rest) h :=
  st_callV (pc := 17) (M := mX9_isLive) (idx := 98) (As := [a0]) C.1 C.2.2.1 C.2.2.2.2.2.2 ⟨wM_RX9_98, wC_X9_isLive, wI_RX9, by decide +kernel, by decide⟩ wV_X9_isLive wS_X9_isLive (ci := 9) (n := 1) rfl rfl (by decide) dX9_waiting_17 rfl hdd hcat hK hct hmc hms (fun v h2 hp => by obtain ⟨r, rfl, hp⟩ := hp; exact kk r h2 hp)
theorem clX9_waiting_44 {X : CX} {d0 mc0 ms0 d mc ms cells slots : Nat} {pp : Int32 → Hp → Prop} {h : Hp} {ls : List (Option Value)} {rest : List Value} {b : Nat} {a0 : Value} {post : Int32 → Hp → Prop} (C : CmI X mX9_waiting d0 mc0 ms0 pp) (hct : CtI mX9_isLive d mc ms [va_rf (some b), a0] h post) (hK : h.K b = 10) (hdd : d < d0) (hmc : cells + mc ≤ mc0) (hms : slots + ms ≤ ms0) (hcat : (rest.map fun v => v.category).sum ≤ 8) (kk : ∀ r h', post r h' → At X (cells + mc) (slots + ms) 47 ls (.int r :: rest) h') : At X cells slots 44 ls (a0 :: va_rf (some b) :: rest) h :=
  st_callV (pc := 44) (M := mX9_isLive) (idx := 98) (As := [a0]) C.1 C.2.2.1 C.2.2.2.2.2.2 ⟨wM_RX9_98, wC_X9_isLive, wI_RX9, by decide +kernel, by decide⟩ wV_X9_isLive wS_X9_isLive (ci := 9) (n := 1) rfl rfl (by decide) dX9_waiting_44 rfl hdd hcat hK hct hmc hms (fun v h2 hp => by obtain ⟨r, rfl, hp⟩ := hp; exact kk r h2 hp)
theorem clX9_waiting_86 {X : CX} {d0 mc0 ms0 d mc ms cells slots : Nat} {pp : Int32 → Hp → Prop} {h : Hp} {ls : List (Option Value)} {rest : List Value} {b : Nat} {a0 : Value} {post : Int32 → Hp → Prop} (C : CmI X mX9_waiting d0 mc0 ms0 pp) (hct : CtI mX9_start d mc ms [va_rf (some b), a0] h post) (hK : h.K b = 10) (hdd : d < d0) (hmc : cells + mc ≤ mc0) (hms : slots + ms ≤ ms0) (hcat : (rest.map fun v => v.category).sum ≤ 8) (kk : ∀ r h', post r h' → At X (cells + mc) (slots + ms) 89 ls (.int r :: rest) h') : At X cells slots 86 ls (a0 :: va_rf (some b) :: rest) h :=
  st_callV (pc := 86) (M := mX9_start) (idx := 91) (As := [a0]) C.1 C.2.2.1 C.2.2.2.2.2.2 ⟨wM_RX9_91, wC_X9_start, wI_RX9, by decide +kernel, by decide⟩ wV_X9_start wS_X9_start (ci := 9) (n := 1) rfl rfl (by decide) dX9_waiting_86 rfl hdd hcat hK hct hmc hms (fun v h2 hp => by obtain ⟨r, rfl, hp⟩ := hp; exact kk r h2 hp)
theorem sgX9_fault_0 {X : CX} {d mc ms cells slots : Nat} {pp : Int32 → Hp → Prop} {h : Hp} {t : Nat} {x1 : Int32} {x2 : Int32} {r0 : Nat} {r1 : Nat} (C : CmI X mX9_fault d mc ms pp) (hc : cells ≤ mc) (hs : slots ≤ ms) (h0 : h.K t = 10) (h1 : h.R 924 t = some r0) (h2 : h.K r0 = 11) (h3 : ¬ x1 < 0 → ¬ h.I 921 t ≤ x1 → ¬ 32 ≤ x1 → x2 = 0 → ¬ x2 = 0 → vp_in ((((h.I 921 t) - 1) - x1) - (((h.I 921 t) - 1) - x1) / 32 * 32) (h.N r0)) (h4 : h.R 923 t = some r1) (h5 : h.K r1 = 11) (h6 : ¬ x1 < 0 → ¬ h.I 921 t ≤ x1 → ¬ 32 ≤ x1 → x2 = 0 → x2 = 0 → vp_in ((((h.I 921 t) - 1) - x1) - (((h.I 921 t) - 1) - x1) / 32 * 32) (h.N r1)) (h7 : ¬ x1 < 0 → ¬ h.I 921 t ≤ x1 → ¬ 32 ≤ x1 → ¬ x2 = 0 → x2 = 1 → ¬ x2 = 0 → vp_in ((((h.I 921 t) - 1) - x1) - (((h.I 921 t) - 1) - x1) / 32 * 32) (h.N r0)) (h8 : ¬ x1 < 0 → ¬ h.I 921 t ≤ x1 → ¬ 32 ≤ x1 → ¬ x2 = 0 → x2 = 1 → x2 = 0 → vp_in ((((h.I 921 t) - 1) - x1) - (((h.I 921 t) - 1) - x1) / 32 * 32) (h.N r1)) (k0 : x1 < 0 → pp 0 (h.sI 903 t 1)) (k1 : ¬ x1 < 0 → h.I 921 t ≤ x1 → pp 0 (h.sI 903 t 1)) (k2 : ¬ x1 < 0 → ¬ h.I 921 t ≤ x1 → 32 ≤ x1 → pp 0 (h.sI 903 t 1)) (k3 : ¬ x1 < 0 → ¬ h.I 921 t ≤ x1 → ¬ 32 ≤ x1 → x2 = 0 → ¬ x2 = 0 → pp (h.AI r0 (((((h.I 921 t) - 1) - x1) - (((h.I 921 t) - 1) - x1) / 32 * 32).toNatClampNeg)) (h.sI 903 t 0)) (k4 : ¬ x1 < 0 → ¬ h.I 921 t ≤ x1 → ¬ 32 ≤ x1 → x2 = 0 → x2 = 0 → pp (h.AI r1 (((((h.I 921 t) - 1) - x1) - (((h.I 921 t) - 1) - x1) / 32 * 32).toNatClampNeg)) (h.sI 903 t 0)) (k5 : ¬ x1 < 0 → ¬ h.I 921 t ≤ x1 → ¬ 32 ≤ x1 → ¬ x2 = 0 → ¬ x2 = 1 → pp 0 (h.sI 903 t 1)) (k6 : ¬ x1 < 0 → ¬ h.I 921 t ≤ x1 → ¬ 32 ≤ x1 → ¬ x2 = 0 → x2 = 1 → ¬ x2 = 0 → pp (h.AI r0 (((((h.I 921 t) - 1) - x1) - (((h.I 921 t) - 1) - x1) / 32 * 32).toNatClampNeg)) (h.sI 903 t 0)) (k7 : ¬ x1 < 0 → ¬ h.I 921 t ≤ x1 → ¬ 32 ≤ x1 → ¬ x2 = 0 → x2 = 1 → x2 = 0 → pp (h.AI r1 (((((h.I 921 t) - 1) - x1) - (((h.I 921 t) - 1) - x1) / 32 * 32).toNatClampNeg)) (h.sI 903 t 0)) : At X cells slots 0 [some (va_rf (some t)), some (.int x1), some (.int x2), none, none] [] h := by
  refine st_iload_n (pc := 0) C.1 dX9_fault_0 rfl rfl ?_
  refine st_if_lt (pc := 1) (tgt := 31) C.1 dX9_fault_1 (by decide) (fun c0 => ?_) (fun c0 => ?_)
  · refine st_iconst (pc := 31) (v := 0) C.1 dX9_fault_31 (by decide) ?_
    refine sv_istore_n (pc := 32) (i := 3) C.1 [some (va_rf (some t)), some (.int x1), some (.int x2), some (.int 0), none] dX9_fault_32 rfl (Nat.le_of_ble_eq_true rfl) (by rw [C.2.1]; exact Nat.le_of_ble_eq_true rfl) rfl rfl ?_
    refine st_aload_n (pc := 33) C.1 (some t) dX9_fault_33 rfl rfl ?_
    refine st_iload_n (pc := 34) C.1 dX9_fault_34 rfl rfl ?_
    refine st_if_eq (pc := 35) (tgt := 42) C.1 dX9_fault_35 (by decide) (fun c1 => ?_) (fun c1 => ?_)
    · refine st_iconst (pc := 42) (v := 1) C.1 dX9_fault_42 (by decide) ?_
      refine pI_RX9_85 (pc := 43) C.1 dX9_fault_43 h0 ?_
      refine st_iload_n (pc := 46) C.1 dX9_fault_46 rfl rfl ?_
      refine st_if_ne (pc := 47) (tgt := 52) C.1 dX9_fault_47 (by decide) (fun c2 => ?_) (fun c2 => ?_)
      · exact absurd c2 (by decide)
      · refine st_iconst (pc := 50) (v := 0) C.1 dX9_fault_50 (by decide) ?_
        exact rt_i C (Or.inl rfl) dX9_fault_51 hc hs ⟨_, rfl, (k0 c0)⟩
    · exact absurd c1 (by decide)
  · refine st_iload_n (pc := 4) C.1 dX9_fault_4 rfl rfl ?_
    refine st_aload_n (pc := 5) C.1 (some t) dX9_fault_5 rfl rfl ?_
    refine gI_RX9_102 (pc := 6) C.1 (h.I 921 t) dX9_fault_6 h0 rfl ?_
    refine st_icmp_ge (pc := 9) (tgt := 31) C.1 dX9_fault_9 (by decide) (fun c3 => ?_) (fun c3 => ?_)
    · refine st_iconst (pc := 31) (v := 0) C.1 dX9_fault_31 (by decide) ?_
      refine sv_istore_n (pc := 32) (i := 3) C.1 [some (va_rf (some t)), some (.int x1), some (.int x2), some (.int 0), none] dX9_fault_32 rfl (Nat.le_of_ble_eq_true rfl) (by rw [C.2.1]; exact Nat.le_of_ble_eq_true rfl) rfl rfl ?_
      refine st_aload_n (pc := 33) C.1 (some t) dX9_fault_33 rfl rfl ?_
      refine st_iload_n (pc := 34) C.1 dX9_fault_34 rfl rfl ?_
      refine st_if_eq (pc := 35) (tgt := 42) C.1 dX9_fault_35 (by decide) (fun c4 => ?_) (fun c4 => ?_)
      · refine st_iconst (pc := 42) (v := 1) C.1 dX9_fault_42 (by decide) ?_
        refine pI_RX9_85 (pc := 43) C.1 dX9_fault_43 h0 ?_
        refine st_iload_n (pc := 46) C.1 dX9_fault_46 rfl rfl ?_
        refine st_if_ne (pc := 47) (tgt := 52) C.1 dX9_fault_47 (by decide) (fun c5 => ?_) (fun c5 => ?_)
        · exact absurd c5 (by decide)
        · refine st_iconst (pc := 50) (v := 0) C.1 dX9_fault_50 (by decide) ?_
          exact rt_i C (Or.inl rfl) dX9_fault_51 hc hs ⟨_, rfl, (k1 c0 c3)⟩
      · exact absurd c4 (by decide)
    · refine st_iload_n (pc := 12) C.1 dX9_fault_12 rfl rfl ?_
      refine st_bipush (pc := 13) (v := 32) C.1 dX9_fault_13 (by decide) ?_
      refine st_icmp_ge (pc := 15) (tgt := 31) C.1 dX9_fault_15 (by decide) (fun c6 => ?_) (fun c6 => ?_)
      · refine st_iconst (pc := 31) (v := 0) C.1 dX9_fault_31 (by decide) ?_
        refine sv_istore_n (pc := 32) (i := 3) C.1 [some (va_rf (some t)), some (.int x1), some (.int x2), some (.int 0), none] dX9_fault_32 rfl (Nat.le_of_ble_eq_true rfl) (by rw [C.2.1]; exact Nat.le_of_ble_eq_true rfl) rfl rfl ?_
        refine st_aload_n (pc := 33) C.1 (some t) dX9_fault_33 rfl rfl ?_
        refine st_iload_n (pc := 34) C.1 dX9_fault_34 rfl rfl ?_
        refine st_if_eq (pc := 35) (tgt := 42) C.1 dX9_fault_35 (by decide) (fun c7 => ?_) (fun c7 => ?_)
        · refine st_iconst (pc := 42) (v := 1) C.1 dX9_fault_42 (by decide) ?_
          refine pI_RX9_85 (pc := 43) C.1 dX9_fault_43 h0 ?_
          refine st_iload_n (pc := 46) C.1 dX9_fault_46 rfl rfl ?_
          refine st_if_ne (pc := 47) (tgt := 52) C.1 dX9_fault_47 (by decide) (fun c8 => ?_) (fun c8 => ?_)
          · exact absurd c8 (by decide)
          · refine st_iconst (pc := 50) (v := 0) C.1 dX9_fault_50 (by decide) ?_
            exact rt_i C (Or.inl rfl) dX9_fault_51 hc hs ⟨_, rfl, (k2 c0 c3 c6)⟩
        · exact absurd c7 (by decide)
      · refine st_iload_n (pc := 18) C.1 dX9_fault_18 rfl rfl ?_
        refine st_if_eq (pc := 19) (tgt := 27) C.1 dX9_fault_19 (by decide) (fun c9 => ?_) (fun c9 => ?_)
        · refine st_iconst (pc := 27) (v := 1) C.1 dX9_fault_27 (by decide) ?_
          refine st_goto (pc := 28) (tgt := 32) C.1 dX9_fault_28 (by decide) ?_
          refine sv_istore_n (pc := 32) (i := 3) C.1 [some (va_rf (some t)), some (.int x1), some (.int x2), some (.int 1), none] dX9_fault_32 rfl (Nat.le_of_ble_eq_true rfl) (by rw [C.2.1]; exact Nat.le_of_ble_eq_true rfl) rfl rfl ?_
          refine st_aload_n (pc := 33) C.1 (some t) dX9_fault_33 rfl rfl ?_
          refine st_iload_n (pc := 34) C.1 dX9_fault_34 rfl rfl ?_
          refine st_if_eq (pc := 35) (tgt := 42) C.1 dX9_fault_35 (by decide) (fun c10 => ?_) (fun c10 => ?_)
          · exact absurd c10 (by decide)
          · refine st_iconst (pc := 38) (v := 0) C.1 dX9_fault_38 (by decide) ?_
            refine st_goto (pc := 39) (tgt := 43) C.1 dX9_fault_39 (by decide) ?_
            refine pI_RX9_85 (pc := 43) C.1 dX9_fault_43 h0 ?_
            refine st_iload_n (pc := 46) C.1 dX9_fault_46 rfl rfl ?_
            refine st_if_ne (pc := 47) (tgt := 52) C.1 dX9_fault_47 (by decide) (fun c11 => ?_) (fun c11 => ?_)
            · refine st_aload_n (pc := 52) C.1 (some t) dX9_fault_52 rfl rfl ?_
              refine gI_RX9_102 (pc := 53) C.1 (h.I 921 t) dX9_fault_53 h0 rfl ?_
              refine st_iconst (pc := 56) (v := 1) C.1 dX9_fault_56 (by decide) ?_
              refine st_isub (pc := 57) C.1 dX9_fault_57 ?_
              refine st_iload_n (pc := 58) C.1 dX9_fault_58 rfl rfl ?_
              refine st_isub (pc := 59) C.1 dX9_fault_59 ?_
              refine st_bipush (pc := 60) (v := 32) C.1 dX9_fault_60 (by decide) ?_
              refine st_irem (pc := 62) C.1 dX9_fault_62 (by decide) ?_
              refine sv_istore (pc := 63) (i := 4) C.1 [some (va_rf (some t)), some (.int x1), some (.int x2), some (.int 1), some (.int ((((h.I 921 t) - 1) - x1) - (((h.I 921 t) - 1) - x1) / 32 * 32))] dX9_fault_63 (Nat.le_of_ble_eq_true rfl) (by rw [C.2.1]; exact Nat.le_of_ble_eq_true rfl) rfl rfl ?_
              refine st_iload_n (pc := 65) C.1 dX9_fault_65 rfl rfl ?_
              refine st_if_ne (pc := 66) (tgt := 79) C.1 dX9_fault_66 (by decide) (fun c12 => ?_) (fun c12 => ?_)
              · refine st_aload_n (pc := 79) C.1 (some t) dX9_fault_79 rfl rfl ?_
                refine gR_RX9_47 (pc := 80) C.1 (some r0) dX9_fault_80 h0 h1 ?_
                refine st_iload (pc := 83) C.1 dX9_fault_83 rfl ?_
                refine sv_iaload (pc := 85) C.1 (h.AI r0 (((((h.I 921 t) - 1) - x1) - (((h.I 921 t) - 1) - x1) / 32 * 32).toNatClampNeg)) dX9_fault_85 h2 (h3 c0 c3 c6 c9 c12) rfl ?_
                exact rt_i C (Or.inl rfl) dX9_fault_86 hc hs ⟨_, rfl, (k3 c0 c3 c6 c9 c12)⟩
              · refine st_aload_n (pc := 69) C.1 (some t) dX9_fault_69 rfl rfl ?_
                refine gR_RX9_44 (pc := 70) C.1 (some r1) dX9_fault_70 h0 h4 ?_
                refine st_iload (pc := 73) C.1 dX9_fault_73 rfl ?_
                refine sv_iaload (pc := 75) C.1 (h.AI r1 (((((h.I 921 t) - 1) - x1) - (((h.I 921 t) - 1) - x1) / 32 * 32).toNatClampNeg)) dX9_fault_75 h5 (h6 c0 c3 c6 c9 c12) rfl ?_
                refine st_goto (pc := 76) (tgt := 86) C.1 dX9_fault_76 (by decide) ?_
                exact rt_i C (Or.inl rfl) dX9_fault_86 hc hs ⟨_, rfl, (k4 c0 c3 c6 c9 c12)⟩
            · exact absurd c11 (by decide)
        · refine st_iload_n (pc := 22) C.1 dX9_fault_22 rfl rfl ?_
          refine st_iconst (pc := 23) (v := 1) C.1 dX9_fault_23 (by decide) ?_
          refine st_icmp_ne (pc := 24) (tgt := 31) C.1 dX9_fault_24 (by decide) (fun c13 => ?_) (fun c13 => ?_)
          · refine st_iconst (pc := 31) (v := 0) C.1 dX9_fault_31 (by decide) ?_
            refine sv_istore_n (pc := 32) (i := 3) C.1 [some (va_rf (some t)), some (.int x1), some (.int x2), some (.int 0), none] dX9_fault_32 rfl (Nat.le_of_ble_eq_true rfl) (by rw [C.2.1]; exact Nat.le_of_ble_eq_true rfl) rfl rfl ?_
            refine st_aload_n (pc := 33) C.1 (some t) dX9_fault_33 rfl rfl ?_
            refine st_iload_n (pc := 34) C.1 dX9_fault_34 rfl rfl ?_
            refine st_if_eq (pc := 35) (tgt := 42) C.1 dX9_fault_35 (by decide) (fun c14 => ?_) (fun c14 => ?_)
            · refine st_iconst (pc := 42) (v := 1) C.1 dX9_fault_42 (by decide) ?_
              refine pI_RX9_85 (pc := 43) C.1 dX9_fault_43 h0 ?_
              refine st_iload_n (pc := 46) C.1 dX9_fault_46 rfl rfl ?_
              refine st_if_ne (pc := 47) (tgt := 52) C.1 dX9_fault_47 (by decide) (fun c15 => ?_) (fun c15 => ?_)
              · exact absurd c15 (by decide)
              · refine st_iconst (pc := 50) (v := 0) C.1 dX9_fault_50 (by decide) ?_
                exact rt_i C (Or.inl rfl) dX9_fault_51 hc hs ⟨_, rfl, (k5 c0 c3 c6 c9 c13)⟩
            · exact absurd c14 (by decide)
          · refine st_iconst (pc := 27) (v := 1) C.1 dX9_fault_27 (by decide) ?_
            refine st_goto (pc := 28) (tgt := 32) C.1 dX9_fault_28 (by decide) ?_
            refine sv_istore_n (pc := 32) (i := 3) C.1 [some (va_rf (some t)), some (.int x1), some (.int x2), some (.int 1), none] dX9_fault_32 rfl (Nat.le_of_ble_eq_true rfl) (by rw [C.2.1]; exact Nat.le_of_ble_eq_true rfl) rfl rfl ?_
            refine st_aload_n (pc := 33) C.1 (some t) dX9_fault_33 rfl rfl ?_
            refine st_iload_n (pc := 34) C.1 dX9_fault_34 rfl rfl ?_
            refine st_if_eq (pc := 35) (tgt := 42) C.1 dX9_fault_35 (by decide) (fun c16 => ?_) (fun c16 => ?_)
            · exact absurd c16 (by decide)
            · refine st_iconst (pc := 38) (v := 0) C.1 dX9_fault_38 (by decide) ?_
              refine st_goto (pc := 39) (tgt := 43) C.1 dX9_fault_39 (by decide) ?_
              refine pI_RX9_85 (pc := 43) C.1 dX9_fault_43 h0 ?_
              refine st_iload_n (pc := 46) C.1 dX9_fault_46 rfl rfl ?_
              refine st_if_ne (pc := 47) (tgt := 52) C.1 dX9_fault_47 (by decide) (fun c17 => ?_) (fun c17 => ?_)
              · refine st_aload_n (pc := 52) C.1 (some t) dX9_fault_52 rfl rfl ?_
                refine gI_RX9_102 (pc := 53) C.1 (h.I 921 t) dX9_fault_53 h0 rfl ?_
                refine st_iconst (pc := 56) (v := 1) C.1 dX9_fault_56 (by decide) ?_
                refine st_isub (pc := 57) C.1 dX9_fault_57 ?_
                refine st_iload_n (pc := 58) C.1 dX9_fault_58 rfl rfl ?_
                refine st_isub (pc := 59) C.1 dX9_fault_59 ?_
                refine st_bipush (pc := 60) (v := 32) C.1 dX9_fault_60 (by decide) ?_
                refine st_irem (pc := 62) C.1 dX9_fault_62 (by decide) ?_
                refine sv_istore (pc := 63) (i := 4) C.1 [some (va_rf (some t)), some (.int x1), some (.int x2), some (.int 1), some (.int ((((h.I 921 t) - 1) - x1) - (((h.I 921 t) - 1) - x1) / 32 * 32))] dX9_fault_63 (Nat.le_of_ble_eq_true rfl) (by rw [C.2.1]; exact Nat.le_of_ble_eq_true rfl) rfl rfl ?_
                refine st_iload_n (pc := 65) C.1 dX9_fault_65 rfl rfl ?_
                refine st_if_ne (pc := 66) (tgt := 79) C.1 dX9_fault_66 (by decide) (fun c18 => ?_) (fun c18 => ?_)
                · refine st_aload_n (pc := 79) C.1 (some t) dX9_fault_79 rfl rfl ?_
                  refine gR_RX9_47 (pc := 80) C.1 (some r0) dX9_fault_80 h0 h1 ?_
                  refine st_iload (pc := 83) C.1 dX9_fault_83 rfl ?_
                  refine sv_iaload (pc := 85) C.1 (h.AI r0 (((((h.I 921 t) - 1) - x1) - (((h.I 921 t) - 1) - x1) / 32 * 32).toNatClampNeg)) dX9_fault_85 h2 (h7 c0 c3 c6 c9 c13 c18) rfl ?_
                  exact rt_i C (Or.inl rfl) dX9_fault_86 hc hs ⟨_, rfl, (k6 c0 c3 c6 c9 c13 c18)⟩
                · refine st_aload_n (pc := 69) C.1 (some t) dX9_fault_69 rfl rfl ?_
                  refine gR_RX9_44 (pc := 70) C.1 (some r1) dX9_fault_70 h0 h4 ?_
                  refine st_iload (pc := 73) C.1 dX9_fault_73 rfl ?_
                  refine sv_iaload (pc := 75) C.1 (h.AI r1 (((((h.I 921 t) - 1) - x1) - (((h.I 921 t) - 1) - x1) / 32 * 32).toNatClampNeg)) dX9_fault_75 h5 (h8 c0 c3 c6 c9 c13 c18) rfl ?_
                  refine st_goto (pc := 76) (tgt := 86) C.1 dX9_fault_76 (by decide) ?_
                  exact rt_i C (Or.inl rfl) dX9_fault_86 hc hs ⟨_, rfl, (k7 c0 c3 c6 c9 c13 c18)⟩
              · exact absurd c17 (by decide)

