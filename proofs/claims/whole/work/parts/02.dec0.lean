theorem dX0_init_0 : decode cX0_init 0 = .ok (.aload_n 0, 1) := by decide +kernel
theorem dX0_init_1 : decode cX0_init 1 = .ok (.invokespecial 3, 3) := by decide +kernel
theorem dX0_init_4 : decode cX0_init 4 = .ok (.aload_n 0, 1) := by decide +kernel
theorem dX0_init_5 : decode cX0_init 5 = .ok (.bipush 10, 2) := by decide +kernel
theorem dX0_init_7 : decode cX0_init 7 = .ok (.newarray .int, 2) := by decide +kernel
theorem dX0_init_9 : decode cX0_init 9 = .ok (.putfield 9, 3) := by decide +kernel
theorem dX0_init_12 : decode cX0_init 12 = .ok (.return_, 1) := by decide +kernel
theorem dX0_begin_0 : decode cX0_begin 0 = .ok (.aload_n 0, 1) := by decide +kernel
theorem dX0_begin_1 : decode cX0_begin 1 = .ok (.iload_n 1, 1) := by decide +kernel
theorem dX0_begin_2 : decode cX0_begin 2 = .ok (.putfield 15, 3) := by decide +kernel
theorem dX0_begin_5 : decode cX0_begin 5 = .ok (.aload_n 0, 1) := by decide +kernel
theorem dX0_begin_6 : decode cX0_begin 6 = .ok (.iload_n 2, 1) := by decide +kernel
theorem dX0_begin_7 : decode cX0_begin 7 = .ok (.putfield 19, 3) := by decide +kernel
theorem dX0_begin_10 : decode cX0_begin 10 = .ok (.aload_n 0, 1) := by decide +kernel
theorem dX0_begin_11 : decode cX0_begin 11 = .ok (.iconst 0, 1) := by decide +kernel
theorem dX0_begin_12 : decode cX0_begin 12 = .ok (.putfield 22, 3) := by decide +kernel
theorem dX0_begin_15 : decode cX0_begin 15 = .ok (.aload_n 0, 1) := by decide +kernel
theorem dX0_begin_16 : decode cX0_begin 16 = .ok (.iconst 0, 1) := by decide +kernel
theorem dX0_begin_17 : decode cX0_begin 17 = .ok (.putfield 25, 3) := by decide +kernel
theorem dX0_begin_20 : decode cX0_begin 20 = .ok (.aload_n 0, 1) := by decide +kernel
theorem dX0_begin_21 : decode cX0_begin 21 = .ok (.iconst 0, 1) := by decide +kernel
theorem dX0_begin_22 : decode cX0_begin 22 = .ok (.putfield 28, 3) := by decide +kernel
theorem dX0_begin_25 : decode cX0_begin 25 = .ok (.aload_n 0, 1) := by decide +kernel
theorem dX0_begin_26 : decode cX0_begin 26 = .ok (.iconst 0, 1) := by decide +kernel
theorem dX0_begin_27 : decode cX0_begin 27 = .ok (.putfield 31, 3) := by decide +kernel
theorem dX0_begin_30 : decode cX0_begin 30 = .ok (.aload_n 0, 1) := by decide +kernel
theorem dX0_begin_31 : decode cX0_begin 31 = .ok (.iconst 0, 1) := by decide +kernel
theorem dX0_begin_32 : decode cX0_begin 32 = .ok (.putfield 35, 3) := by decide +kernel
theorem dX0_begin_35 : decode cX0_begin 35 = .ok (.return_, 1) := by decide +kernel
theorem dX0_isHeard_0 : decode cX0_isHeard 0 = .ok (.aload_n 0, 1) := by decide +kernel
theorem dX0_isHeard_1 : decode cX0_isHeard 1 = .ok (.getfield 22, 3) := by decide +kernel
theorem dX0_isHeard_4 : decode cX0_isHeard 4 = .ok (.ifCond .le 7, 3) := by decide +kernel
theorem dX0_isHeard_7 : decode cX0_isHeard 7 = .ok (.iconst 1, 1) := by decide +kernel
theorem dX0_isHeard_8 : decode cX0_isHeard 8 = .ok (.goto 4, 3) := by decide +kernel
theorem dX0_isHeard_11 : decode cX0_isHeard 11 = .ok (.iconst 0, 1) := by decide +kernel
theorem dX0_isHeard_12 : decode cX0_isHeard 12 = .ok (.ireturn, 1) := by decide +kernel
theorem dX0_isHeardIn_0 : decode cX0_isHeardIn 0 = .ok (.aload_n 0, 1) := by decide +kernel
theorem dX0_isHeardIn_1 : decode cX0_isHeardIn 1 = .ok (.getfield 22, 3) := by decide +kernel
theorem dX0_isHeardIn_4 : decode cX0_isHeardIn 4 = .ok (.ifCond .le 22, 3) := by decide +kernel
theorem dX0_isHeardIn_7 : decode cX0_isHeardIn 7 = .ok (.aload_n 0, 1) := by decide +kernel
theorem dX0_isHeardIn_8 : decode cX0_isHeardIn 8 = .ok (.getfield 28, 3) := by decide +kernel
theorem dX0_isHeardIn_11 : decode cX0_isHeardIn 11 = .ok (.ifCond .eq 11, 3) := by decide +kernel
theorem dX0_isHeardIn_14 : decode cX0_isHeardIn 14 = .ok (.iload_n 1, 1) := by decide +kernel
theorem dX0_isHeardIn_15 : decode cX0_isHeardIn 15 = .ok (.aload_n 0, 1) := by decide +kernel
theorem dX0_isHeardIn_16 : decode cX0_isHeardIn 16 = .ok (.getfield 28, 3) := by decide +kernel
theorem dX0_isHeardIn_19 : decode cX0_isHeardIn 19 = .ok (.if_icmp .ge 7, 3) := by decide +kernel
theorem dX0_isHeardIn_22 : decode cX0_isHeardIn 22 = .ok (.iconst 1, 1) := by decide +kernel
theorem dX0_isHeardIn_23 : decode cX0_isHeardIn 23 = .ok (.goto 4, 3) := by decide +kernel
theorem dX0_isHeardIn_26 : decode cX0_isHeardIn 26 = .ok (.iconst 0, 1) := by decide +kernel
theorem dX0_isHeardIn_27 : decode cX0_isHeardIn 27 = .ok (.ireturn, 1) := by decide +kernel
theorem dX0_startIn_0 : decode cX0_startIn 0 = .ok (.aload_n 0, 1) := by decide +kernel
theorem dX0_startIn_1 : decode cX0_startIn 1 = .ok (.getfield 25, 3) := by decide +kernel
theorem dX0_startIn_4 : decode cX0_startIn 4 = .ok (.ifCond .le 17, 3) := by decide +kernel
theorem dX0_startIn_7 : decode cX0_startIn 7 = .ok (.aload_n 0, 1) := by decide +kernel
theorem dX0_startIn_8 : decode cX0_startIn 8 = .ok (.getfield 38, 3) := by decide +kernel
theorem dX0_startIn_11 : decode cX0_startIn 11 = .ok (.iload_n 1, 1) := by decide +kernel
theorem dX0_startIn_12 : decode cX0_startIn 12 = .ok (.aload_n 0, 1) := by decide +kernel
theorem dX0_startIn_13 : decode cX0_startIn 13 = .ok (.getfield 25, 3) := by decide +kernel
theorem dX0_startIn_16 : decode cX0_startIn 16 = .ok (.idiv, 1) := by decide +kernel
theorem dX0_startIn_17 : decode cX0_startIn 17 = .ok (.iadd, 1) := by decide +kernel
theorem dX0_startIn_18 : decode cX0_startIn 18 = .ok (.goto 7, 3) := by decide +kernel
theorem dX0_startIn_21 : decode cX0_startIn 21 = .ok (.aload_n 0, 1) := by decide +kernel
theorem dX0_startIn_22 : decode cX0_startIn 22 = .ok (.getfield 38, 3) := by decide +kernel
theorem dX0_startIn_25 : decode cX0_startIn 25 = .ok (.ireturn, 1) := by decide +kernel
theorem dX0_bitAt_0 : decode cX0_bitAt 0 = .ok (.iload_n 1, 1) := by decide +kernel
theorem dX0_bitAt_1 : decode cX0_bitAt 1 = .ok (.ifCond .lt 10, 3) := by decide +kernel
theorem dX0_bitAt_4 : decode cX0_bitAt 4 = .ok (.aload_n 0, 1) := by decide +kernel
theorem dX0_bitAt_5 : decode cX0_bitAt 5 = .ok (.getfield 35, 3) := by decide +kernel
theorem dX0_bitAt_8 : decode cX0_bitAt 8 = .ok (.ifCond .gt 5, 3) := by decide +kernel
theorem dX0_bitAt_11 : decode cX0_bitAt 11 = .ok (.iconst 0, 1) := by decide +kernel
theorem dX0_bitAt_12 : decode cX0_bitAt 12 = .ok (.ireturn, 1) := by decide +kernel
theorem dX0_bitAt_13 : decode cX0_bitAt 13 = .ok (.aload_n 0, 1) := by decide +kernel
theorem dX0_bitAt_14 : decode cX0_bitAt 14 = .ok (.getfield 9, 3) := by decide +kernel
theorem dX0_bitAt_17 : decode cX0_bitAt 17 = .ok (.iload_n 1, 1) := by decide +kernel
theorem dX0_bitAt_18 : decode cX0_bitAt 18 = .ok (.bipush 16, 2) := by decide +kernel
theorem dX0_bitAt_20 : decode cX0_bitAt 20 = .ok (.idiv, 1) := by decide +kernel
theorem dX0_bitAt_21 : decode cX0_bitAt 21 = .ok (.aload_n 0, 1) := by decide +kernel
theorem dX0_bitAt_22 : decode cX0_bitAt 22 = .ok (.getfield 35, 3) := by decide +kernel
theorem dX0_bitAt_25 : decode cX0_bitAt 25 = .ok (.irem, 1) := by decide +kernel
theorem dX0_bitAt_26 : decode cX0_bitAt 26 = .ok (.iaload, 1) := by decide +kernel
theorem dX0_bitAt_27 : decode cX0_bitAt 27 = .ok (.istore_n 2, 1) := by decide +kernel
theorem dX0_bitAt_28 : decode cX0_bitAt 28 = .ok (.iload_n 2, 1) := by decide +kernel
theorem dX0_bitAt_29 : decode cX0_bitAt 29 = .ok (.bipush 15, 2) := by decide +kernel
theorem dX0_bitAt_31 : decode cX0_bitAt 31 = .ok (.iload_n 1, 1) := by decide +kernel
theorem dX0_bitAt_32 : decode cX0_bitAt 32 = .ok (.bipush 16, 2) := by decide +kernel
theorem dX0_bitAt_34 : decode cX0_bitAt 34 = .ok (.irem, 1) := by decide +kernel
theorem dX0_bitAt_35 : decode cX0_bitAt 35 = .ok (.isub, 1) := by decide +kernel
theorem dX0_bitAt_36 : decode cX0_bitAt 36 = .ok (.iushr, 1) := by decide +kernel
theorem dX0_bitAt_37 : decode cX0_bitAt 37 = .ok (.iconst 1, 1) := by decide +kernel
theorem dX0_bitAt_38 : decode cX0_bitAt 38 = .ok (.iand, 1) := by decide +kernel
theorem dX0_bitAt_39 : decode cX0_bitAt 39 = .ok (.ireturn, 1) := by decide +kernel
theorem dX0_addSubframe_0 : decode cX0_addSubframe 0 = .ok (.aload_n 0, 1) := by decide +kernel
theorem dX0_addSubframe_1 : decode cX0_addSubframe 1 = .ok (.getfield 35, 3) := by decide +kernel
theorem dX0_addSubframe_4 : decode cX0_addSubframe 4 = .ok (.aload_n 0, 1) := by decide +kernel
theorem dX0_addSubframe_5 : decode cX0_addSubframe 5 = .ok (.getfield 9, 3) := by decide +kernel
theorem dX0_addSubframe_8 : decode cX0_addSubframe 8 = .ok (.arraylength, 1) := by decide +kernel
theorem dX0_addSubframe_9 : decode cX0_addSubframe 9 = .ok (.if_icmp .ge 23, 3) := by decide +kernel
theorem dX0_addSubframe_12 : decode cX0_addSubframe 12 = .ok (.aload_n 0, 1) := by decide +kernel
theorem dX0_addSubframe_13 : decode cX0_addSubframe 13 = .ok (.getfield 9, 3) := by decide +kernel
theorem dX0_addSubframe_16 : decode cX0_addSubframe 16 = .ok (.aload_n 0, 1) := by decide +kernel
theorem dX0_addSubframe_17 : decode cX0_addSubframe 17 = .ok (.getfield 35, 3) := by decide +kernel
theorem dX0_addSubframe_20 : decode cX0_addSubframe 20 = .ok (.iload_n 1, 1) := by decide +kernel
theorem dX0_addSubframe_21 : decode cX0_addSubframe 21 = .ok (.iastore, 1) := by decide +kernel
theorem dX0_addSubframe_22 : decode cX0_addSubframe 22 = .ok (.aload_n 0, 1) := by decide +kernel
theorem dX0_addSubframe_23 : decode cX0_addSubframe 23 = .ok (.dup, 1) := by decide +kernel
theorem dX0_addSubframe_24 : decode cX0_addSubframe 24 = .ok (.getfield 35, 3) := by decide +kernel
theorem dX0_addSubframe_27 : decode cX0_addSubframe 27 = .ok (.iconst 1, 1) := by decide +kernel
theorem dX0_addSubframe_28 : decode cX0_addSubframe 28 = .ok (.iadd, 1) := by decide +kernel
theorem dX0_addSubframe_29 : decode cX0_addSubframe 29 = .ok (.putfield 35, 3) := by decide +kernel
theorem dX0_addSubframe_32 : decode cX0_addSubframe 32 = .ok (.return_, 1) := by decide +kernel
theorem dX0_told_0 : decode cX0_told 0 = .ok (.iload_n 1, 1) := by decide +kernel
theorem dX0_told_1 : decode cX0_told 1 = .ok (.tableswitch 201 0 9 #[55, 60, 77, 94, 111, 128, 145, 162, 167, 184], 55) := by decide +kernel
theorem dX0_told_56 : decode cX0_told 56 = .ok (.aload_n 0, 1) := by decide +kernel
theorem dX0_told_57 : decode cX0_told 57 = .ok (.getfield 19, 3) := by decide +kernel
theorem dX0_told_60 : decode cX0_told 60 = .ok (.ireturn, 1) := by decide +kernel
theorem dX0_told_61 : decode cX0_told 61 = .ok (.aload_n 0, 1) := by decide +kernel
theorem dX0_told_62 : decode cX0_told 62 = .ok (.invokevirtual 41, 3) := by decide +kernel
theorem dX0_told_65 : decode cX0_told 65 = .ok (.ifCond .eq 10, 3) := by decide +kernel
theorem dX0_told_68 : decode cX0_told 68 = .ok (.aload_n 0, 1) := by decide +kernel
theorem dX0_told_69 : decode cX0_told 69 = .ok (.getfield 38, 3) := by decide +kernel
theorem dX0_told_72 : decode cX0_told 72 = .ok (.goto 5, 3) := by decide +kernel
theorem dX0_told_75 : decode cX0_told 75 = .ok (.bipush (-2), 2) := by decide +kernel
theorem dX0_told_77 : decode cX0_told 77 = .ok (.ireturn, 1) := by decide +kernel
theorem dX0_told_78 : decode cX0_told 78 = .ok (.aload_n 0, 1) := by decide +kernel
theorem dX0_told_79 : decode cX0_told 79 = .ok (.invokevirtual 41, 3) := by decide +kernel
theorem dX0_told_82 : decode cX0_told 82 = .ok (.ifCond .eq 10, 3) := by decide +kernel
theorem dX0_told_85 : decode cX0_told 85 = .ok (.aload_n 0, 1) := by decide +kernel
theorem dX0_told_86 : decode cX0_told 86 = .ok (.getfield 45, 3) := by decide +kernel
theorem dX0_told_89 : decode cX0_told 89 = .ok (.goto 5, 3) := by decide +kernel
theorem dX0_told_92 : decode cX0_told 92 = .ok (.bipush (-2), 2) := by decide +kernel
theorem dX0_told_94 : decode cX0_told 94 = .ok (.ireturn, 1) := by decide +kernel
theorem dX0_told_95 : decode cX0_told 95 = .ok (.aload_n 0, 1) := by decide +kernel
theorem dX0_told_96 : decode cX0_told 96 = .ok (.invokevirtual 41, 3) := by decide +kernel
theorem dX0_told_99 : decode cX0_told 99 = .ok (.ifCond .eq 10, 3) := by decide +kernel
theorem dX0_told_102 : decode cX0_told 102 = .ok (.aload_n 0, 1) := by decide +kernel
theorem dX0_told_103 : decode cX0_told 103 = .ok (.getfield 48, 3) := by decide +kernel
theorem dX0_told_106 : decode cX0_told 106 = .ok (.goto 5, 3) := by decide +kernel
theorem dX0_told_109 : decode cX0_told 109 = .ok (.bipush (-2), 2) := by decide +kernel
theorem dX0_told_111 : decode cX0_told 111 = .ok (.ireturn, 1) := by decide +kernel
theorem dX0_told_112 : decode cX0_told 112 = .ok (.aload_n 0, 1) := by decide +kernel
theorem dX0_told_113 : decode cX0_told 113 = .ok (.invokevirtual 41, 3) := by decide +kernel
theorem dX0_told_116 : decode cX0_told 116 = .ok (.ifCond .eq 10, 3) := by decide +kernel
theorem dX0_told_119 : decode cX0_told 119 = .ok (.aload_n 0, 1) := by decide +kernel
theorem dX0_told_120 : decode cX0_told 120 = .ok (.getfield 22, 3) := by decide +kernel
theorem dX0_told_123 : decode cX0_told 123 = .ok (.goto 5, 3) := by decide +kernel
theorem dX0_told_126 : decode cX0_told 126 = .ok (.bipush (-2), 2) := by decide +kernel
theorem dX0_told_128 : decode cX0_told 128 = .ok (.ireturn, 1) := by decide +kernel
theorem dX0_told_129 : decode cX0_told 129 = .ok (.aload_n 0, 1) := by decide +kernel
theorem dX0_told_130 : decode cX0_told 130 = .ok (.getfield 25, 3) := by decide +kernel
theorem dX0_told_133 : decode cX0_told 133 = .ok (.ifCond .le 10, 3) := by decide +kernel
theorem dX0_told_136 : decode cX0_told 136 = .ok (.aload_n 0, 1) := by decide +kernel
theorem dX0_told_137 : decode cX0_told 137 = .ok (.getfield 25, 3) := by decide +kernel
theorem dX0_told_140 : decode cX0_told 140 = .ok (.goto 5, 3) := by decide +kernel
theorem dX0_told_143 : decode cX0_told 143 = .ok (.bipush (-2), 2) := by decide +kernel
theorem dX0_told_145 : decode cX0_told 145 = .ok (.ireturn, 1) := by decide +kernel
theorem dX0_told_146 : decode cX0_told 146 = .ok (.aload_n 0, 1) := by decide +kernel
theorem dX0_told_147 : decode cX0_told 147 = .ok (.getfield 28, 3) := by decide +kernel
theorem dX0_told_150 : decode cX0_told 150 = .ok (.ifCond .le 10, 3) := by decide +kernel
theorem dX0_told_153 : decode cX0_told 153 = .ok (.aload_n 0, 1) := by decide +kernel
theorem dX0_told_154 : decode cX0_told 154 = .ok (.getfield 28, 3) := by decide +kernel
theorem dX0_told_157 : decode cX0_told 157 = .ok (.goto 5, 3) := by decide +kernel
theorem dX0_told_160 : decode cX0_told 160 = .ok (.bipush (-2), 2) := by decide +kernel
theorem dX0_told_162 : decode cX0_told 162 = .ok (.ireturn, 1) := by decide +kernel
theorem dX0_told_163 : decode cX0_told 163 = .ok (.aload_n 0, 1) := by decide +kernel
theorem dX0_told_164 : decode cX0_told 164 = .ok (.getfield 35, 3) := by decide +kernel
theorem dX0_told_167 : decode cX0_told 167 = .ok (.ireturn, 1) := by decide +kernel
theorem dX0_told_168 : decode cX0_told 168 = .ok (.aload_n 0, 1) := by decide +kernel
theorem dX0_told_169 : decode cX0_told 169 = .ok (.getfield 31, 3) := by decide +kernel
theorem dX0_told_172 : decode cX0_told 172 = .ok (.ifCond .eq 10, 3) := by decide +kernel
theorem dX0_told_175 : decode cX0_told 175 = .ok (.aload_n 0, 1) := by decide +kernel
theorem dX0_told_176 : decode cX0_told 176 = .ok (.getfield 51, 3) := by decide +kernel
theorem dX0_told_179 : decode cX0_told 179 = .ok (.goto 5, 3) := by decide +kernel
theorem dX0_told_182 : decode cX0_told 182 = .ok (.bipush (-2), 2) := by decide +kernel
theorem dX0_told_184 : decode cX0_told 184 = .ok (.ireturn, 1) := by decide +kernel
theorem dX0_told_185 : decode cX0_told 185 = .ok (.aload_n 0, 1) := by decide +kernel
theorem dX0_told_186 : decode cX0_told 186 = .ok (.getfield 31, 3) := by decide +kernel
theorem dX0_told_189 : decode cX0_told 189 = .ok (.ifCond .eq 10, 3) := by decide +kernel
theorem dX0_told_192 : decode cX0_told 192 = .ok (.aload_n 0, 1) := by decide +kernel
theorem dX0_told_193 : decode cX0_told 193 = .ok (.getfield 54, 3) := by decide +kernel
theorem dX0_told_196 : decode cX0_told 196 = .ok (.goto 5, 3) := by decide +kernel
theorem dX0_told_199 : decode cX0_told 199 = .ok (.bipush (-2), 2) := by decide +kernel
theorem dX0_told_201 : decode cX0_told 201 = .ok (.ireturn, 1) := by decide +kernel
theorem dX0_told_202 : decode cX0_told 202 = .ok (.aload_n 0, 1) := by decide +kernel
theorem dX0_told_203 : decode cX0_told 203 = .ok (.getfield 31, 3) := by decide +kernel
theorem dX0_told_206 : decode cX0_told 206 = .ok (.ifCond .eq 10, 3) := by decide +kernel
theorem dX0_told_209 : decode cX0_told 209 = .ok (.aload_n 0, 1) := by decide +kernel
theorem dX0_told_210 : decode cX0_told 210 = .ok (.getfield 57, 3) := by decide +kernel
theorem dX0_told_213 : decode cX0_told 213 = .ok (.goto 5, 3) := by decide +kernel
theorem dX0_told_216 : decode cX0_told 216 = .ok (.bipush (-2), 2) := by decide +kernel
theorem dX0_told_218 : decode cX0_told 218 = .ok (.ireturn, 1) := by decide +kernel
theorem dX1_init_0 : decode cX1_init 0 = .ok (.aload_n 0, 1) := by decide +kernel
theorem dX1_init_1 : decode cX1_init 1 = .ok (.invokespecial 3, 3) := by decide +kernel
theorem dX1_init_4 : decode cX1_init 4 = .ok (.return_, 1) := by decide +kernel
theorem dX1_begin_0 : decode cX1_begin 0 = .ok (.aload_n 0, 1) := by decide +kernel
theorem dX1_begin_1 : decode cX1_begin 1 = .ok (.iload_n 1, 1) := by decide +kernel
theorem dX1_begin_2 : decode cX1_begin 2 = .ok (.putfield 9, 3) := by decide +kernel
theorem dX1_begin_5 : decode cX1_begin 5 = .ok (.aload_n 0, 1) := by decide +kernel
theorem dX1_begin_6 : decode cX1_begin 6 = .ok (.iload_n 2, 1) := by decide +kernel
theorem dX1_begin_7 : decode cX1_begin 7 = .ok (.bipush 62, 2) := by decide +kernel
theorem dX1_begin_9 : decode cX1_begin 9 = .ok (.irem, 1) := by decide +kernel
theorem dX1_begin_10 : decode cX1_begin 10 = .ok (.iconst 4, 1) := by decide +kernel
theorem dX1_begin_11 : decode cX1_begin 11 = .ok (.imul, 1) := by decide +kernel
theorem dX1_begin_12 : decode cX1_begin 12 = .ok (.putfield 15, 3) := by decide +kernel
theorem dX1_begin_15 : decode cX1_begin 15 = .ok (.aload_n 0, 1) := by decide +kernel
theorem dX1_begin_16 : decode cX1_begin 16 = .ok (.iload_n 2, 1) := by decide +kernel
theorem dX1_begin_17 : decode cX1_begin 17 = .ok (.bipush 62, 2) := by decide +kernel
theorem dX1_begin_19 : decode cX1_begin 19 = .ok (.idiv, 1) := by decide +kernel
theorem dX1_begin_20 : decode cX1_begin 20 = .ok (.putfield 18, 3) := by decide +kernel
theorem dX1_begin_23 : decode cX1_begin 23 = .ok (.aload_n 0, 1) := by decide +kernel
theorem dX1_begin_24 : decode cX1_begin 24 = .ok (.iconst 0, 1) := by decide +kernel
theorem dX1_begin_25 : decode cX1_begin 25 = .ok (.putfield 21, 3) := by decide +kernel
theorem dX1_begin_28 : decode cX1_begin 28 = .ok (.aload_n 0, 1) := by decide +kernel
theorem dX1_begin_29 : decode cX1_begin 29 = .ok (.iload_n 3, 1) := by decide +kernel
theorem dX1_begin_30 : decode cX1_begin 30 = .ok (.putfield 24, 3) := by decide +kernel
theorem dX1_begin_33 : decode cX1_begin 33 = .ok (.aload_n 0, 1) := by decide +kernel
theorem dX1_begin_34 : decode cX1_begin 34 = .ok (.iload 4, 2) := by decide +kernel
theorem dX1_begin_36 : decode cX1_begin 36 = .ok (.putfield 27, 3) := by decide +kernel
theorem dX1_begin_39 : decode cX1_begin 39 = .ok (.aload_n 0, 1) := by decide +kernel
theorem dX1_begin_40 : decode cX1_begin 40 = .ok (.iconst 0, 1) := by decide +kernel
theorem dX1_begin_41 : decode cX1_begin 41 = .ok (.putfield 30, 3) := by decide +kernel
theorem dX1_begin_44 : decode cX1_begin 44 = .ok (.aload_n 0, 1) := by decide +kernel
theorem dX1_begin_45 : decode cX1_begin 45 = .ok (.bipush (-2), 2) := by decide +kernel
theorem dX1_begin_47 : decode cX1_begin 47 = .ok (.putfield 33, 3) := by decide +kernel
theorem dX1_begin_50 : decode cX1_begin 50 = .ok (.aload_n 0, 1) := by decide +kernel
theorem dX1_begin_51 : decode cX1_begin 51 = .ok (.lconst 0, 1) := by decide +kernel
theorem dX1_begin_52 : decode cX1_begin 52 = .ok (.putfield 36, 3) := by decide +kernel
theorem dX1_begin_55 : decode cX1_begin 55 = .ok (.aload_n 0, 1) := by decide +kernel
theorem dX1_begin_56 : decode cX1_begin 56 = .ok (.iconst 0, 1) := by decide +kernel
theorem dX1_begin_57 : decode cX1_begin 57 = .ok (.putfield 40, 3) := by decide +kernel
theorem dX1_begin_60 : decode cX1_begin 60 = .ok (.return_, 1) := by decide +kernel
theorem dX1_copyFrom_0 : decode cX1_copyFrom 0 = .ok (.aload_n 0, 1) := by decide +kernel
theorem dX1_copyFrom_1 : decode cX1_copyFrom 1 = .ok (.aload_n 1, 1) := by decide +kernel
theorem dX1_copyFrom_2 : decode cX1_copyFrom 2 = .ok (.getfield 9, 3) := by decide +kernel
theorem dX1_copyFrom_5 : decode cX1_copyFrom 5 = .ok (.putfield 9, 3) := by decide +kernel
theorem dX1_copyFrom_8 : decode cX1_copyFrom 8 = .ok (.aload_n 0, 1) := by decide +kernel
theorem dX1_copyFrom_9 : decode cX1_copyFrom 9 = .ok (.aload_n 1, 1) := by decide +kernel
theorem dX1_copyFrom_10 : decode cX1_copyFrom 10 = .ok (.getfield 15, 3) := by decide +kernel
theorem dX1_copyFrom_13 : decode cX1_copyFrom 13 = .ok (.putfield 15, 3) := by decide +kernel
theorem dX1_copyFrom_16 : decode cX1_copyFrom 16 = .ok (.aload_n 0, 1) := by decide +kernel
theorem dX1_copyFrom_17 : decode cX1_copyFrom 17 = .ok (.aload_n 1, 1) := by decide +kernel
theorem dX1_copyFrom_18 : decode cX1_copyFrom 18 = .ok (.getfield 18, 3) := by decide +kernel
theorem dX1_copyFrom_21 : decode cX1_copyFrom 21 = .ok (.putfield 18, 3) := by decide +kernel
theorem dX1_copyFrom_24 : decode cX1_copyFrom 24 = .ok (.aload_n 0, 1) := by decide +kernel
theorem dX1_copyFrom_25 : decode cX1_copyFrom 25 = .ok (.aload_n 1, 1) := by decide +kernel
theorem dX1_copyFrom_26 : decode cX1_copyFrom 26 = .ok (.getfield 21, 3) := by decide +kernel
theorem dX1_copyFrom_29 : decode cX1_copyFrom 29 = .ok (.putfield 21, 3) := by decide +kernel
theorem dX1_copyFrom_32 : decode cX1_copyFrom 32 = .ok (.aload_n 0, 1) := by decide +kernel
theorem dX1_copyFrom_33 : decode cX1_copyFrom 33 = .ok (.aload_n 1, 1) := by decide +kernel
theorem dX1_copyFrom_34 : decode cX1_copyFrom 34 = .ok (.getfield 24, 3) := by decide +kernel
theorem dX1_copyFrom_37 : decode cX1_copyFrom 37 = .ok (.putfield 24, 3) := by decide +kernel
theorem dX1_copyFrom_40 : decode cX1_copyFrom 40 = .ok (.aload_n 0, 1) := by decide +kernel
theorem dX1_copyFrom_41 : decode cX1_copyFrom 41 = .ok (.aload_n 1, 1) := by decide +kernel
theorem dX1_copyFrom_42 : decode cX1_copyFrom 42 = .ok (.getfield 27, 3) := by decide +kernel
theorem dX1_copyFrom_45 : decode cX1_copyFrom 45 = .ok (.putfield 27, 3) := by decide +kernel
theorem dX1_copyFrom_48 : decode cX1_copyFrom 48 = .ok (.aload_n 0, 1) := by decide +kernel
theorem dX1_copyFrom_49 : decode cX1_copyFrom 49 = .ok (.aload_n 1, 1) := by decide +kernel
theorem dX1_copyFrom_50 : decode cX1_copyFrom 50 = .ok (.getfield 30, 3) := by decide +kernel
theorem dX1_copyFrom_53 : decode cX1_copyFrom 53 = .ok (.putfield 30, 3) := by decide +kernel
theorem dX1_copyFrom_56 : decode cX1_copyFrom 56 = .ok (.aload_n 0, 1) := by decide +kernel
theorem dX1_copyFrom_57 : decode cX1_copyFrom 57 = .ok (.aload_n 1, 1) := by decide +kernel
theorem dX1_copyFrom_58 : decode cX1_copyFrom 58 = .ok (.getfield 33, 3) := by decide +kernel
theorem dX1_copyFrom_61 : decode cX1_copyFrom 61 = .ok (.putfield 33, 3) := by decide +kernel
theorem dX1_copyFrom_64 : decode cX1_copyFrom 64 = .ok (.aload_n 0, 1) := by decide +kernel
theorem dX1_copyFrom_65 : decode cX1_copyFrom 65 = .ok (.aload_n 1, 1) := by decide +kernel
theorem dX1_copyFrom_66 : decode cX1_copyFrom 66 = .ok (.getfield 36, 3) := by decide +kernel
theorem dX1_copyFrom_69 : decode cX1_copyFrom 69 = .ok (.putfield 36, 3) := by decide +kernel
theorem dX1_copyFrom_72 : decode cX1_copyFrom 72 = .ok (.aload_n 0, 1) := by decide +kernel
theorem dX1_copyFrom_73 : decode cX1_copyFrom 73 = .ok (.aload_n 1, 1) := by decide +kernel
theorem dX1_copyFrom_74 : decode cX1_copyFrom 74 = .ok (.getfield 40, 3) := by decide +kernel
theorem dX1_copyFrom_77 : decode cX1_copyFrom 77 = .ok (.putfield 40, 3) := by decide +kernel
theorem dX1_copyFrom_80 : decode cX1_copyFrom 80 = .ok (.return_, 1) := by decide +kernel
theorem dX1_isLost_0 : decode cX1_isLost 0 = .ok (.aload_n 0, 1) := by decide +kernel
theorem dX1_isLost_1 : decode cX1_isLost 1 = .ok (.getfield 33, 3) := by decide +kernel
theorem dX1_isLost_4 : decode cX1_isLost 4 = .ok (.bipush (-2), 2) := by decide +kernel
theorem dX1_isLost_6 : decode cX1_isLost 6 = .ok (.if_icmp .eq 7, 3) := by decide +kernel
theorem dX1_isLost_9 : decode cX1_isLost 9 = .ok (.iconst 1, 1) := by decide +kernel
theorem dX1_isLost_10 : decode cX1_isLost 10 = .ok (.goto 4, 3) := by decide +kernel
theorem dX1_isLost_13 : decode cX1_isLost 13 = .ok (.iconst 0, 1) := by decide +kernel
theorem dX1_isLost_14 : decode cX1_isLost 14 = .ok (.ireturn, 1) := by decide +kernel
theorem dX1_canFollow_0 : decode cX1_canFollow 0 = .ok (.aload_n 0, 1) := by decide +kernel
theorem dX1_canFollow_1 : decode cX1_canFollow 1 = .ok (.invokevirtual 43, 3) := by decide +kernel
theorem dX1_canFollow_4 : decode cX1_canFollow 4 = .ok (.ifCond .ne 17, 3) := by decide +kernel
theorem dX1_canFollow_7 : decode cX1_canFollow 7 = .ok (.aload_n 0, 1) := by decide +kernel
theorem dX1_canFollow_8 : decode cX1_canFollow 8 = .ok (.getfield 27, 3) := by decide +kernel
theorem dX1_canFollow_11 : decode cX1_canFollow 11 = .ok (.sipush 200, 3) := by decide +kernel
theorem dX1_canFollow_14 : decode cX1_canFollow 14 = .ok (.if_icmp .ge 7, 3) := by decide +kernel
theorem dX1_canFollow_17 : decode cX1_canFollow 17 = .ok (.iconst 1, 1) := by decide +kernel
theorem dX1_canFollow_18 : decode cX1_canFollow 18 = .ok (.goto 4, 3) := by decide +kernel
theorem dX1_canFollow_21 : decode cX1_canFollow 21 = .ok (.iconst 0, 1) := by decide +kernel
theorem dX1_canFollow_22 : decode cX1_canFollow 22 = .ok (.ireturn, 1) := by decide +kernel
theorem dX1_startOfPoint_0 : decode cX1_startOfPoint 0 = .ok (.aload_n 0, 1) := by decide +kernel
theorem dX1_startOfPoint_1 : decode cX1_startOfPoint 1 = .ok (.getfield 15, 3) := by decide +kernel
theorem dX1_startOfPoint_4 : decode cX1_startOfPoint 4 = .ok (.iconst 4, 1) := by decide +kernel
theorem dX1_startOfPoint_5 : decode cX1_startOfPoint 5 = .ok (.idiv, 1) := by decide +kernel
theorem dX1_startOfPoint_6 : decode cX1_startOfPoint 6 = .ok (.ireturn, 1) := by decide +kernel
theorem dX1_movePoint_0 : decode cX1_movePoint 0 = .ok (.iload_n 1, 1) := by decide +kernel
theorem dX1_movePoint_1 : decode cX1_movePoint 1 = .ok (.iload_n 2, 1) := by decide +kernel
theorem dX1_movePoint_2 : decode cX1_movePoint 2 = .ok (.if_icmp .le 29, 3) := by decide +kernel
theorem dX1_movePoint_5 : decode cX1_movePoint 5 = .ok (.aload_n 0, 1) := by decide +kernel
theorem dX1_movePoint_6 : decode cX1_movePoint 6 = .ok (.aload_n 0, 1) := by decide +kernel
theorem dX1_movePoint_7 : decode cX1_movePoint 7 = .ok (.getfield 15, 3) := by decide +kernel
theorem dX1_movePoint_10 : decode cX1_movePoint 10 = .ok (.ifCond .ne 9, 3) := by decide +kernel
theorem dX1_movePoint_13 : decode cX1_movePoint 13 = .ok (.sipush 247, 3) := by decide +kernel
theorem dX1_movePoint_16 : decode cX1_movePoint 16 = .ok (.goto 9, 3) := by decide +kernel
theorem dX1_movePoint_19 : decode cX1_movePoint 19 = .ok (.aload_n 0, 1) := by decide +kernel
theorem dX1_movePoint_20 : decode cX1_movePoint 20 = .ok (.getfield 15, 3) := by decide +kernel
theorem dX1_movePoint_23 : decode cX1_movePoint 23 = .ok (.iconst 1, 1) := by decide +kernel
theorem dX1_movePoint_24 : decode cX1_movePoint 24 = .ok (.isub, 1) := by decide +kernel
theorem dX1_movePoint_25 : decode cX1_movePoint 25 = .ok (.putfield 15, 3) := by decide +kernel
theorem dX1_movePoint_28 : decode cX1_movePoint 28 = .ok (.goto 32, 3) := by decide +kernel
theorem dX1_movePoint_31 : decode cX1_movePoint 31 = .ok (.iload_n 1, 1) := by decide +kernel
theorem dX1_movePoint_32 : decode cX1_movePoint 32 = .ok (.iload_n 2, 1) := by decide +kernel
theorem dX1_movePoint_33 : decode cX1_movePoint 33 = .ok (.if_icmp .ge 27, 3) := by decide +kernel
theorem dX1_movePoint_36 : decode cX1_movePoint 36 = .ok (.aload_n 0, 1) := by decide +kernel
theorem dX1_movePoint_37 : decode cX1_movePoint 37 = .ok (.aload_n 0, 1) := by decide +kernel
theorem dX1_movePoint_38 : decode cX1_movePoint 38 = .ok (.getfield 15, 3) := by decide +kernel
theorem dX1_movePoint_41 : decode cX1_movePoint 41 = .ok (.sipush 247, 3) := by decide +kernel
theorem dX1_movePoint_44 : decode cX1_movePoint 44 = .ok (.if_icmp .ne 7, 3) := by decide +kernel
theorem dX1_movePoint_47 : decode cX1_movePoint 47 = .ok (.iconst 0, 1) := by decide +kernel
theorem dX1_movePoint_48 : decode cX1_movePoint 48 = .ok (.goto 9, 3) := by decide +kernel
theorem dX1_movePoint_51 : decode cX1_movePoint 51 = .ok (.aload_n 0, 1) := by decide +kernel
theorem dX1_movePoint_52 : decode cX1_movePoint 52 = .ok (.getfield 15, 3) := by decide +kernel
theorem dX1_movePoint_55 : decode cX1_movePoint 55 = .ok (.iconst 1, 1) := by decide +kernel
theorem dX1_movePoint_56 : decode cX1_movePoint 56 = .ok (.iadd, 1) := by decide +kernel
theorem dX1_movePoint_57 : decode cX1_movePoint 57 = .ok (.putfield 15, 3) := by decide +kernel
theorem dX1_movePoint_60 : decode cX1_movePoint 60 = .ok (.return_, 1) := by decide +kernel
theorem dX1_moveTurn_0 : decode cX1_moveTurn 0 = .ok (.iload_n 1, 1) := by decide +kernel
theorem dX1_moveTurn_1 : decode cX1_moveTurn 1 = .ok (.ifCond .ge 8, 3) := by decide +kernel
theorem dX1_moveTurn_4 : decode cX1_moveTurn 4 = .ok (.iload_n 2, 1) := by decide +kernel
theorem dX1_moveTurn_5 : decode cX1_moveTurn 5 = .ok (.ineg, 1) := by decide +kernel
theorem dX1_moveTurn_6 : decode cX1_moveTurn 6 = .ok (.goto 4, 3) := by decide +kernel
theorem dX1_moveTurn_9 : decode cX1_moveTurn 9 = .ok (.iload_n 2, 1) := by decide +kernel
theorem dX1_moveTurn_10 : decode cX1_moveTurn 10 = .ok (.istore_n 3, 1) := by decide +kernel
theorem dX1_moveTurn_11 : decode cX1_moveTurn 11 = .ok (.iconst 2, 1) := by decide +kernel
theorem dX1_moveTurn_12 : decode cX1_moveTurn 12 = .ok (.iload_n 3, 1) := by decide +kernel
theorem dX1_moveTurn_13 : decode cX1_moveTurn 13 = .ok (.invokestatic 47, 3) := by decide +kernel
theorem dX1_moveTurn_16 : decode cX1_moveTurn 16 = .ok (.imul, 1) := by decide +kernel
theorem dX1_moveTurn_17 : decode cX1_moveTurn 17 = .ok (.iload_n 1, 1) := by decide +kernel
theorem dX1_moveTurn_18 : decode cX1_moveTurn 18 = .ok (.invokestatic 47, 3) := by decide +kernel
theorem dX1_moveTurn_21 : decode cX1_moveTurn 21 = .ok (.if_icmp .le 32, 3) := by decide +kernel
theorem dX1_moveTurn_24 : decode cX1_moveTurn 24 = .ok (.aload_n 0, 1) := by decide +kernel
theorem dX1_moveTurn_25 : decode cX1_moveTurn 25 = .ok (.iload_n 3, 1) := by decide +kernel
theorem dX1_moveTurn_26 : decode cX1_moveTurn 26 = .ok (.ifCond .le 12, 3) := by decide +kernel
theorem dX1_moveTurn_29 : decode cX1_moveTurn 29 = .ok (.aload_n 0, 1) := by decide +kernel
theorem dX1_moveTurn_30 : decode cX1_moveTurn 30 = .ok (.getfield 21, 3) := by decide +kernel
theorem dX1_moveTurn_33 : decode cX1_moveTurn 33 = .ok (.iconst 1, 1) := by decide +kernel
theorem dX1_moveTurn_34 : decode cX1_moveTurn 34 = .ok (.iadd, 1) := by decide +kernel
theorem dX1_moveTurn_35 : decode cX1_moveTurn 35 = .ok (.goto 12, 3) := by decide +kernel
theorem dX1_moveTurn_38 : decode cX1_moveTurn 38 = .ok (.aload_n 0, 1) := by decide +kernel
theorem dX1_moveTurn_39 : decode cX1_moveTurn 39 = .ok (.getfield 21, 3) := by decide +kernel
theorem dX1_moveTurn_42 : decode cX1_moveTurn 42 = .ok (.bipush 16, 2) := by decide +kernel
theorem dX1_moveTurn_44 : decode cX1_moveTurn 44 = .ok (.iadd, 1) := by decide +kernel
theorem dX1_moveTurn_45 : decode cX1_moveTurn 45 = .ok (.iconst 1, 1) := by decide +kernel
theorem dX1_moveTurn_46 : decode cX1_moveTurn 46 = .ok (.isub, 1) := by decide +kernel
theorem dX1_moveTurn_47 : decode cX1_moveTurn 47 = .ok (.bipush 16, 2) := by decide +kernel
theorem dX1_moveTurn_49 : decode cX1_moveTurn 49 = .ok (.irem, 1) := by decide +kernel
theorem dX1_moveTurn_50 : decode cX1_moveTurn 50 = .ok (.putfield 21, 3) := by decide +kernel
theorem dX1_moveTurn_53 : decode cX1_moveTurn 53 = .ok (.return_, 1) := by decide +kernel
theorem dX1_write_0 : decode cX1_write 0 = .ok (.aload_n 0, 1) := by decide +kernel
theorem dX1_write_1 : decode cX1_write 1 = .ok (.aload_n 0, 1) := by decide +kernel
theorem dX1_write_2 : decode cX1_write 2 = .ok (.getfield 36, 3) := by decide +kernel
theorem dX1_write_5 : decode cX1_write 5 = .ok (.iconst 1, 1) := by decide +kernel
theorem dX1_write_6 : decode cX1_write 6 = .ok (.lshl, 1) := by decide +kernel
theorem dX1_write_7 : decode cX1_write 7 = .ok (.iload_n 1, 1) := by decide +kernel
theorem dX1_write_8 : decode cX1_write 8 = .ok (.i2l, 1) := by decide +kernel
theorem dX1_write_9 : decode cX1_write 9 = .ok (.lor, 1) := by decide +kernel
theorem dX1_write_10 : decode cX1_write 10 = .ok (.putfield 36, 3) := by decide +kernel
theorem dX1_write_13 : decode cX1_write 13 = .ok (.aload_n 0, 1) := by decide +kernel
theorem dX1_write_14 : decode cX1_write 14 = .ok (.bipush 64, 2) := by decide +kernel
theorem dX1_write_16 : decode cX1_write 16 = .ok (.aload_n 0, 1) := by decide +kernel
theorem dX1_write_17 : decode cX1_write 17 = .ok (.getfield 40, 3) := by decide +kernel
theorem dX1_write_20 : decode cX1_write 20 = .ok (.iconst 1, 1) := by decide +kernel
theorem dX1_write_21 : decode cX1_write 21 = .ok (.iadd, 1) := by decide +kernel
theorem dX1_write_22 : decode cX1_write 22 = .ok (.invokestatic 53, 3) := by decide +kernel
theorem dX1_write_25 : decode cX1_write 25 = .ok (.putfield 40, 3) := by decide +kernel
theorem dX1_write_28 : decode cX1_write 28 = .ok (.return_, 1) := by decide +kernel
theorem dX1_hold_0 : decode cX1_hold 0 = .ok (.aload_n 0, 1) := by decide +kernel
theorem dX1_hold_1 : decode cX1_hold 1 = .ok (.iconst 4, 1) := by decide +kernel
theorem dX1_hold_2 : decode cX1_hold 2 = .ok (.iload_n 1, 1) := by decide +kernel
theorem dX1_hold_3 : decode cX1_hold 3 = .ok (.imul, 1) := by decide +kernel
theorem dX1_hold_4 : decode cX1_hold 4 = .ok (.aload_n 0, 1) := by decide +kernel
theorem dX1_hold_5 : decode cX1_hold 5 = .ok (.getfield 24, 3) := by decide +kernel
theorem dX1_hold_8 : decode cX1_hold 8 = .ok (.if_icmp .ge 12, 3) := by decide +kernel
theorem dX1_hold_11 : decode cX1_hold 11 = .ok (.aload_n 0, 1) := by decide +kernel
theorem dX1_hold_12 : decode cX1_hold 12 = .ok (.getfield 30, 3) := by decide +kernel
theorem dX1_hold_15 : decode cX1_hold 15 = .ok (.iconst 1, 1) := by decide +kernel
theorem dX1_hold_16 : decode cX1_hold 16 = .ok (.iadd, 1) := by decide +kernel
theorem dX1_hold_17 : decode cX1_hold 17 = .ok (.goto 4, 3) := by decide +kernel
theorem dX1_hold_20 : decode cX1_hold 20 = .ok (.iconst 0, 1) := by decide +kernel
theorem dX1_hold_21 : decode cX1_hold 21 = .ok (.putfield 30, 3) := by decide +kernel
theorem dX1_hold_24 : decode cX1_hold 24 = .ok (.aload_n 0, 1) := by decide +kernel
theorem dX1_hold_25 : decode cX1_hold 25 = .ok (.getfield 30, 3) := by decide +kernel
theorem dX1_hold_28 : decode cX1_hold 28 = .ok (.iconst 3, 1) := by decide +kernel
theorem dX1_hold_29 : decode cX1_hold 29 = .ok (.if_icmp .ne 11, 3) := by decide +kernel
theorem dX1_hold_32 : decode cX1_hold 32 = .ok (.aload_n 0, 1) := by decide +kernel
theorem dX1_hold_33 : decode cX1_hold 33 = .ok (.aload_n 0, 1) := by decide +kernel
theorem dX1_hold_34 : decode cX1_hold 34 = .ok (.getfield 27, 3) := by decide +kernel
theorem dX1_hold_37 : decode cX1_hold 37 = .ok (.putfield 33, 3) := by decide +kernel
theorem dX1_hold_40 : decode cX1_hold 40 = .ok (.aload_n 0, 1) := by decide +kernel
theorem dX1_hold_41 : decode cX1_hold 41 = .ok (.dup, 1) := by decide +kernel
theorem dX1_hold_42 : decode cX1_hold 42 = .ok (.getfield 27, 3) := by decide +kernel
theorem dX1_hold_45 : decode cX1_hold 45 = .ok (.iconst 1, 1) := by decide +kernel
theorem dX1_hold_46 : decode cX1_hold 46 = .ok (.iadd, 1) := by decide +kernel
theorem dX1_hold_47 : decode cX1_hold 47 = .ok (.putfield 27, 3) := by decide +kernel
theorem dX1_hold_50 : decode cX1_hold 50 = .ok (.return_, 1) := by decide +kernel
theorem dX1_logBit_0 : decode cX1_logBit 0 = .ok (.aload_n 0, 1) := by decide +kernel
theorem dX1_logBit_1 : decode cX1_logBit 1 = .ok (.getfield 36, 3) := by decide +kernel
theorem dX1_logBit_4 : decode cX1_logBit 4 = .ok (.aload_n 0, 1) := by decide +kernel
theorem dX1_logBit_5 : decode cX1_logBit 5 = .ok (.getfield 40, 3) := by decide +kernel
theorem dX1_logBit_8 : decode cX1_logBit 8 = .ok (.iconst 1, 1) := by decide +kernel
theorem dX1_logBit_9 : decode cX1_logBit 9 = .ok (.isub, 1) := by decide +kernel
theorem dX1_logBit_10 : decode cX1_logBit 10 = .ok (.iload_n 1, 1) := by decide +kernel
theorem dX1_logBit_11 : decode cX1_logBit 11 = .ok (.isub, 1) := by decide +kernel
theorem dX1_logBit_12 : decode cX1_logBit 12 = .ok (.lushr, 1) := by decide +kernel
theorem dX1_logBit_13 : decode cX1_logBit 13 = .ok (.l2i, 1) := by decide +kernel
theorem dX1_logBit_14 : decode cX1_logBit 14 = .ok (.iconst 1, 1) := by decide +kernel
theorem dX1_logBit_15 : decode cX1_logBit 15 = .ok (.iand, 1) := by decide +kernel
theorem dX1_logBit_16 : decode cX1_logBit 16 = .ok (.ireturn, 1) := by decide +kernel
theorem dX1_told_0 : decode cX1_told 0 = .ok (.iload_n 1, 1) := by decide +kernel
theorem dX1_told_1 : decode cX1_told 1 = .ok (.tableswitch 96 0 8 #[51, 56, 61, 66, 71, 76, 81, 86, 91], 51) := by decide +kernel
theorem dX1_told_52 : decode cX1_told 52 = .ok (.aload_n 0, 1) := by decide +kernel
theorem dX1_told_53 : decode cX1_told 53 = .ok (.getfield 9, 3) := by decide +kernel
theorem dX1_told_56 : decode cX1_told 56 = .ok (.ireturn, 1) := by decide +kernel
theorem dX1_told_57 : decode cX1_told 57 = .ok (.aload_n 0, 1) := by decide +kernel
theorem dX1_told_58 : decode cX1_told 58 = .ok (.getfield 15, 3) := by decide +kernel
theorem dX1_told_61 : decode cX1_told 61 = .ok (.ireturn, 1) := by decide +kernel
theorem dX1_told_62 : decode cX1_told 62 = .ok (.aload_n 0, 1) := by decide +kernel
theorem dX1_told_63 : decode cX1_told 63 = .ok (.getfield 18, 3) := by decide +kernel
theorem dX1_told_66 : decode cX1_told 66 = .ok (.ireturn, 1) := by decide +kernel
theorem dX1_told_67 : decode cX1_told 67 = .ok (.aload_n 0, 1) := by decide +kernel
theorem dX1_told_68 : decode cX1_told 68 = .ok (.getfield 21, 3) := by decide +kernel
theorem dX1_told_71 : decode cX1_told 71 = .ok (.ireturn, 1) := by decide +kernel
theorem dX1_told_72 : decode cX1_told 72 = .ok (.aload_n 0, 1) := by decide +kernel
theorem dX1_told_73 : decode cX1_told 73 = .ok (.getfield 24, 3) := by decide +kernel
theorem dX1_told_76 : decode cX1_told 76 = .ok (.ireturn, 1) := by decide +kernel
theorem dX1_told_77 : decode cX1_told 77 = .ok (.aload_n 0, 1) := by decide +kernel
theorem dX1_told_78 : decode cX1_told 78 = .ok (.getfield 27, 3) := by decide +kernel
theorem dX1_told_81 : decode cX1_told 81 = .ok (.ireturn, 1) := by decide +kernel
theorem dX1_told_82 : decode cX1_told 82 = .ok (.aload_n 0, 1) := by decide +kernel
theorem dX1_told_83 : decode cX1_told 83 = .ok (.getfield 30, 3) := by decide +kernel
theorem dX1_told_86 : decode cX1_told 86 = .ok (.ireturn, 1) := by decide +kernel
theorem dX1_told_87 : decode cX1_told 87 = .ok (.aload_n 0, 1) := by decide +kernel
theorem dX1_told_88 : decode cX1_told 88 = .ok (.getfield 33, 3) := by decide +kernel
theorem dX1_told_91 : decode cX1_told 91 = .ok (.ireturn, 1) := by decide +kernel
theorem dX1_told_92 : decode cX1_told 92 = .ok (.aload_n 0, 1) := by decide +kernel
theorem dX1_told_93 : decode cX1_told 93 = .ok (.getfield 40, 3) := by decide +kernel
theorem dX1_told_96 : decode cX1_told 96 = .ok (.ireturn, 1) := by decide +kernel
theorem dX1_told_97 : decode cX1_told 97 = .ok (.iconst (-1), 1) := by decide +kernel
theorem dX1_told_98 : decode cX1_told 98 = .ok (.ireturn, 1) := by decide +kernel
theorem dX2_init_0 : decode cX2_init 0 = .ok (.aload_n 0, 1) := by decide +kernel
theorem dX2_init_1 : decode cX2_init 1 = .ok (.invokespecial 3, 3) := by decide +kernel
theorem dX2_init_4 : decode cX2_init 4 = .ok (.aload_n 0, 1) := by decide +kernel
theorem dX2_init_5 : decode cX2_init 5 = .ok (.bipush 62, 2) := by decide +kernel
theorem dX2_init_7 : decode cX2_init 7 = .ok (.newarray .int, 2) := by decide +kernel
theorem dX2_init_9 : decode cX2_init 9 = .ok (.putfield 9, 3) := by decide +kernel
theorem dX2_init_12 : decode cX2_init 12 = .ok (.aload_n 0, 1) := by decide +kernel
theorem dX2_init_13 : decode cX2_init 13 = .ok (.bipush 62, 2) := by decide +kernel
theorem dX2_init_15 : decode cX2_init 15 = .ok (.newarray .int, 2) := by decide +kernel
theorem dX2_init_17 : decode cX2_init 17 = .ok (.putfield 15, 3) := by decide +kernel
theorem dX2_init_20 : decode cX2_init 20 = .ok (.aload_n 0, 1) := by decide +kernel
theorem dX2_init_21 : decode cX2_init 21 = .ok (.iconst (-1), 1) := by decide +kernel
theorem dX2_init_22 : decode cX2_init 22 = .ok (.putfield 18, 3) := by decide +kernel
theorem dX2_init_25 : decode cX2_init 25 = .ok (.aload_n 0, 1) := by decide +kernel
theorem dX2_init_26 : decode cX2_init 26 = .ok (.bipush 31, 2) := by decide +kernel
theorem dX2_init_28 : decode cX2_init 28 = .ok (.newarray .int, 2) := by decide +kernel
theorem dX2_init_30 : decode cX2_init 30 = .ok (.putfield 22, 3) := by decide +kernel
theorem dX2_init_33 : decode cX2_init 33 = .ok (.aload_n 0, 1) := by decide +kernel
theorem dX2_init_34 : decode cX2_init 34 = .ok (.bipush 62, 2) := by decide +kernel
theorem dX2_init_36 : decode cX2_init 36 = .ok (.newarray .long, 2) := by decide +kernel
theorem dX2_init_38 : decode cX2_init 38 = .ok (.putfield 25, 3) := by decide +kernel
theorem dX2_init_41 : decode cX2_init 41 = .ok (.aload_n 0, 1) := by decide +kernel
theorem dX2_init_42 : decode cX2_init 42 = .ok (.bipush 124, 2) := by decide +kernel
theorem dX2_init_44 : decode cX2_init 44 = .ok (.newarray .long, 2) := by decide +kernel
theorem dX2_init_46 : decode cX2_init 46 = .ok (.putfield 29, 3) := by decide +kernel
theorem dX2_init_49 : decode cX2_init 49 = .ok (.return_, 1) := by decide +kernel
theorem dX2_forget_0 : decode cX2_forget 0 = .ok (.aload_n 0, 1) := by decide +kernel
theorem dX2_forget_1 : decode cX2_forget 1 = .ok (.iconst (-1), 1) := by decide +kernel
theorem dX2_forget_2 : decode cX2_forget 2 = .ok (.putfield 18, 3) := by decide +kernel
theorem dX2_forget_5 : decode cX2_forget 5 = .ok (.return_, 1) := by decide +kernel
theorem dX2_hear_0 : decode cX2_hear 0 = .ok (.aload_n 0, 1) := by decide +kernel
theorem dX2_hear_1 : decode cX2_hear 1 = .ok (.getfield 18, 3) := by decide +kernel
theorem dX2_hear_4 : decode cX2_hear 4 = .ok (.iload_n 2, 1) := by decide +kernel
theorem dX2_hear_5 : decode cX2_hear 5 = .ok (.if_icmp .eq 23, 3) := by decide +kernel
theorem dX2_hear_8 : decode cX2_hear 8 = .ok (.aload_n 0, 1) := by decide +kernel
theorem dX2_hear_9 : decode cX2_hear 9 = .ok (.aload_n 1, 1) := by decide +kernel
theorem dX2_hear_10 : decode cX2_hear 10 = .ok (.iload_n 2, 1) := by decide +kernel
theorem dX2_hear_11 : decode cX2_hear 11 = .ok (.aload_n 1, 1) := by decide +kernel
theorem dX2_hear_12 : decode cX2_hear 12 = .ok (.getfield 32, 3) := by decide +kernel
theorem dX2_hear_15 : decode cX2_hear 15 = .ok (.aload_n 1, 1) := by decide +kernel
theorem dX2_hear_16 : decode cX2_hear 16 = .ok (.getfield 37, 3) := by decide +kernel
theorem dX2_hear_19 : decode cX2_hear 19 = .ok (.iconst (-1), 1) := by decide +kernel
theorem dX2_hear_20 : decode cX2_hear 20 = .ok (.invokevirtual 40, 3) := by decide +kernel
theorem dX2_hear_23 : decode cX2_hear 23 = .ok (.aload_n 0, 1) := by decide +kernel
theorem dX2_hear_24 : decode cX2_hear 24 = .ok (.iload_n 2, 1) := by decide +kernel
theorem dX2_hear_25 : decode cX2_hear 25 = .ok (.putfield 18, 3) := by decide +kernel
theorem dX2_hear_28 : decode cX2_hear 28 = .ok (.return_, 1) := by decide +kernel
theorem dX2_hearAs_0 : decode cX2_hearAs 0 = .ok (.aload_n 0, 1) := by decide +kernel
theorem dX2_hearAs_1 : decode cX2_hearAs 1 = .ok (.iconst (-1), 1) := by decide +kernel
theorem dX2_hearAs_2 : decode cX2_hearAs 2 = .ok (.putfield 18, 3) := by decide +kernel
theorem dX2_hearAs_5 : decode cX2_hearAs 5 = .ok (.iconst 0, 1) := by decide +kernel
theorem dX2_hearAs_6 : decode cX2_hearAs 6 = .ok (.istore 6, 2) := by decide +kernel
theorem dX2_hearAs_8 : decode cX2_hearAs 8 = .ok (.iload 6, 2) := by decide +kernel
theorem dX2_hearAs_10 : decode cX2_hearAs 10 = .ok (.bipush 62, 2) := by decide +kernel
theorem dX2_hearAs_12 : decode cX2_hearAs 12 = .ok (.if_icmp .ge 25, 3) := by decide +kernel
theorem dX2_hearAs_15 : decode cX2_hearAs 15 = .ok (.aload_n 0, 1) := by decide +kernel
theorem dX2_hearAs_16 : decode cX2_hearAs 16 = .ok (.getfield 9, 3) := by decide +kernel
theorem dX2_hearAs_19 : decode cX2_hearAs 19 = .ok (.iload 6, 2) := by decide +kernel
theorem dX2_hearAs_21 : decode cX2_hearAs 21 = .ok (.iconst 0, 1) := by decide +kernel
theorem dX2_hearAs_22 : decode cX2_hearAs 22 = .ok (.iastore, 1) := by decide +kernel
theorem dX2_hearAs_23 : decode cX2_hearAs 23 = .ok (.aload_n 0, 1) := by decide +kernel
theorem dX2_hearAs_24 : decode cX2_hearAs 24 = .ok (.getfield 15, 3) := by decide +kernel
theorem dX2_hearAs_27 : decode cX2_hearAs 27 = .ok (.iload 6, 2) := by decide +kernel
theorem dX2_hearAs_29 : decode cX2_hearAs 29 = .ok (.iconst 0, 1) := by decide +kernel
theorem dX2_hearAs_30 : decode cX2_hearAs 30 = .ok (.iastore, 1) := by decide +kernel
theorem dX2_hearAs_31 : decode cX2_hearAs 31 = .ok (.iinc 6 1, 3) := by decide +kernel
theorem dX2_hearAs_34 : decode cX2_hearAs 34 = .ok (.goto (-26), 3) := by decide +kernel
theorem dX2_hearAs_37 : decode cX2_hearAs 37 = .ok (.iconst 0, 1) := by decide +kernel
theorem dX2_hearAs_38 : decode cX2_hearAs 38 = .ok (.istore 6, 2) := by decide +kernel
theorem dX2_hearAs_40 : decode cX2_hearAs 40 = .ok (.iload 6, 2) := by decide +kernel
theorem dX2_hearAs_42 : decode cX2_hearAs 42 = .ok (.aload_n 1, 1) := by decide +kernel
theorem dX2_hearAs_43 : decode cX2_hearAs 43 = .ok (.getfield 44, 3) := by decide +kernel
theorem dX2_hearAs_46 : decode cX2_hearAs 46 = .ok (.if_icmp .ge 48, 3) := by decide +kernel
theorem dX2_hearAs_49 : decode cX2_hearAs 49 = .ok (.iload 5, 2) := by decide +kernel
theorem dX2_hearAs_51 : decode cX2_hearAs 51 = .ok (.iconst (-1), 1) := by decide +kernel
theorem dX2_hearAs_52 : decode cX2_hearAs 52 = .ok (.if_icmp .eq 10, 3) := by decide +kernel
theorem dX2_hearAs_55 : decode cX2_hearAs 55 = .ok (.iload 5, 2) := by decide +kernel
theorem dX2_hearAs_57 : decode cX2_hearAs 57 = .ok (.iload 6, 2) := by decide +kernel
theorem dX2_hearAs_59 : decode cX2_hearAs 59 = .ok (.if_icmp .ne 29, 3) := by decide +kernel
theorem dX2_hearAs_62 : decode cX2_hearAs 62 = .ok (.aload_n 1, 1) := by decide +kernel
theorem dX2_hearAs_63 : decode cX2_hearAs 63 = .ok (.getfield 47, 3) := by decide +kernel
theorem dX2_hearAs_66 : decode cX2_hearAs 66 = .ok (.iload 6, 2) := by decide +kernel
theorem dX2_hearAs_68 : decode cX2_hearAs 68 = .ok (.aaload, 1) := by decide +kernel
theorem dX2_hearAs_69 : decode cX2_hearAs 69 = .ok (.iload_n 2, 1) := by decide +kernel
theorem dX2_hearAs_70 : decode cX2_hearAs 70 = .ok (.invokevirtual 51, 3) := by decide +kernel
theorem dX2_hearAs_73 : decode cX2_hearAs 73 = .ok (.ifCond .eq 15, 3) := by decide +kernel
theorem dX2_hearAs_76 : decode cX2_hearAs 76 = .ok (.aload_n 0, 1) := by decide +kernel
theorem dX2_hearAs_77 : decode cX2_hearAs 77 = .ok (.aload_n 1, 1) := by decide +kernel
theorem dX2_hearAs_78 : decode cX2_hearAs 78 = .ok (.getfield 47, 3) := by decide +kernel
theorem dX2_hearAs_81 : decode cX2_hearAs 81 = .ok (.iload 6, 2) := by decide +kernel
theorem dX2_hearAs_83 : decode cX2_hearAs 83 = .ok (.aaload, 1) := by decide +kernel
theorem dX2_hearAs_84 : decode cX2_hearAs 84 = .ok (.iload_n 2, 1) := by decide +kernel
theorem dX2_hearAs_85 : decode cX2_hearAs 85 = .ok (.invokevirtual 57, 3) := by decide +kernel
theorem dX2_hearAs_88 : decode cX2_hearAs 88 = .ok (.iinc 6 1, 3) := by decide +kernel
theorem dX2_hearAs_91 : decode cX2_hearAs 91 = .ok (.goto (-51), 3) := by decide +kernel
theorem dX2_hearAs_94 : decode cX2_hearAs 94 = .ok (.iload_n 3, 1) := by decide +kernel
theorem dX2_hearAs_95 : decode cX2_hearAs 95 = .ok (.ifCond .le 11, 3) := by decide +kernel
theorem dX2_hearAs_98 : decode cX2_hearAs 98 = .ok (.aload_n 0, 1) := by decide +kernel
theorem dX2_hearAs_99 : decode cX2_hearAs 99 = .ok (.iload_n 2, 1) := by decide +kernel
theorem dX2_hearAs_100 : decode cX2_hearAs 100 = .ok (.iload_n 3, 1) := by decide +kernel
theorem dX2_hearAs_101 : decode cX2_hearAs 101 = .ok (.iload 4, 2) := by decide +kernel
theorem dX2_hearAs_103 : decode cX2_hearAs 103 = .ok (.invokevirtual 61, 3) := by decide +kernel
theorem dX2_hearAs_106 : decode cX2_hearAs 106 = .ok (.return_, 1) := by decide +kernel
theorem dX2_addBird_0 : decode cX2_addBird 0 = .ok (.bipush 62, 2) := by decide +kernel
theorem dX2_addBird_2 : decode cX2_addBird 2 = .ok (.iload_n 2, 1) := by decide +kernel
theorem dX2_addBird_3 : decode cX2_addBird 3 = .ok (.imul, 1) := by decide +kernel
theorem dX2_addBird_4 : decode cX2_addBird 4 = .ok (.istore_n 3, 1) := by decide +kernel
theorem dX2_addBird_5 : decode cX2_addBird 5 = .ok (.iload_n 3, 1) := by decide +kernel
theorem dX2_addBird_6 : decode cX2_addBird 6 = .ok (.aload_n 1, 1) := by decide +kernel
theorem dX2_addBird_7 : decode cX2_addBird 7 = .ok (.iload_n 2, 1) := by decide +kernel
theorem dX2_addBird_8 : decode cX2_addBird 8 = .ok (.invokevirtual 65, 3) := by decide +kernel
theorem dX2_addBird_11 : decode cX2_addBird 11 = .ok (.isub, 1) := by decide +kernel
theorem dX2_addBird_12 : decode cX2_addBird 12 = .ok (.bipush 62, 2) := by decide +kernel
theorem dX2_addBird_14 : decode cX2_addBird 14 = .ok (.invokestatic 69, 3) := by decide +kernel
theorem dX2_addBird_17 : decode cX2_addBird 17 = .ok (.istore 4, 2) := by decide +kernel
theorem dX2_addBird_19 : decode cX2_addBird 19 = .ok (.iload_n 3, 1) := by decide +kernel
theorem dX2_addBird_20 : decode cX2_addBird 20 = .ok (.aload_n 1, 1) := by decide +kernel
theorem dX2_addBird_21 : decode cX2_addBird 21 = .ok (.iload_n 2, 1) := by decide +kernel
theorem dX2_addBird_22 : decode cX2_addBird 22 = .ok (.invokevirtual 65, 3) := by decide +kernel
theorem dX2_addBird_25 : decode cX2_addBird 25 = .ok (.isub, 1) := by decide +kernel
theorem dX2_addBird_26 : decode cX2_addBird 26 = .ok (.bipush 62, 2) := by decide +kernel
theorem dX2_addBird_28 : decode cX2_addBird 28 = .ok (.iload 4, 2) := by decide +kernel
theorem dX2_addBird_30 : decode cX2_addBird 30 = .ok (.imul, 1) := by decide +kernel
theorem dX2_addBird_31 : decode cX2_addBird 31 = .ok (.isub, 1) := by decide +kernel
theorem dX2_addBird_32 : decode cX2_addBird 32 = .ok (.istore 5, 2) := by decide +kernel
theorem dX2_addBird_34 : decode cX2_addBird 34 = .ok (.aload_n 1, 1) := by decide +kernel
theorem dX2_addBird_35 : decode cX2_addBird 35 = .ok (.iload 4, 2) := by decide +kernel
theorem dX2_addBird_37 : decode cX2_addBird 37 = .ok (.invokevirtual 75, 3) := by decide +kernel
theorem dX2_addBird_40 : decode cX2_addBird 40 = .ok (.istore 6, 2) := by decide +kernel
theorem dX2_addBird_42 : decode cX2_addBird 42 = .ok (.iconst 0, 1) := by decide +kernel
theorem dX2_addBird_43 : decode cX2_addBird 43 = .ok (.istore 7, 2) := by decide +kernel
theorem dX2_addBird_45 : decode cX2_addBird 45 = .ok (.iload 7, 2) := by decide +kernel
theorem dX2_addBird_47 : decode cX2_addBird 47 = .ok (.bipush 62, 2) := by decide +kernel
theorem dX2_addBird_49 : decode cX2_addBird 49 = .ok (.if_icmp .ge 124, 3) := by decide +kernel
theorem dX2_addBird_52 : decode cX2_addBird 52 = .ok (.iload_n 3, 1) := by decide +kernel
theorem dX2_addBird_53 : decode cX2_addBird 53 = .ok (.iload 7, 2) := by decide +kernel
theorem dX2_addBird_55 : decode cX2_addBird 55 = .ok (.iadd, 1) := by decide +kernel
theorem dX2_addBird_56 : decode cX2_addBird 56 = .ok (.aload_n 1, 1) := by decide +kernel
theorem dX2_addBird_57 : decode cX2_addBird 57 = .ok (.getfield 78, 3) := by decide +kernel
theorem dX2_addBird_60 : decode cX2_addBird 60 = .ok (.aload_n 1, 1) := by decide +kernel
theorem dX2_addBird_61 : decode cX2_addBird 61 = .ok (.getfield 81, 3) := by decide +kernel
theorem dX2_addBird_64 : decode cX2_addBird 64 = .ok (.invokestatic 84, 3) := by decide +kernel
theorem dX2_addBird_67 : decode cX2_addBird 67 = .ok (.istore 8, 2) := by decide +kernel
theorem dX2_addBird_69 : decode cX2_addBird 69 = .ok (.aload_n 1, 1) := by decide +kernel
theorem dX2_addBird_70 : decode cX2_addBird 70 = .ok (.getfield 88, 3) := by decide +kernel
theorem dX2_addBird_73 : decode cX2_addBird 73 = .ok (.iload 5, 2) := by decide +kernel
theorem dX2_addBird_75 : decode cX2_addBird 75 = .ok (.iconst 2, 1) := by decide +kernel
theorem dX2_addBird_76 : decode cX2_addBird 76 = .ok (.idiv, 1) := by decide +kernel
theorem dX2_addBird_77 : decode cX2_addBird 77 = .ok (.iushr, 1) := by decide +kernel
theorem dX2_addBird_78 : decode cX2_addBird 78 = .ok (.iconst 1, 1) := by decide +kernel
theorem dX2_addBird_79 : decode cX2_addBird 79 = .ok (.iand, 1) := by decide +kernel
theorem dX2_addBird_80 : decode cX2_addBird 80 = .ok (.iload 6, 2) := by decide +kernel
theorem dX2_addBird_82 : decode cX2_addBird 82 = .ok (.if_icmp .ne 11, 3) := by decide +kernel
theorem dX2_addBird_85 : decode cX2_addBird 85 = .ok (.aload_n 1, 1) := by decide +kernel
theorem dX2_addBird_86 : decode cX2_addBird 86 = .ok (.getfield 91, 3) := by decide +kernel
theorem dX2_addBird_89 : decode cX2_addBird 89 = .ok (.ineg, 1) := by decide +kernel
theorem dX2_addBird_90 : decode cX2_addBird 90 = .ok (.goto 7, 3) := by decide +kernel
theorem dX2_addBird_93 : decode cX2_addBird 93 = .ok (.aload_n 1, 1) := by decide +kernel
theorem dX2_addBird_94 : decode cX2_addBird 94 = .ok (.getfield 91, 3) := by decide +kernel
theorem dX2_addBird_97 : decode cX2_addBird 97 = .ok (.istore 9, 2) := by decide +kernel
theorem dX2_addBird_99 : decode cX2_addBird 99 = .ok (.aload_n 0, 1) := by decide +kernel
theorem dX2_addBird_100 : decode cX2_addBird 100 = .ok (.getfield 9, 3) := by decide +kernel
theorem dX2_addBird_103 : decode cX2_addBird 103 = .ok (.iload 7, 2) := by decide +kernel
theorem dX2_addBird_105 : decode cX2_addBird 105 = .ok (.dup2, 1) := by decide +kernel
theorem dX2_addBird_106 : decode cX2_addBird 106 = .ok (.iaload, 1) := by decide +kernel
theorem dX2_addBird_107 : decode cX2_addBird 107 = .ok (.iload 9, 2) := by decide +kernel
theorem dX2_addBird_109 : decode cX2_addBird 109 = .ok (.getstatic 94, 3) := by decide +kernel
theorem dX2_addBird_112 : decode cX2_addBird 112 = .ok (.iload 8, 2) := by decide +kernel
theorem dX2_addBird_114 : decode cX2_addBird 114 = .ok (.iaload, 1) := by decide +kernel
theorem dX2_addBird_115 : decode cX2_addBird 115 = .ok (.imul, 1) := by decide +kernel
theorem dX2_addBird_116 : decode cX2_addBird 116 = .ok (.iadd, 1) := by decide +kernel
theorem dX2_addBird_117 : decode cX2_addBird 117 = .ok (.iastore, 1) := by decide +kernel
theorem dX2_addBird_118 : decode cX2_addBird 118 = .ok (.aload_n 0, 1) := by decide +kernel
theorem dX2_addBird_119 : decode cX2_addBird 119 = .ok (.getfield 15, 3) := by decide +kernel
theorem dX2_addBird_122 : decode cX2_addBird 122 = .ok (.iload 7, 2) := by decide +kernel
theorem dX2_addBird_124 : decode cX2_addBird 124 = .ok (.dup2, 1) := by decide +kernel
theorem dX2_addBird_125 : decode cX2_addBird 125 = .ok (.iaload, 1) := by decide +kernel
theorem dX2_addBird_126 : decode cX2_addBird 126 = .ok (.iload 9, 2) := by decide +kernel
theorem dX2_addBird_128 : decode cX2_addBird 128 = .ok (.getstatic 94, 3) := by decide +kernel
theorem dX2_addBird_131 : decode cX2_addBird 131 = .ok (.iload 8, 2) := by decide +kernel
theorem dX2_addBird_133 : decode cX2_addBird 133 = .ok (.bipush 12, 2) := by decide +kernel
theorem dX2_addBird_135 : decode cX2_addBird 135 = .ok (.iadd, 1) := by decide +kernel
theorem dX2_addBird_136 : decode cX2_addBird 136 = .ok (.bipush 15, 2) := by decide +kernel
theorem dX2_addBird_138 : decode cX2_addBird 138 = .ok (.iand, 1) := by decide +kernel
theorem dX2_addBird_139 : decode cX2_addBird 139 = .ok (.iaload, 1) := by decide +kernel
theorem dX2_addBird_140 : decode cX2_addBird 140 = .ok (.imul, 1) := by decide +kernel
theorem dX2_addBird_141 : decode cX2_addBird 141 = .ok (.iadd, 1) := by decide +kernel
theorem dX2_addBird_142 : decode cX2_addBird 142 = .ok (.iastore, 1) := by decide +kernel
theorem dX2_addBird_143 : decode cX2_addBird 143 = .ok (.iinc 5 1, 3) := by decide +kernel
theorem dX2_addBird_146 : decode cX2_addBird 146 = .ok (.iload 5, 2) := by decide +kernel
theorem dX2_addBird_148 : decode cX2_addBird 148 = .ok (.bipush 62, 2) := by decide +kernel
theorem dX2_addBird_150 : decode cX2_addBird 150 = .ok (.if_icmp .ne 17, 3) := by decide +kernel
theorem dX2_addBird_153 : decode cX2_addBird 153 = .ok (.iconst 0, 1) := by decide +kernel
theorem dX2_addBird_154 : decode cX2_addBird 154 = .ok (.istore 5, 2) := by decide +kernel
theorem dX2_addBird_156 : decode cX2_addBird 156 = .ok (.iinc 4 1, 3) := by decide +kernel
theorem dX2_addBird_159 : decode cX2_addBird 159 = .ok (.aload_n 1, 1) := by decide +kernel
theorem dX2_addBird_160 : decode cX2_addBird 160 = .ok (.iload 4, 2) := by decide +kernel
theorem dX2_addBird_162 : decode cX2_addBird 162 = .ok (.invokevirtual 75, 3) := by decide +kernel
theorem dX2_addBird_165 : decode cX2_addBird 165 = .ok (.istore 6, 2) := by decide +kernel
theorem dX2_addBird_167 : decode cX2_addBird 167 = .ok (.iinc 7 1, 3) := by decide +kernel
theorem dX2_addBird_170 : decode cX2_addBird 170 = .ok (.goto (-125), 3) := by decide +kernel
theorem dX2_addBird_173 : decode cX2_addBird 173 = .ok (.return_, 1) := by decide +kernel
theorem dX2_addNoise_0 : decode cX2_addNoise 0 = .ok (.iconst 0, 1) := by decide +kernel
theorem dX2_addNoise_1 : decode cX2_addNoise 1 = .ok (.istore 4, 2) := by decide +kernel
theorem dX2_addNoise_3 : decode cX2_addNoise 3 = .ok (.iload 4, 2) := by decide +kernel
theorem dX2_addNoise_5 : decode cX2_addNoise 5 = .ok (.bipush 62, 2) := by decide +kernel
theorem dX2_addNoise_7 : decode cX2_addNoise 7 = .ok (.if_icmp .ge 58, 3) := by decide +kernel
theorem dX2_addNoise_10 : decode cX2_addNoise 10 = .ok (.iload_n 3, 1) := by decide +kernel
theorem dX2_addNoise_11 : decode cX2_addNoise 11 = .ok (.bipush 62, 2) := by decide +kernel
theorem dX2_addNoise_13 : decode cX2_addNoise 13 = .ok (.iload_n 1, 1) := by decide +kernel
theorem dX2_addNoise_14 : decode cX2_addNoise 14 = .ok (.imul, 1) := by decide +kernel
theorem dX2_addNoise_15 : decode cX2_addNoise 15 = .ok (.iadd, 1) := by decide +kernel
theorem dX2_addNoise_16 : decode cX2_addNoise 16 = .ok (.iload 4, 2) := by decide +kernel
theorem dX2_addNoise_18 : decode cX2_addNoise 18 = .ok (.iadd, 1) := by decide +kernel
theorem dX2_addNoise_19 : decode cX2_addNoise 19 = .ok (.invokestatic 97, 3) := by decide +kernel
theorem dX2_addNoise_22 : decode cX2_addNoise 22 = .ok (.istore 5, 2) := by decide +kernel
theorem dX2_addNoise_24 : decode cX2_addNoise 24 = .ok (.aload_n 0, 1) := by decide +kernel
theorem dX2_addNoise_25 : decode cX2_addNoise 25 = .ok (.getfield 9, 3) := by decide +kernel
theorem dX2_addNoise_28 : decode cX2_addNoise 28 = .ok (.iload 4, 2) := by decide +kernel
theorem dX2_addNoise_30 : decode cX2_addNoise 30 = .ok (.dup2, 1) := by decide +kernel
theorem dX2_addNoise_31 : decode cX2_addNoise 31 = .ok (.iaload, 1) := by decide +kernel
theorem dX2_addNoise_32 : decode cX2_addNoise 32 = .ok (.iload 5, 2) := by decide +kernel
theorem dX2_addNoise_34 : decode cX2_addNoise 34 = .ok (.iload_n 2, 1) := by decide +kernel
theorem dX2_addNoise_35 : decode cX2_addNoise 35 = .ok (.invokestatic 100, 3) := by decide +kernel
theorem dX2_addNoise_38 : decode cX2_addNoise 38 = .ok (.iadd, 1) := by decide +kernel
theorem dX2_addNoise_39 : decode cX2_addNoise 39 = .ok (.iastore, 1) := by decide +kernel
theorem dX2_addNoise_40 : decode cX2_addNoise 40 = .ok (.aload_n 0, 1) := by decide +kernel
theorem dX2_addNoise_41 : decode cX2_addNoise 41 = .ok (.getfield 15, 3) := by decide +kernel
theorem dX2_addNoise_44 : decode cX2_addNoise 44 = .ok (.iload 4, 2) := by decide +kernel
theorem dX2_addNoise_46 : decode cX2_addNoise 46 = .ok (.dup2, 1) := by decide +kernel
theorem dX2_addNoise_47 : decode cX2_addNoise 47 = .ok (.iaload, 1) := by decide +kernel
theorem dX2_addNoise_48 : decode cX2_addNoise 48 = .ok (.iload 5, 2) := by decide +kernel
theorem dX2_addNoise_50 : decode cX2_addNoise 50 = .ok (.invokestatic 97, 3) := by decide +kernel
theorem dX2_addNoise_53 : decode cX2_addNoise 53 = .ok (.iload_n 2, 1) := by decide +kernel
theorem dX2_addNoise_54 : decode cX2_addNoise 54 = .ok (.invokestatic 100, 3) := by decide +kernel
theorem dX2_addNoise_57 : decode cX2_addNoise 57 = .ok (.iadd, 1) := by decide +kernel
theorem dX2_addNoise_58 : decode cX2_addNoise 58 = .ok (.iastore, 1) := by decide +kernel
theorem dX2_addNoise_59 : decode cX2_addNoise 59 = .ok (.iinc 4 1, 3) := by decide +kernel
theorem dX2_addNoise_62 : decode cX2_addNoise 62 = .ok (.goto (-59), 3) := by decide +kernel
theorem dX2_addNoise_65 : decode cX2_addNoise 65 = .ok (.return_, 1) := by decide +kernel
theorem dX2_angleOf_0 : decode cX2_angleOf 0 = .ok (.iload_n 1, 1) := by decide +kernel
theorem dX2_angleOf_1 : decode cX2_angleOf 1 = .ok (.bipush 7, 2) := by decide +kernel
theorem dX2_angleOf_3 : decode cX2_angleOf 3 = .ok (.isub, 1) := by decide +kernel
theorem dX2_angleOf_4 : decode cX2_angleOf 4 = .ok (.iload_n 0, 1) := by decide +kernel
theorem dX2_angleOf_5 : decode cX2_angleOf 5 = .ok (.imul, 1) := by decide +kernel
theorem dX2_angleOf_6 : decode cX2_angleOf 6 = .ok (.iconst 3, 1) := by decide +kernel
theorem dX2_angleOf_7 : decode cX2_angleOf 7 = .ok (.ishr, 1) := by decide +kernel
theorem dX2_angleOf_8 : decode cX2_angleOf 8 = .ok (.iload_n 2, 1) := by decide +kernel
theorem dX2_angleOf_9 : decode cX2_angleOf 9 = .ok (.iadd, 1) := by decide +kernel
theorem dX2_angleOf_10 : decode cX2_angleOf 10 = .ok (.bipush 15, 2) := by decide +kernel
theorem dX2_angleOf_12 : decode cX2_angleOf 12 = .ok (.iand, 1) := by decide +kernel
theorem dX2_angleOf_13 : decode cX2_angleOf 13 = .ok (.ireturn, 1) := by decide +kernel
theorem dX2_takeCode_0 : decode cX2_takeCode 0 = .ok (.aload_n 0, 1) := by decide +kernel
theorem dX2_takeCode_1 : decode cX2_takeCode 1 = .ok (.iconst 0, 1) := by decide +kernel
theorem dX2_takeCode_2 : decode cX2_takeCode 2 = .ok (.putfield 103, 3) := by decide +kernel
theorem dX2_takeCode_5 : decode cX2_takeCode 5 = .ok (.iconst 0, 1) := by decide +kernel
theorem dX2_takeCode_6 : decode cX2_takeCode 6 = .ok (.istore_n 2, 1) := by decide +kernel
theorem dX2_takeCode_7 : decode cX2_takeCode 7 = .ok (.iload_n 2, 1) := by decide +kernel
theorem dX2_takeCode_8 : decode cX2_takeCode 8 = .ok (.bipush 31, 2) := by decide +kernel
theorem dX2_takeCode_10 : decode cX2_takeCode 10 = .ok (.if_icmp .ge 39, 3) := by decide +kernel
theorem dX2_takeCode_13 : decode cX2_takeCode 13 = .ok (.iload_n 1, 1) := by decide +kernel
theorem dX2_takeCode_14 : decode cX2_takeCode 14 = .ok (.iload_n 2, 1) := by decide +kernel
theorem dX2_takeCode_15 : decode cX2_takeCode 15 = .ok (.iushr, 1) := by decide +kernel
theorem dX2_takeCode_16 : decode cX2_takeCode 16 = .ok (.iconst 1, 1) := by decide +kernel
theorem dX2_takeCode_17 : decode cX2_takeCode 17 = .ok (.iand, 1) := by decide +kernel
theorem dX2_takeCode_18 : decode cX2_takeCode 18 = .ok (.ifCond .ne 25, 3) := by decide +kernel
theorem dX2_takeCode_21 : decode cX2_takeCode 21 = .ok (.aload_n 0, 1) := by decide +kernel
theorem dX2_takeCode_22 : decode cX2_takeCode 22 = .ok (.getfield 22, 3) := by decide +kernel
theorem dX2_takeCode_25 : decode cX2_takeCode 25 = .ok (.aload_n 0, 1) := by decide +kernel
theorem dX2_takeCode_26 : decode cX2_takeCode 26 = .ok (.getfield 103, 3) := by decide +kernel
theorem dX2_takeCode_29 : decode cX2_takeCode 29 = .ok (.iconst 2, 1) := by decide +kernel
theorem dX2_takeCode_30 : decode cX2_takeCode 30 = .ok (.iload_n 2, 1) := by decide +kernel
theorem dX2_takeCode_31 : decode cX2_takeCode 31 = .ok (.imul, 1) := by decide +kernel
theorem dX2_takeCode_32 : decode cX2_takeCode 32 = .ok (.iastore, 1) := by decide +kernel
theorem dX2_takeCode_33 : decode cX2_takeCode 33 = .ok (.aload_n 0, 1) := by decide +kernel
theorem dX2_takeCode_34 : decode cX2_takeCode 34 = .ok (.dup, 1) := by decide +kernel
theorem dX2_takeCode_35 : decode cX2_takeCode 35 = .ok (.getfield 103, 3) := by decide +kernel
theorem dX2_takeCode_38 : decode cX2_takeCode 38 = .ok (.iconst 1, 1) := by decide +kernel
theorem dX2_takeCode_39 : decode cX2_takeCode 39 = .ok (.iadd, 1) := by decide +kernel
theorem dX2_takeCode_40 : decode cX2_takeCode 40 = .ok (.putfield 103, 3) := by decide +kernel
theorem dX2_takeCode_43 : decode cX2_takeCode 43 = .ok (.iinc 2 1, 3) := by decide +kernel
theorem dX2_takeCode_46 : decode cX2_takeCode 46 = .ok (.goto (-39), 3) := by decide +kernel
theorem dX2_takeCode_49 : decode cX2_takeCode 49 = .ok (.return_, 1) := by decide +kernel
theorem dX2_turnBack_0 : decode cX2_turnBack 0 = .ok (.bipush 62, 2) := by decide +kernel
theorem dX2_turnBack_2 : decode cX2_turnBack 2 = .ok (.iload_n 1, 1) := by decide +kernel
theorem dX2_turnBack_3 : decode cX2_turnBack 3 = .ok (.imul, 1) := by decide +kernel
theorem dX2_turnBack_4 : decode cX2_turnBack 4 = .ok (.istore 4, 2) := by decide +kernel
theorem dX2_turnBack_6 : decode cX2_turnBack 6 = .ok (.aload_n 0, 1) := by decide +kernel
theorem dX2_turnBack_7 : decode cX2_turnBack 7 = .ok (.lconst 0, 1) := by decide +kernel
theorem dX2_turnBack_8 : decode cX2_turnBack 8 = .ok (.putfield 106, 3) := by decide +kernel
theorem dX2_turnBack_11 : decode cX2_turnBack 11 = .ok (.iconst 0, 1) := by decide +kernel
theorem dX2_turnBack_12 : decode cX2_turnBack 12 = .ok (.istore 5, 2) := by decide +kernel
theorem dX2_turnBack_14 : decode cX2_turnBack 14 = .ok (.iload 5, 2) := by decide +kernel
theorem dX2_turnBack_16 : decode cX2_turnBack 16 = .ok (.bipush 62, 2) := by decide +kernel
theorem dX2_turnBack_18 : decode cX2_turnBack 18 = .ok (.if_icmp .ge 117, 3) := by decide +kernel
theorem dX2_turnBack_21 : decode cX2_turnBack 21 = .ok (.iload 4, 2) := by decide +kernel
theorem dX2_turnBack_23 : decode cX2_turnBack 23 = .ok (.iload 5, 2) := by decide +kernel
theorem dX2_turnBack_25 : decode cX2_turnBack 25 = .ok (.iadd, 1) := by decide +kernel
theorem dX2_turnBack_26 : decode cX2_turnBack 26 = .ok (.iload_n 2, 1) := by decide +kernel
theorem dX2_turnBack_27 : decode cX2_turnBack 27 = .ok (.iload_n 3, 1) := by decide +kernel
theorem dX2_turnBack_28 : decode cX2_turnBack 28 = .ok (.invokestatic 84, 3) := by decide +kernel
theorem dX2_turnBack_31 : decode cX2_turnBack 31 = .ok (.istore 6, 2) := by decide +kernel
theorem dX2_turnBack_33 : decode cX2_turnBack 33 = .ok (.getstatic 94, 3) := by decide +kernel
theorem dX2_turnBack_36 : decode cX2_turnBack 36 = .ok (.iload 6, 2) := by decide +kernel
theorem dX2_turnBack_38 : decode cX2_turnBack 38 = .ok (.iaload, 1) := by decide +kernel
theorem dX2_turnBack_39 : decode cX2_turnBack 39 = .ok (.istore 7, 2) := by decide +kernel
theorem dX2_turnBack_41 : decode cX2_turnBack 41 = .ok (.getstatic 94, 3) := by decide +kernel
theorem dX2_turnBack_44 : decode cX2_turnBack 44 = .ok (.iload 6, 2) := by decide +kernel
theorem dX2_turnBack_46 : decode cX2_turnBack 46 = .ok (.bipush 12, 2) := by decide +kernel
theorem dX2_turnBack_48 : decode cX2_turnBack 48 = .ok (.iadd, 1) := by decide +kernel
theorem dX2_turnBack_49 : decode cX2_turnBack 49 = .ok (.bipush 15, 2) := by decide +kernel
theorem dX2_turnBack_51 : decode cX2_turnBack 51 = .ok (.iand, 1) := by decide +kernel
theorem dX2_turnBack_52 : decode cX2_turnBack 52 = .ok (.iaload, 1) := by decide +kernel
theorem dX2_turnBack_53 : decode cX2_turnBack 53 = .ok (.istore 8, 2) := by decide +kernel
theorem dX2_turnBack_55 : decode cX2_turnBack 55 = .ok (.aload_n 0, 1) := by decide +kernel
theorem dX2_turnBack_56 : decode cX2_turnBack 56 = .ok (.getfield 9, 3) := by decide +kernel
theorem dX2_turnBack_59 : decode cX2_turnBack 59 = .ok (.iload 5, 2) := by decide +kernel
theorem dX2_turnBack_61 : decode cX2_turnBack 61 = .ok (.iaload, 1) := by decide +kernel
theorem dX2_turnBack_62 : decode cX2_turnBack 62 = .ok (.iload 7, 2) := by decide +kernel
theorem dX2_turnBack_64 : decode cX2_turnBack 64 = .ok (.imul, 1) := by decide +kernel
theorem dX2_turnBack_65 : decode cX2_turnBack 65 = .ok (.aload_n 0, 1) := by decide +kernel
theorem dX2_turnBack_66 : decode cX2_turnBack 66 = .ok (.getfield 15, 3) := by decide +kernel
theorem dX2_turnBack_69 : decode cX2_turnBack 69 = .ok (.iload 5, 2) := by decide +kernel
theorem dX2_turnBack_71 : decode cX2_turnBack 71 = .ok (.iaload, 1) := by decide +kernel
theorem dX2_turnBack_72 : decode cX2_turnBack 72 = .ok (.iload 8, 2) := by decide +kernel
theorem dX2_turnBack_74 : decode cX2_turnBack 74 = .ok (.imul, 1) := by decide +kernel
theorem dX2_turnBack_75 : decode cX2_turnBack 75 = .ok (.iadd, 1) := by decide +kernel
theorem dX2_turnBack_76 : decode cX2_turnBack 76 = .ok (.i2l, 1) := by decide +kernel
theorem dX2_turnBack_77 : decode cX2_turnBack 77 = .ok (.bipush 32, 2) := by decide +kernel
theorem dX2_turnBack_79 : decode cX2_turnBack 79 = .ok (.lshl, 1) := by decide +kernel
theorem dX2_turnBack_80 : decode cX2_turnBack 80 = .ok (.lstore 9, 2) := by decide +kernel
theorem dX2_turnBack_82 : decode cX2_turnBack 82 = .ok (.lload 9, 2) := by decide +kernel
theorem dX2_turnBack_84 : decode cX2_turnBack 84 = .ok (.aload_n 0, 1) := by decide +kernel
theorem dX2_turnBack_85 : decode cX2_turnBack 85 = .ok (.getfield 15, 3) := by decide +kernel
theorem dX2_turnBack_88 : decode cX2_turnBack 88 = .ok (.iload 5, 2) := by decide +kernel
theorem dX2_turnBack_90 : decode cX2_turnBack 90 = .ok (.iaload, 1) := by decide +kernel
theorem dX2_turnBack_91 : decode cX2_turnBack 91 = .ok (.iload 7, 2) := by decide +kernel
theorem dX2_turnBack_93 : decode cX2_turnBack 93 = .ok (.imul, 1) := by decide +kernel
theorem dX2_turnBack_94 : decode cX2_turnBack 94 = .ok (.aload_n 0, 1) := by decide +kernel
theorem dX2_turnBack_95 : decode cX2_turnBack 95 = .ok (.getfield 9, 3) := by decide +kernel
theorem dX2_turnBack_98 : decode cX2_turnBack 98 = .ok (.iload 5, 2) := by decide +kernel
theorem dX2_turnBack_100 : decode cX2_turnBack 100 = .ok (.iaload, 1) := by decide +kernel
theorem dX2_turnBack_101 : decode cX2_turnBack 101 = .ok (.iload 8, 2) := by decide +kernel
theorem dX2_turnBack_103 : decode cX2_turnBack 103 = .ok (.imul, 1) := by decide +kernel
theorem dX2_turnBack_104 : decode cX2_turnBack 104 = .ok (.isub, 1) := by decide +kernel
theorem dX2_turnBack_105 : decode cX2_turnBack 105 = .ok (.i2l, 1) := by decide +kernel
theorem dX2_turnBack_106 : decode cX2_turnBack 106 = .ok (.ladd, 1) := by decide +kernel
theorem dX2_turnBack_107 : decode cX2_turnBack 107 = .ok (.lstore 9, 2) := by decide +kernel
theorem dX2_turnBack_109 : decode cX2_turnBack 109 = .ok (.aload_n 0, 1) := by decide +kernel
theorem dX2_turnBack_110 : decode cX2_turnBack 110 = .ok (.getfield 25, 3) := by decide +kernel
theorem dX2_turnBack_113 : decode cX2_turnBack 113 = .ok (.iload 5, 2) := by decide +kernel
theorem dX2_turnBack_115 : decode cX2_turnBack 115 = .ok (.lload 9, 2) := by decide +kernel
theorem dX2_turnBack_117 : decode cX2_turnBack 117 = .ok (.lastore, 1) := by decide +kernel
theorem dX2_turnBack_118 : decode cX2_turnBack 118 = .ok (.aload_n 0, 1) := by decide +kernel
theorem dX2_turnBack_119 : decode cX2_turnBack 119 = .ok (.dup, 1) := by decide +kernel
theorem dX2_turnBack_120 : decode cX2_turnBack 120 = .ok (.getfield 106, 3) := by decide +kernel
theorem dX2_turnBack_123 : decode cX2_turnBack 123 = .ok (.lload 9, 2) := by decide +kernel
theorem dX2_turnBack_125 : decode cX2_turnBack 125 = .ok (.ladd, 1) := by decide +kernel
theorem dX2_turnBack_126 : decode cX2_turnBack 126 = .ok (.putfield 106, 3) := by decide +kernel
theorem dX2_turnBack_129 : decode cX2_turnBack 129 = .ok (.iinc 5 1, 3) := by decide +kernel
theorem dX2_turnBack_132 : decode cX2_turnBack 132 = .ok (.goto (-118), 3) := by decide +kernel
theorem dX2_turnBack_135 : decode cX2_turnBack 135 = .ok (.iconst 0, 1) := by decide +kernel
theorem dX2_turnBack_136 : decode cX2_turnBack 136 = .ok (.istore 5, 2) := by decide +kernel
theorem dX2_turnBack_138 : decode cX2_turnBack 138 = .ok (.iload 5, 2) := by decide +kernel
theorem dX2_turnBack_140 : decode cX2_turnBack 140 = .ok (.bipush 62, 2) := by decide +kernel
theorem dX2_turnBack_142 : decode cX2_turnBack 142 = .ok (.if_icmp .ge 60, 3) := by decide +kernel
theorem dX2_turnBack_145 : decode cX2_turnBack 145 = .ok (.aload_n 0, 1) := by decide +kernel
theorem dX2_turnBack_146 : decode cX2_turnBack 146 = .ok (.getfield 25, 3) := by decide +kernel
theorem dX2_turnBack_149 : decode cX2_turnBack 149 = .ok (.iload 5, 2) := by decide +kernel
theorem dX2_turnBack_151 : decode cX2_turnBack 151 = .ok (.laload, 1) := by decide +kernel
theorem dX2_turnBack_152 : decode cX2_turnBack 152 = .ok (.aload_n 0, 1) := by decide +kernel
theorem dX2_turnBack_153 : decode cX2_turnBack 153 = .ok (.getfield 25, 3) := by decide +kernel
theorem dX2_turnBack_156 : decode cX2_turnBack 156 = .ok (.iload 5, 2) := by decide +kernel
theorem dX2_turnBack_158 : decode cX2_turnBack 158 = .ok (.bipush 61, 2) := by decide +kernel
theorem dX2_turnBack_160 : decode cX2_turnBack 160 = .ok (.if_icmp .ne 7, 3) := by decide +kernel
theorem dX2_turnBack_163 : decode cX2_turnBack 163 = .ok (.iconst 0, 1) := by decide +kernel
theorem dX2_turnBack_164 : decode cX2_turnBack 164 = .ok (.goto 7, 3) := by decide +kernel
theorem dX2_turnBack_167 : decode cX2_turnBack 167 = .ok (.iload 5, 2) := by decide +kernel
theorem dX2_turnBack_169 : decode cX2_turnBack 169 = .ok (.iconst 1, 1) := by decide +kernel
theorem dX2_turnBack_170 : decode cX2_turnBack 170 = .ok (.iadd, 1) := by decide +kernel
theorem dX2_turnBack_171 : decode cX2_turnBack 171 = .ok (.laload, 1) := by decide +kernel
theorem dX2_turnBack_172 : decode cX2_turnBack 172 = .ok (.ladd, 1) := by decide +kernel
theorem dX2_turnBack_173 : decode cX2_turnBack 173 = .ok (.lstore 6, 2) := by decide +kernel
theorem dX2_turnBack_175 : decode cX2_turnBack 175 = .ok (.aload_n 0, 1) := by decide +kernel
theorem dX2_turnBack_176 : decode cX2_turnBack 176 = .ok (.getfield 29, 3) := by decide +kernel
theorem dX2_turnBack_179 : decode cX2_turnBack 179 = .ok (.iload 5, 2) := by decide +kernel
theorem dX2_turnBack_181 : decode cX2_turnBack 181 = .ok (.lload 6, 2) := by decide +kernel
theorem dX2_turnBack_183 : decode cX2_turnBack 183 = .ok (.lastore, 1) := by decide +kernel
theorem dX2_turnBack_184 : decode cX2_turnBack 184 = .ok (.aload_n 0, 1) := by decide +kernel
theorem dX2_turnBack_185 : decode cX2_turnBack 185 = .ok (.getfield 29, 3) := by decide +kernel
theorem dX2_turnBack_188 : decode cX2_turnBack 188 = .ok (.iload 5, 2) := by decide +kernel
theorem dX2_turnBack_190 : decode cX2_turnBack 190 = .ok (.bipush 62, 2) := by decide +kernel
theorem dX2_turnBack_192 : decode cX2_turnBack 192 = .ok (.iadd, 1) := by decide +kernel
theorem dX2_turnBack_193 : decode cX2_turnBack 193 = .ok (.lload 6, 2) := by decide +kernel
theorem dX2_turnBack_195 : decode cX2_turnBack 195 = .ok (.lastore, 1) := by decide +kernel
theorem dX2_turnBack_196 : decode cX2_turnBack 196 = .ok (.iinc 5 1, 3) := by decide +kernel
theorem dX2_turnBack_199 : decode cX2_turnBack 199 = .ok (.goto (-61), 3) := by decide +kernel
theorem dX2_turnBack_202 : decode cX2_turnBack 202 = .ok (.return_, 1) := by decide +kernel
theorem dX2_sumAt_0 : decode cX2_sumAt 0 = .ok (.iload_n 1, 1) := by decide +kernel
theorem dX2_sumAt_1 : decode cX2_sumAt 1 = .ok (.ifCond .lt 9, 3) := by decide +kernel
theorem dX2_sumAt_4 : decode cX2_sumAt 4 = .ok (.iload_n 1, 1) := by decide +kernel
theorem dX2_sumAt_5 : decode cX2_sumAt 5 = .ok (.bipush 62, 2) := by decide +kernel
theorem dX2_sumAt_7 : decode cX2_sumAt 7 = .ok (.if_icmp .lt 14, 3) := by decide +kernel
theorem dX2_sumAt_10 : decode cX2_sumAt 10 = .ok (.aload_n 0, 1) := by decide +kernel
theorem dX2_sumAt_11 : decode cX2_sumAt 11 = .ok (.iconst 0, 1) := by decide +kernel
theorem dX2_sumAt_12 : decode cX2_sumAt 12 = .ok (.putfield 110, 3) := by decide +kernel
theorem dX2_sumAt_15 : decode cX2_sumAt 15 = .ok (.aload_n 0, 1) := by decide +kernel
theorem dX2_sumAt_16 : decode cX2_sumAt 16 = .ok (.iconst 0, 1) := by decide +kernel
theorem dX2_sumAt_17 : decode cX2_sumAt 17 = .ok (.putfield 113, 3) := by decide +kernel
theorem dX2_sumAt_20 : decode cX2_sumAt 20 = .ok (.return_, 1) := by decide +kernel
theorem dX2_sumAt_21 : decode cX2_sumAt 21 = .ok (.lconst 0, 1) := by decide +kernel
theorem dX2_sumAt_22 : decode cX2_sumAt 22 = .ok (.lstore_n 2, 1) := by decide +kernel
theorem dX2_sumAt_23 : decode cX2_sumAt 23 = .ok (.iconst 0, 1) := by decide +kernel
theorem dX2_sumAt_24 : decode cX2_sumAt 24 = .ok (.istore 4, 2) := by decide +kernel
theorem dX2_sumAt_26 : decode cX2_sumAt 26 = .ok (.iload 4, 2) := by decide +kernel
theorem dX2_sumAt_28 : decode cX2_sumAt 28 = .ok (.aload_n 0, 1) := by decide +kernel
theorem dX2_sumAt_29 : decode cX2_sumAt 29 = .ok (.getfield 103, 3) := by decide +kernel
theorem dX2_sumAt_32 : decode cX2_sumAt 32 = .ok (.if_icmp .ge 26, 3) := by decide +kernel
theorem dX2_sumAt_35 : decode cX2_sumAt 35 = .ok (.lload_n 2, 1) := by decide +kernel
theorem dX2_sumAt_36 : decode cX2_sumAt 36 = .ok (.aload_n 0, 1) := by decide +kernel
theorem dX2_sumAt_37 : decode cX2_sumAt 37 = .ok (.getfield 29, 3) := by decide +kernel
theorem dX2_sumAt_40 : decode cX2_sumAt 40 = .ok (.iload_n 1, 1) := by decide +kernel
theorem dX2_sumAt_41 : decode cX2_sumAt 41 = .ok (.aload_n 0, 1) := by decide +kernel
theorem dX2_sumAt_42 : decode cX2_sumAt 42 = .ok (.getfield 22, 3) := by decide +kernel
theorem dX2_sumAt_45 : decode cX2_sumAt 45 = .ok (.iload 4, 2) := by decide +kernel
theorem dX2_sumAt_47 : decode cX2_sumAt 47 = .ok (.iaload, 1) := by decide +kernel
theorem dX2_sumAt_48 : decode cX2_sumAt 48 = .ok (.iadd, 1) := by decide +kernel
theorem dX2_sumAt_49 : decode cX2_sumAt 49 = .ok (.laload, 1) := by decide +kernel
theorem dX2_sumAt_50 : decode cX2_sumAt 50 = .ok (.ladd, 1) := by decide +kernel
theorem dX2_sumAt_51 : decode cX2_sumAt 51 = .ok (.lstore_n 2, 1) := by decide +kernel
theorem dX2_sumAt_52 : decode cX2_sumAt 52 = .ok (.iinc 4 1, 3) := by decide +kernel
theorem dX2_sumAt_55 : decode cX2_sumAt 55 = .ok (.goto (-29), 3) := by decide +kernel
theorem dX2_sumAt_58 : decode cX2_sumAt 58 = .ok (.aload_n 0, 1) := by decide +kernel
theorem dX2_sumAt_59 : decode cX2_sumAt 59 = .ok (.getfield 106, 3) := by decide +kernel
theorem dX2_sumAt_62 : decode cX2_sumAt 62 = .ok (.ldc2_w 116, 3) := by decide +kernel
theorem dX2_sumAt_65 : decode cX2_sumAt 65 = .ok (.lload_n 2, 1) := by decide +kernel
theorem dX2_sumAt_66 : decode cX2_sumAt 66 = .ok (.lmul, 1) := by decide +kernel
theorem dX2_sumAt_67 : decode cX2_sumAt 67 = .ok (.lsub, 1) := by decide +kernel
theorem dX2_sumAt_68 : decode cX2_sumAt 68 = .ok (.lstore 4, 2) := by decide +kernel
theorem dX2_sumAt_70 : decode cX2_sumAt 70 = .ok (.lload 4, 2) := by decide +kernel
theorem dX2_sumAt_72 : decode cX2_sumAt 72 = .ok (.l2i, 1) := by decide +kernel
theorem dX2_sumAt_73 : decode cX2_sumAt 73 = .ok (.istore 6, 2) := by decide +kernel
theorem dX2_sumAt_75 : decode cX2_sumAt 75 = .ok (.aload_n 0, 1) := by decide +kernel
theorem dX2_sumAt_76 : decode cX2_sumAt 76 = .ok (.lload 4, 2) := by decide +kernel
theorem dX2_sumAt_78 : decode cX2_sumAt 78 = .ok (.iload 6, 2) := by decide +kernel
theorem dX2_sumAt_80 : decode cX2_sumAt 80 = .ok (.i2l, 1) := by decide +kernel
theorem dX2_sumAt_81 : decode cX2_sumAt 81 = .ok (.lsub, 1) := by decide +kernel
theorem dX2_sumAt_82 : decode cX2_sumAt 82 = .ok (.bipush 32, 2) := by decide +kernel
theorem dX2_sumAt_84 : decode cX2_sumAt 84 = .ok (.lshr, 1) := by decide +kernel
theorem dX2_sumAt_85 : decode cX2_sumAt 85 = .ok (.l2i, 1) := by decide +kernel
theorem dX2_sumAt_86 : decode cX2_sumAt 86 = .ok (.bipush 6, 2) := by decide +kernel
theorem dX2_sumAt_88 : decode cX2_sumAt 88 = .ok (.ishr, 1) := by decide +kernel
theorem dX2_sumAt_89 : decode cX2_sumAt 89 = .ok (.putfield 110, 3) := by decide +kernel
theorem dX2_sumAt_92 : decode cX2_sumAt 92 = .ok (.aload_n 0, 1) := by decide +kernel
theorem dX2_sumAt_93 : decode cX2_sumAt 93 = .ok (.iload 6, 2) := by decide +kernel
theorem dX2_sumAt_95 : decode cX2_sumAt 95 = .ok (.bipush 6, 2) := by decide +kernel
theorem dX2_sumAt_97 : decode cX2_sumAt 97 = .ok (.ishr, 1) := by decide +kernel
theorem dX2_sumAt_98 : decode cX2_sumAt 98 = .ok (.putfield 113, 3) := by decide +kernel
theorem dX2_sumAt_101 : decode cX2_sumAt 101 = .ok (.return_, 1) := by decide +kernel
theorem dX2_power_0 : decode cX2_power 0 = .ok (.aload_n 0, 1) := by decide +kernel
theorem dX2_power_1 : decode cX2_power 1 = .ok (.getfield 110, 3) := by decide +kernel
theorem dX2_power_4 : decode cX2_power 4 = .ok (.aload_n 0, 1) := by decide +kernel
theorem dX2_power_5 : decode cX2_power 5 = .ok (.getfield 110, 3) := by decide +kernel
theorem dX2_power_8 : decode cX2_power 8 = .ok (.imul, 1) := by decide +kernel
theorem dX2_power_9 : decode cX2_power 9 = .ok (.aload_n 0, 1) := by decide +kernel
theorem dX2_power_10 : decode cX2_power 10 = .ok (.getfield 113, 3) := by decide +kernel
theorem dX2_power_13 : decode cX2_power 13 = .ok (.aload_n 0, 1) := by decide +kernel
theorem dX2_power_14 : decode cX2_power 14 = .ok (.getfield 113, 3) := by decide +kernel
theorem dX2_power_17 : decode cX2_power 17 = .ok (.imul, 1) := by decide +kernel
theorem dX2_power_18 : decode cX2_power 18 = .ok (.iadd, 1) := by decide +kernel
theorem dX2_power_19 : decode cX2_power 19 = .ok (.ireturn, 1) := by decide +kernel
theorem dX3_init_0 : decode cX3_init 0 = .ok (.aload_n 0, 1) := by decide +kernel
theorem dX3_init_1 : decode cX3_init 1 = .ok (.invokespecial 3, 3) := by decide +kernel
theorem dX3_init_4 : decode cX3_init 4 = .ok (.aload_n 0, 1) := by decide +kernel
theorem dX3_init_5 : decode cX3_init 5 = .ok (.iconst 4, 1) := by decide +kernel
theorem dX3_init_6 : decode cX3_init 6 = .ok (.newarray .int, 2) := by decide +kernel
theorem dX3_init_8 : decode cX3_init 8 = .ok (.putfield 11, 3) := by decide +kernel
theorem dX3_init_11 : decode cX3_init 11 = .ok (.aload_n 0, 1) := by decide +kernel
theorem dX3_init_12 : decode cX3_init 12 = .ok (.iconst 4, 1) := by decide +kernel
theorem dX3_init_13 : decode cX3_init 13 = .ok (.newarray .int, 2) := by decide +kernel
theorem dX3_init_15 : decode cX3_init 15 = .ok (.putfield 15, 3) := by decide +kernel
theorem dX3_init_18 : decode cX3_init 18 = .ok (.aload_n 0, 1) := by decide +kernel
theorem dX3_init_19 : decode cX3_init 19 = .ok (.iconst 4, 1) := by decide +kernel
theorem dX3_init_20 : decode cX3_init 20 = .ok (.newarray .int, 2) := by decide +kernel
theorem dX3_init_22 : decode cX3_init 22 = .ok (.putfield 18, 3) := by decide +kernel
theorem dX3_init_25 : decode cX3_init 25 = .ok (.return_, 1) := by decide +kernel
theorem dX3_read_0 : decode cX3_read 0 = .ok (.aload_n 0, 1) := by decide +kernel
theorem dX3_read_1 : decode cX3_read 1 = .ok (.iconst 0, 1) := by decide +kernel
theorem dX3_read_2 : decode cX3_read 2 = .ok (.putfield 21, 3) := by decide +kernel
theorem dX3_read_5 : decode cX3_read 5 = .ok (.aload_n 0, 1) := by decide +kernel
theorem dX3_read_6 : decode cX3_read 6 = .ok (.iconst 0, 1) := by decide +kernel
theorem dX3_read_7 : decode cX3_read 7 = .ok (.putfield 25, 3) := by decide +kernel
theorem dX3_read_10 : decode cX3_read 10 = .ok (.iconst 0, 1) := by decide +kernel
theorem dX3_read_11 : decode cX3_read 11 = .ok (.istore 4, 2) := by decide +kernel
theorem dX3_read_13 : decode cX3_read 13 = .ok (.iload 4, 2) := by decide +kernel
theorem dX3_read_15 : decode cX3_read 15 = .ok (.bipush 16, 2) := by decide +kernel
theorem dX3_read_17 : decode cX3_read 17 = .ok (.iadd, 1) := by decide +kernel
theorem dX3_read_18 : decode cX3_read 18 = .ok (.iload_n 3, 1) := by decide +kernel
theorem dX3_read_19 : decode cX3_read 19 = .ok (.if_icmp .gt 43, 3) := by decide +kernel
theorem dX3_read_22 : decode cX3_read 22 = .ok (.lload_n 1, 1) := by decide +kernel
theorem dX3_read_23 : decode cX3_read 23 = .ok (.iload_n 3, 1) := by decide +kernel
theorem dX3_read_24 : decode cX3_read 24 = .ok (.bipush 16, 2) := by decide +kernel
theorem dX3_read_26 : decode cX3_read 26 = .ok (.isub, 1) := by decide +kernel
theorem dX3_read_27 : decode cX3_read 27 = .ok (.iload 4, 2) := by decide +kernel
theorem dX3_read_29 : decode cX3_read 29 = .ok (.isub, 1) := by decide +kernel
theorem dX3_read_30 : decode cX3_read 30 = .ok (.lushr, 1) := by decide +kernel
theorem dX3_read_31 : decode cX3_read 31 = .ok (.l2i, 1) := by decide +kernel
theorem dX3_read_32 : decode cX3_read 32 = .ok (.ldc 28, 2) := by decide +kernel
theorem dX3_read_34 : decode cX3_read 34 = .ok (.iand, 1) := by decide +kernel
theorem dX3_read_35 : decode cX3_read 35 = .ok (.istore 5, 2) := by decide +kernel
theorem dX3_read_37 : decode cX3_read 37 = .ok (.iload 4, 2) := by decide +kernel
theorem dX3_read_39 : decode cX3_read 39 = .ok (.aload_n 0, 1) := by decide +kernel
theorem dX3_read_40 : decode cX3_read 40 = .ok (.iload 4, 2) := by decide +kernel
theorem dX3_read_42 : decode cX3_read 42 = .ok (.iload 5, 2) := by decide +kernel
theorem dX3_read_44 : decode cX3_read 44 = .ok (.invokevirtual 29, 3) := by decide +kernel
theorem dX3_read_47 : decode cX3_read 47 = .ok (.ifCond .eq 8, 3) := by decide +kernel
theorem dX3_read_50 : decode cX3_read 50 = .ok (.bipush 16, 2) := by decide +kernel
theorem dX3_read_52 : decode cX3_read 52 = .ok (.goto 4, 3) := by decide +kernel
theorem dX3_read_55 : decode cX3_read 55 = .ok (.iconst 1, 1) := by decide +kernel
theorem dX3_read_56 : decode cX3_read 56 = .ok (.iadd, 1) := by decide +kernel
theorem dX3_read_57 : decode cX3_read 57 = .ok (.istore 4, 2) := by decide +kernel
theorem dX3_read_59 : decode cX3_read 59 = .ok (.goto (-46), 3) := by decide +kernel
theorem dX3_read_62 : decode cX3_read 62 = .ok (.return_, 1) := by decide +kernel
theorem dX3_readWord_0 : decode cX3_readWord 0 = .ok (.iload_n 2, 1) := by decide +kernel
theorem dX3_readWord_1 : decode cX3_readWord 1 = .ok (.bipush 12, 2) := by decide +kernel
theorem dX3_readWord_3 : decode cX3_readWord 3 = .ok (.iushr, 1) := by decide +kernel
theorem dX3_readWord_4 : decode cX3_readWord 4 = .ok (.istore_n 3, 1) := by decide +kernel
theorem dX3_readWord_5 : decode cX3_readWord 5 = .ok (.iload_n 3, 1) := by decide +kernel
theorem dX3_readWord_6 : decode cX3_readWord 6 = .ok (.bipush 11, 2) := by decide +kernel
theorem dX3_readWord_8 : decode cX3_readWord 8 = .ok (.if_icmp .eq 10, 3) := by decide +kernel
theorem dX3_readWord_11 : decode cX3_readWord 11 = .ok (.iload_n 3, 1) := by decide +kernel
theorem dX3_readWord_12 : decode cX3_readWord 12 = .ok (.iconst 4, 1) := by decide +kernel
theorem dX3_readWord_13 : decode cX3_readWord 13 = .ok (.if_icmp .eq 5, 3) := by decide +kernel
theorem dX3_readWord_16 : decode cX3_readWord 16 = .ok (.iconst 0, 1) := by decide +kernel
theorem dX3_readWord_17 : decode cX3_readWord 17 = .ok (.ireturn, 1) := by decide +kernel
theorem dX3_readWord_18 : decode cX3_readWord 18 = .ok (.iload_n 3, 1) := by decide +kernel
theorem dX3_readWord_19 : decode cX3_readWord 19 = .ok (.iconst 4, 1) := by decide +kernel
theorem dX3_readWord_20 : decode cX3_readWord 20 = .ok (.if_icmp .ne 7, 3) := by decide +kernel
theorem dX3_readWord_23 : decode cX3_readWord 23 = .ok (.iconst 1, 1) := by decide +kernel
theorem dX3_readWord_24 : decode cX3_readWord 24 = .ok (.goto 4, 3) := by decide +kernel
theorem dX3_readWord_27 : decode cX3_readWord 27 = .ok (.iconst 0, 1) := by decide +kernel
theorem dX3_readWord_28 : decode cX3_readWord 28 = .ok (.istore 4, 2) := by decide +kernel
theorem dX3_readWord_30 : decode cX3_readWord 30 = .ok (.iload 4, 2) := by decide +kernel
theorem dX3_readWord_32 : decode cX3_readWord 32 = .ok (.iconst 1, 1) := by decide +kernel
theorem dX3_readWord_33 : decode cX3_readWord 33 = .ok (.if_icmp .ne 10, 3) := by decide +kernel
theorem dX3_readWord_36 : decode cX3_readWord 36 = .ok (.iload_n 2, 1) := by decide +kernel
theorem dX3_readWord_37 : decode cX3_readWord 37 = .ok (.ldc 28, 2) := by decide +kernel
theorem dX3_readWord_39 : decode cX3_readWord 39 = .ok (.ixor, 1) := by decide +kernel
theorem dX3_readWord_40 : decode cX3_readWord 40 = .ok (.goto 4, 3) := by decide +kernel
theorem dX3_readWord_43 : decode cX3_readWord 43 = .ok (.iload_n 2, 1) := by decide +kernel
theorem dX3_readWord_44 : decode cX3_readWord 44 = .ok (.istore 5, 2) := by decide +kernel
theorem dX3_readWord_46 : decode cX3_readWord 46 = .ok (.iload 5, 2) := by decide +kernel
theorem dX3_readWord_48 : decode cX3_readWord 48 = .ok (.bipush 15, 2) := by decide +kernel
theorem dX3_readWord_50 : decode cX3_readWord 50 = .ok (.iand, 1) := by decide +kernel
theorem dX3_readWord_51 : decode cX3_readWord 51 = .ok (.iload 5, 2) := by decide +kernel
theorem dX3_readWord_53 : decode cX3_readWord 53 = .ok (.iconst 4, 1) := by decide +kernel
theorem dX3_readWord_54 : decode cX3_readWord 54 = .ok (.iushr, 1) := by decide +kernel
theorem dX3_readWord_55 : decode cX3_readWord 55 = .ok (.sipush 255, 3) := by decide +kernel
theorem dX3_readWord_58 : decode cX3_readWord 58 = .ok (.iand, 1) := by decide +kernel
theorem dX3_readWord_59 : decode cX3_readWord 59 = .ok (.invokestatic 33, 3) := by decide +kernel
theorem dX3_readWord_62 : decode cX3_readWord 62 = .ok (.if_icmp .eq 15, 3) := by decide +kernel
theorem dX3_readWord_65 : decode cX3_readWord 65 = .ok (.aload_n 0, 1) := by decide +kernel
theorem dX3_readWord_66 : decode cX3_readWord 66 = .ok (.dup, 1) := by decide +kernel
theorem dX3_readWord_67 : decode cX3_readWord 67 = .ok (.getfield 25, 3) := by decide +kernel
theorem dX3_readWord_70 : decode cX3_readWord 70 = .ok (.iconst 1, 1) := by decide +kernel
theorem dX3_readWord_71 : decode cX3_readWord 71 = .ok (.iadd, 1) := by decide +kernel
theorem dX3_readWord_72 : decode cX3_readWord 72 = .ok (.putfield 25, 3) := by decide +kernel
theorem dX3_readWord_75 : decode cX3_readWord 75 = .ok (.iconst 0, 1) := by decide +kernel
theorem dX3_readWord_76 : decode cX3_readWord 76 = .ok (.ireturn, 1) := by decide +kernel
theorem dX3_readWord_77 : decode cX3_readWord 77 = .ok (.aload_n 0, 1) := by decide +kernel
theorem dX3_readWord_78 : decode cX3_readWord 78 = .ok (.getfield 21, 3) := by decide +kernel
theorem dX3_readWord_81 : decode cX3_readWord 81 = .ok (.iconst 4, 1) := by decide +kernel
theorem dX3_readWord_82 : decode cX3_readWord 82 = .ok (.if_icmp .ge 45, 3) := by decide +kernel
theorem dX3_readWord_85 : decode cX3_readWord 85 = .ok (.aload_n 0, 1) := by decide +kernel
theorem dX3_readWord_86 : decode cX3_readWord 86 = .ok (.getfield 11, 3) := by decide +kernel
theorem dX3_readWord_89 : decode cX3_readWord 89 = .ok (.aload_n 0, 1) := by decide +kernel
theorem dX3_readWord_90 : decode cX3_readWord 90 = .ok (.getfield 21, 3) := by decide +kernel
theorem dX3_readWord_93 : decode cX3_readWord 93 = .ok (.iload_n 1, 1) := by decide +kernel
theorem dX3_readWord_94 : decode cX3_readWord 94 = .ok (.iastore, 1) := by decide +kernel
theorem dX3_readWord_95 : decode cX3_readWord 95 = .ok (.aload_n 0, 1) := by decide +kernel
theorem dX3_readWord_96 : decode cX3_readWord 96 = .ok (.getfield 15, 3) := by decide +kernel
theorem dX3_readWord_99 : decode cX3_readWord 99 = .ok (.aload_n 0, 1) := by decide +kernel
theorem dX3_readWord_100 : decode cX3_readWord 100 = .ok (.getfield 21, 3) := by decide +kernel
theorem dX3_readWord_103 : decode cX3_readWord 103 = .ok (.iload 5, 2) := by decide +kernel
theorem dX3_readWord_105 : decode cX3_readWord 105 = .ok (.iastore, 1) := by decide +kernel
theorem dX3_readWord_106 : decode cX3_readWord 106 = .ok (.aload_n 0, 1) := by decide +kernel
theorem dX3_readWord_107 : decode cX3_readWord 107 = .ok (.getfield 18, 3) := by decide +kernel
theorem dX3_readWord_110 : decode cX3_readWord 110 = .ok (.aload_n 0, 1) := by decide +kernel
theorem dX3_readWord_111 : decode cX3_readWord 111 = .ok (.getfield 21, 3) := by decide +kernel
theorem dX3_readWord_114 : decode cX3_readWord 114 = .ok (.iload 4, 2) := by decide +kernel
theorem dX3_readWord_116 : decode cX3_readWord 116 = .ok (.iastore, 1) := by decide +kernel
theorem dX3_readWord_117 : decode cX3_readWord 117 = .ok (.aload_n 0, 1) := by decide +kernel
theorem dX3_readWord_118 : decode cX3_readWord 118 = .ok (.dup, 1) := by decide +kernel
theorem dX3_readWord_119 : decode cX3_readWord 119 = .ok (.getfield 21, 3) := by decide +kernel
theorem dX3_readWord_122 : decode cX3_readWord 122 = .ok (.iconst 1, 1) := by decide +kernel
theorem dX3_readWord_123 : decode cX3_readWord 123 = .ok (.iadd, 1) := by decide +kernel
theorem dX3_readWord_124 : decode cX3_readWord 124 = .ok (.putfield 21, 3) := by decide +kernel
theorem dX3_readWord_127 : decode cX3_readWord 127 = .ok (.iconst 1, 1) := by decide +kernel
theorem dX3_readWord_128 : decode cX3_readWord 128 = .ok (.ireturn, 1) := by decide +kernel
theorem dX3_told_0 : decode cX3_told 0 = .ok (.iload_n 1, 1) := by decide +kernel
theorem dX3_told_1 : decode cX3_told 1 = .ok (.ifCond .lt 11, 3) := by decide +kernel
theorem dX3_told_4 : decode cX3_told 4 = .ok (.iload_n 1, 1) := by decide +kernel
theorem dX3_told_5 : decode cX3_told 5 = .ok (.aload_n 0, 1) := by decide +kernel
theorem dX3_told_6 : decode cX3_told 6 = .ok (.getfield 21, 3) := by decide +kernel
theorem dX3_told_9 : decode cX3_told 9 = .ok (.if_icmp .lt 5, 3) := by decide +kernel
theorem dX3_told_12 : decode cX3_told 12 = .ok (.iconst (-1), 1) := by decide +kernel
theorem dX3_told_13 : decode cX3_told 13 = .ok (.ireturn, 1) := by decide +kernel
theorem dX3_told_14 : decode cX3_told 14 = .ok (.iload_n 2, 1) := by decide +kernel
theorem dX3_told_15 : decode cX3_told 15 = .ok (.tableswitch 56 0 2 #[25, 32, 44], 25) := by decide +kernel
theorem dX3_told_40 : decode cX3_told 40 = .ok (.aload_n 0, 1) := by decide +kernel
theorem dX3_told_41 : decode cX3_told 41 = .ok (.getfield 11, 3) := by decide +kernel
theorem dX3_told_44 : decode cX3_told 44 = .ok (.iload_n 1, 1) := by decide +kernel
theorem dX3_told_45 : decode cX3_told 45 = .ok (.iaload, 1) := by decide +kernel
theorem dX3_told_46 : decode cX3_told 46 = .ok (.ireturn, 1) := by decide +kernel
theorem dX3_told_47 : decode cX3_told 47 = .ok (.aload_n 0, 1) := by decide +kernel
theorem dX3_told_48 : decode cX3_told 48 = .ok (.getfield 15, 3) := by decide +kernel
theorem dX3_told_51 : decode cX3_told 51 = .ok (.iload_n 1, 1) := by decide +kernel
theorem dX3_told_52 : decode cX3_told 52 = .ok (.iaload, 1) := by decide +kernel
theorem dX3_told_53 : decode cX3_told 53 = .ok (.bipush 10, 2) := by decide +kernel
theorem dX3_told_55 : decode cX3_told 55 = .ok (.iushr, 1) := by decide +kernel
theorem dX3_told_56 : decode cX3_told 56 = .ok (.iconst 3, 1) := by decide +kernel
theorem dX3_told_57 : decode cX3_told 57 = .ok (.iand, 1) := by decide +kernel
theorem dX3_told_58 : decode cX3_told 58 = .ok (.ireturn, 1) := by decide +kernel
theorem dX3_told_59 : decode cX3_told 59 = .ok (.aload_n 0, 1) := by decide +kernel
theorem dX3_told_60 : decode cX3_told 60 = .ok (.getfield 15, 3) := by decide +kernel
theorem dX3_told_63 : decode cX3_told 63 = .ok (.iload_n 1, 1) := by decide +kernel
theorem dX3_told_64 : decode cX3_told 64 = .ok (.iaload, 1) := by decide +kernel
theorem dX3_told_65 : decode cX3_told 65 = .ok (.iconst 4, 1) := by decide +kernel
theorem dX3_told_66 : decode cX3_told 66 = .ok (.iushr, 1) := by decide +kernel
theorem dX3_told_67 : decode cX3_told 67 = .ok (.bipush 63, 2) := by decide +kernel
theorem dX3_told_69 : decode cX3_told 69 = .ok (.iand, 1) := by decide +kernel
theorem dX3_told_70 : decode cX3_told 70 = .ok (.ireturn, 1) := by decide +kernel
theorem dX3_told_71 : decode cX3_told 71 = .ok (.aload_n 0, 1) := by decide +kernel
theorem dX3_told_72 : decode cX3_told 72 = .ok (.getfield 18, 3) := by decide +kernel
theorem dX3_told_75 : decode cX3_told 75 = .ok (.iload_n 1, 1) := by decide +kernel
theorem dX3_told_76 : decode cX3_told 76 = .ok (.iaload, 1) := by decide +kernel
theorem dX3_told_77 : decode cX3_told 77 = .ok (.ireturn, 1) := by decide +kernel
theorem dX4_init_0 : decode cX4_init 0 = .ok (.aload_n 0, 1) := by decide +kernel
theorem dX4_init_1 : decode cX4_init 1 = .ok (.invokespecial 3, 3) := by decide +kernel
theorem dX4_init_4 : decode cX4_init 4 = .ok (.aload_n 0, 1) := by decide +kernel
theorem dX4_init_5 : decode cX4_init 5 = .ok (.sipush 930, 3) := by decide +kernel
theorem dX4_init_8 : decode cX4_init 8 = .ok (.newarray .int, 2) := by decide +kernel
theorem dX4_init_10 : decode cX4_init 10 = .ok (.putfield 9, 3) := by decide +kernel
theorem dX4_init_13 : decode cX4_init 13 = .ok (.return_, 1) := by decide +kernel
theorem dX4_begin_0 : decode cX4_begin 0 = .ok (.iconst 0, 1) := by decide +kernel
theorem dX4_begin_1 : decode cX4_begin 1 = .ok (.istore_n 1, 1) := by decide +kernel
theorem dX4_begin_2 : decode cX4_begin 2 = .ok (.iload_n 1, 1) := by decide +kernel
theorem dX4_begin_3 : decode cX4_begin 3 = .ok (.aload_n 0, 1) := by decide +kernel
theorem dX4_begin_4 : decode cX4_begin 4 = .ok (.getfield 9, 3) := by decide +kernel
theorem dX4_begin_7 : decode cX4_begin 7 = .ok (.arraylength, 1) := by decide +kernel
theorem dX4_begin_8 : decode cX4_begin 8 = .ok (.if_icmp .ge 16, 3) := by decide +kernel
theorem dX4_begin_11 : decode cX4_begin 11 = .ok (.aload_n 0, 1) := by decide +kernel
theorem dX4_begin_12 : decode cX4_begin 12 = .ok (.getfield 9, 3) := by decide +kernel
theorem dX4_begin_15 : decode cX4_begin 15 = .ok (.iload_n 1, 1) := by decide +kernel
theorem dX4_begin_16 : decode cX4_begin 16 = .ok (.iconst 0, 1) := by decide +kernel
theorem dX4_begin_17 : decode cX4_begin 17 = .ok (.iastore, 1) := by decide +kernel
theorem dX4_begin_18 : decode cX4_begin 18 = .ok (.iinc 1 1, 3) := by decide +kernel
theorem dX4_begin_21 : decode cX4_begin 21 = .ok (.goto (-19), 3) := by decide +kernel
theorem dX4_begin_24 : decode cX4_begin 24 = .ok (.return_, 1) := by decide +kernel
theorem dX4_add_0 : decode cX4_add 0 = .ok (.aload_n 1, 1) := by decide +kernel
theorem dX4_add_1 : decode cX4_add 1 = .ok (.iload_n 2, 1) := by decide +kernel
theorem dX4_add_2 : decode cX4_add 2 = .ok (.invokevirtual 15, 3) := by decide +kernel
theorem dX4_add_5 : decode cX4_add 5 = .ok (.iconst 0, 1) := by decide +kernel
theorem dX4_add_6 : decode cX4_add 6 = .ok (.istore 4, 2) := by decide +kernel
theorem dX4_add_8 : decode cX4_add 8 = .ok (.iload 4, 2) := by decide +kernel
theorem dX4_add_10 : decode cX4_add 10 = .ok (.bipush 15, 2) := by decide +kernel
theorem dX4_add_12 : decode cX4_add 12 = .ok (.if_icmp .ge 59, 3) := by decide +kernel
theorem dX4_add_15 : decode cX4_add 15 = .ok (.aload_n 1, 1) := by decide +kernel
theorem dX4_add_16 : decode cX4_add 16 = .ok (.iload_n 3, 1) := by decide +kernel
theorem dX4_add_17 : decode cX4_add 17 = .ok (.iload 4, 2) := by decide +kernel
theorem dX4_add_19 : decode cX4_add 19 = .ok (.iconst 0, 1) := by decide +kernel
theorem dX4_add_20 : decode cX4_add 20 = .ok (.invokevirtual 21, 3) := by decide +kernel
theorem dX4_add_23 : decode cX4_add 23 = .ok (.iconst 0, 1) := by decide +kernel
theorem dX4_add_24 : decode cX4_add 24 = .ok (.istore 5, 2) := by decide +kernel
theorem dX4_add_26 : decode cX4_add 26 = .ok (.iload 5, 2) := by decide +kernel
theorem dX4_add_28 : decode cX4_add 28 = .ok (.bipush 62, 2) := by decide +kernel
theorem dX4_add_30 : decode cX4_add 30 = .ok (.if_icmp .ge 35, 3) := by decide +kernel
theorem dX4_add_33 : decode cX4_add 33 = .ok (.aload_n 1, 1) := by decide +kernel
theorem dX4_add_34 : decode cX4_add 34 = .ok (.iload 5, 2) := by decide +kernel
theorem dX4_add_36 : decode cX4_add 36 = .ok (.invokevirtual 25, 3) := by decide +kernel
theorem dX4_add_39 : decode cX4_add 39 = .ok (.aload_n 0, 1) := by decide +kernel
theorem dX4_add_40 : decode cX4_add 40 = .ok (.getfield 9, 3) := by decide +kernel
theorem dX4_add_43 : decode cX4_add 43 = .ok (.bipush 62, 2) := by decide +kernel
theorem dX4_add_45 : decode cX4_add 45 = .ok (.iload 4, 2) := by decide +kernel
theorem dX4_add_47 : decode cX4_add 47 = .ok (.imul, 1) := by decide +kernel
theorem dX4_add_48 : decode cX4_add 48 = .ok (.iload 5, 2) := by decide +kernel
theorem dX4_add_50 : decode cX4_add 50 = .ok (.iadd, 1) := by decide +kernel
theorem dX4_add_51 : decode cX4_add 51 = .ok (.dup2, 1) := by decide +kernel
theorem dX4_add_52 : decode cX4_add 52 = .ok (.iaload, 1) := by decide +kernel
theorem dX4_add_53 : decode cX4_add 53 = .ok (.aload_n 1, 1) := by decide +kernel
theorem dX4_add_54 : decode cX4_add 54 = .ok (.invokevirtual 28, 3) := by decide +kernel
theorem dX4_add_57 : decode cX4_add 57 = .ok (.iadd, 1) := by decide +kernel
theorem dX4_add_58 : decode cX4_add 58 = .ok (.iastore, 1) := by decide +kernel
theorem dX4_add_59 : decode cX4_add 59 = .ok (.iinc 5 1, 3) := by decide +kernel
theorem dX4_add_62 : decode cX4_add 62 = .ok (.goto (-36), 3) := by decide +kernel
theorem dX4_add_65 : decode cX4_add 65 = .ok (.iinc 4 1, 3) := by decide +kernel
theorem dX4_add_68 : decode cX4_add 68 = .ok (.goto (-60), 3) := by decide +kernel
theorem dX4_add_71 : decode cX4_add 71 = .ok (.return_, 1) := by decide +kernel
theorem dX4_judge_0 : decode cX4_judge 0 = .ok (.aload_n 0, 1) := by decide +kernel
theorem dX4_judge_1 : decode cX4_judge 1 = .ok (.iconst 0, 1) := by decide +kernel
theorem dX4_judge_2 : decode cX4_judge 2 = .ok (.putfield 32, 3) := by decide +kernel
theorem dX4_judge_5 : decode cX4_judge 5 = .ok (.iconst 1, 1) := by decide +kernel
theorem dX4_judge_6 : decode cX4_judge 6 = .ok (.istore_n 1, 1) := by decide +kernel
theorem dX4_judge_7 : decode cX4_judge 7 = .ok (.iload_n 1, 1) := by decide +kernel
theorem dX4_judge_8 : decode cX4_judge 8 = .ok (.aload_n 0, 1) := by decide +kernel
theorem dX4_judge_9 : decode cX4_judge 9 = .ok (.getfield 9, 3) := by decide +kernel
theorem dX4_judge_12 : decode cX4_judge 12 = .ok (.arraylength, 1) := by decide +kernel
theorem dX4_judge_13 : decode cX4_judge 13 = .ok (.if_icmp .ge 32, 3) := by decide +kernel
theorem dX4_judge_16 : decode cX4_judge 16 = .ok (.aload_n 0, 1) := by decide +kernel
theorem dX4_judge_17 : decode cX4_judge 17 = .ok (.getfield 9, 3) := by decide +kernel
theorem dX4_judge_20 : decode cX4_judge 20 = .ok (.iload_n 1, 1) := by decide +kernel
theorem dX4_judge_21 : decode cX4_judge 21 = .ok (.iaload, 1) := by decide +kernel
theorem dX4_judge_22 : decode cX4_judge 22 = .ok (.aload_n 0, 1) := by decide +kernel
theorem dX4_judge_23 : decode cX4_judge 23 = .ok (.getfield 9, 3) := by decide +kernel
theorem dX4_judge_26 : decode cX4_judge 26 = .ok (.aload_n 0, 1) := by decide +kernel
theorem dX4_judge_27 : decode cX4_judge 27 = .ok (.getfield 32, 3) := by decide +kernel
theorem dX4_judge_30 : decode cX4_judge 30 = .ok (.iaload, 1) := by decide +kernel
theorem dX4_judge_31 : decode cX4_judge 31 = .ok (.if_icmp .le 8, 3) := by decide +kernel
theorem dX4_judge_34 : decode cX4_judge 34 = .ok (.aload_n 0, 1) := by decide +kernel
theorem dX4_judge_35 : decode cX4_judge 35 = .ok (.iload_n 1, 1) := by decide +kernel
theorem dX4_judge_36 : decode cX4_judge 36 = .ok (.putfield 32, 3) := by decide +kernel
theorem dX4_judge_39 : decode cX4_judge 39 = .ok (.iinc 1 1, 3) := by decide +kernel
theorem dX4_judge_42 : decode cX4_judge 42 = .ok (.goto (-35), 3) := by decide +kernel
theorem dX4_judge_45 : decode cX4_judge 45 = .ok (.aload_n 0, 1) := by decide +kernel
theorem dX4_judge_46 : decode cX4_judge 46 = .ok (.aload_n 0, 1) := by decide +kernel
theorem dX4_judge_47 : decode cX4_judge 47 = .ok (.getfield 9, 3) := by decide +kernel
theorem dX4_judge_50 : decode cX4_judge 50 = .ok (.aload_n 0, 1) := by decide +kernel
theorem dX4_judge_51 : decode cX4_judge 51 = .ok (.getfield 32, 3) := by decide +kernel
theorem dX4_judge_54 : decode cX4_judge 54 = .ok (.iaload, 1) := by decide +kernel
theorem dX4_judge_55 : decode cX4_judge 55 = .ok (.putfield 36, 3) := by decide +kernel
theorem dX4_judge_58 : decode cX4_judge 58 = .ok (.aload_n 0, 1) := by decide +kernel
theorem dX4_judge_59 : decode cX4_judge 59 = .ok (.iconst 0, 1) := by decide +kernel
theorem dX4_judge_60 : decode cX4_judge 60 = .ok (.putfield 39, 3) := by decide +kernel
theorem dX4_judge_63 : decode cX4_judge 63 = .ok (.iconst 0, 1) := by decide +kernel
theorem dX4_judge_64 : decode cX4_judge 64 = .ok (.istore_n 1, 1) := by decide +kernel
theorem dX4_judge_65 : decode cX4_judge 65 = .ok (.iload_n 1, 1) := by decide +kernel
theorem dX4_judge_66 : decode cX4_judge 66 = .ok (.bipush 62, 2) := by decide +kernel
theorem dX4_judge_68 : decode cX4_judge 68 = .ok (.if_icmp .ge 29, 3) := by decide +kernel
theorem dX4_judge_71 : decode cX4_judge 71 = .ok (.iload_n 1, 1) := by decide +kernel
theorem dX4_judge_72 : decode cX4_judge 72 = .ok (.aload_n 0, 1) := by decide +kernel
theorem dX4_judge_73 : decode cX4_judge 73 = .ok (.getfield 32, 3) := by decide +kernel
theorem dX4_judge_76 : decode cX4_judge 76 = .ok (.bipush 62, 2) := by decide +kernel
theorem dX4_judge_78 : decode cX4_judge 78 = .ok (.irem, 1) := by decide +kernel
theorem dX4_judge_79 : decode cX4_judge 79 = .ok (.invokestatic 42, 3) := by decide +kernel
theorem dX4_judge_82 : decode cX4_judge 82 = .ok (.iconst 3, 1) := by decide +kernel
theorem dX4_judge_83 : decode cX4_judge 83 = .ok (.if_icmp .lt 8, 3) := by decide +kernel
theorem dX4_judge_86 : decode cX4_judge 86 = .ok (.aload_n 0, 1) := by decide +kernel
theorem dX4_judge_87 : decode cX4_judge 87 = .ok (.iload_n 1, 1) := by decide +kernel
theorem dX4_judge_88 : decode cX4_judge 88 = .ok (.invokevirtual 46, 3) := by decide +kernel
theorem dX4_judge_91 : decode cX4_judge 91 = .ok (.iinc 1 1, 3) := by decide +kernel
theorem dX4_judge_94 : decode cX4_judge 94 = .ok (.goto (-29), 3) := by decide +kernel
theorem dX4_judge_97 : decode cX4_judge 97 = .ok (.return_, 1) := by decide +kernel
theorem dX4_judgeRival_0 : decode cX4_judgeRival 0 = .ok (.iconst 0, 1) := by decide +kernel
theorem dX4_judgeRival_1 : decode cX4_judgeRival 1 = .ok (.istore_n 2, 1) := by decide +kernel
theorem dX4_judgeRival_2 : decode cX4_judgeRival 2 = .ok (.iload_n 2, 1) := by decide +kernel
theorem dX4_judgeRival_3 : decode cX4_judgeRival 3 = .ok (.bipush 15, 2) := by decide +kernel
theorem dX4_judgeRival_5 : decode cX4_judgeRival 5 = .ok (.if_icmp .ge 31, 3) := by decide +kernel
theorem dX4_judgeRival_8 : decode cX4_judgeRival 8 = .ok (.aload_n 0, 1) := by decide +kernel
theorem dX4_judgeRival_9 : decode cX4_judgeRival 9 = .ok (.aload_n 0, 1) := by decide +kernel
theorem dX4_judgeRival_10 : decode cX4_judgeRival 10 = .ok (.getfield 39, 3) := by decide +kernel
theorem dX4_judgeRival_13 : decode cX4_judgeRival 13 = .ok (.aload_n 0, 1) := by decide +kernel
theorem dX4_judgeRival_14 : decode cX4_judgeRival 14 = .ok (.getfield 9, 3) := by decide +kernel
theorem dX4_judgeRival_17 : decode cX4_judgeRival 17 = .ok (.bipush 62, 2) := by decide +kernel
theorem dX4_judgeRival_19 : decode cX4_judgeRival 19 = .ok (.iload_n 2, 1) := by decide +kernel
theorem dX4_judgeRival_20 : decode cX4_judgeRival 20 = .ok (.imul, 1) := by decide +kernel
theorem dX4_judgeRival_21 : decode cX4_judgeRival 21 = .ok (.iload_n 1, 1) := by decide +kernel
theorem dX4_judgeRival_22 : decode cX4_judgeRival 22 = .ok (.iadd, 1) := by decide +kernel
theorem dX4_judgeRival_23 : decode cX4_judgeRival 23 = .ok (.iaload, 1) := by decide +kernel
theorem dX4_judgeRival_24 : decode cX4_judgeRival 24 = .ok (.invokestatic 49, 3) := by decide +kernel
theorem dX4_judgeRival_27 : decode cX4_judgeRival 27 = .ok (.putfield 39, 3) := by decide +kernel
theorem dX4_judgeRival_30 : decode cX4_judgeRival 30 = .ok (.iinc 2 1, 3) := by decide +kernel
theorem dX4_judgeRival_33 : decode cX4_judgeRival 33 = .ok (.goto (-31), 3) := by decide +kernel
theorem dX4_judgeRival_36 : decode cX4_judgeRival 36 = .ok (.return_, 1) := by decide +kernel
theorem dX4_isAcquired_0 : decode cX4_isAcquired 0 = .ok (.aload_n 0, 1) := by decide +kernel
theorem dX4_isAcquired_1 : decode cX4_isAcquired 1 = .ok (.getfield 36, 3) := by decide +kernel
theorem dX4_isAcquired_4 : decode cX4_isAcquired 4 = .ok (.ifCond .le 28, 3) := by decide +kernel
theorem dX4_isAcquired_7 : decode cX4_isAcquired 7 = .ok (.ldc2_w 54, 3) := by decide +kernel
theorem dX4_isAcquired_10 : decode cX4_isAcquired 10 = .ok (.aload_n 0, 1) := by decide +kernel
theorem dX4_isAcquired_11 : decode cX4_isAcquired 11 = .ok (.getfield 36, 3) := by decide +kernel
theorem dX4_isAcquired_14 : decode cX4_isAcquired 14 = .ok (.i2l, 1) := by decide +kernel
theorem dX4_isAcquired_15 : decode cX4_isAcquired 15 = .ok (.lmul, 1) := by decide +kernel
theorem dX4_isAcquired_16 : decode cX4_isAcquired 16 = .ok (.iload_n 1, 1) := by decide +kernel
theorem dX4_isAcquired_17 : decode cX4_isAcquired 17 = .ok (.i2l, 1) := by decide +kernel
theorem dX4_isAcquired_18 : decode cX4_isAcquired 18 = .ok (.aload_n 0, 1) := by decide +kernel
theorem dX4_isAcquired_19 : decode cX4_isAcquired 19 = .ok (.getfield 39, 3) := by decide +kernel
theorem dX4_isAcquired_22 : decode cX4_isAcquired 22 = .ok (.i2l, 1) := by decide +kernel
theorem dX4_isAcquired_23 : decode cX4_isAcquired 23 = .ok (.lmul, 1) := by decide +kernel
theorem dX4_isAcquired_24 : decode cX4_isAcquired 24 = .ok (.lcmp, 1) := by decide +kernel
theorem dX4_isAcquired_25 : decode cX4_isAcquired 25 = .ok (.ifCond .lt 7, 3) := by decide +kernel
theorem dX4_isAcquired_28 : decode cX4_isAcquired 28 = .ok (.iconst 1, 1) := by decide +kernel
theorem dX4_isAcquired_29 : decode cX4_isAcquired 29 = .ok (.goto 4, 3) := by decide +kernel
theorem dX4_isAcquired_32 : decode cX4_isAcquired 32 = .ok (.iconst 0, 1) := by decide +kernel
theorem dX4_isAcquired_33 : decode cX4_isAcquired 33 = .ok (.ireturn, 1) := by decide +kernel
theorem dX5_init_0 : decode cX5_init 0 = .ok (.aload_n 0, 1) := by decide +kernel
theorem dX5_init_1 : decode cX5_init 1 = .ok (.invokespecial 3, 3) := by decide +kernel
theorem dX5_init_4 : decode cX5_init 4 = .ok (.aload_n 0, 1) := by decide +kernel
theorem dX5_init_5 : decode cX5_init 5 = .ok (.bipush 10, 2) := by decide +kernel
theorem dX5_init_7 : decode cX5_init 7 = .ok (.anewarray 9, 3) := by decide +kernel
theorem dX5_init_10 : decode cX5_init 10 = .ok (.putfield 11, 3) := by decide +kernel
theorem dX5_init_13 : decode cX5_init 13 = .ok (.iconst 0, 1) := by decide +kernel
theorem dX5_init_14 : decode cX5_init 14 = .ok (.istore_n 1, 1) := by decide +kernel
theorem dX5_init_15 : decode cX5_init 15 = .ok (.iload_n 1, 1) := by decide +kernel
theorem dX5_init_16 : decode cX5_init 16 = .ok (.aload_n 0, 1) := by decide +kernel
theorem dX5_init_17 : decode cX5_init 17 = .ok (.getfield 11, 3) := by decide +kernel
theorem dX5_init_20 : decode cX5_init 20 = .ok (.arraylength, 1) := by decide +kernel
theorem dX5_init_21 : decode cX5_init 21 = .ok (.if_icmp .ge 22, 3) := by decide +kernel
theorem dX5_init_24 : decode cX5_init 24 = .ok (.aload_n 0, 1) := by decide +kernel
theorem dX5_init_25 : decode cX5_init 25 = .ok (.getfield 11, 3) := by decide +kernel
theorem dX5_init_28 : decode cX5_init 28 = .ok (.iload_n 1, 1) := by decide +kernel
theorem dX5_init_29 : decode cX5_init 29 = .ok (.new 9, 3) := by decide +kernel
theorem dX5_init_32 : decode cX5_init 32 = .ok (.dup, 1) := by decide +kernel
theorem dX5_init_33 : decode cX5_init 33 = .ok (.invokespecial 17, 3) := by decide +kernel
theorem dX5_init_36 : decode cX5_init 36 = .ok (.aastore, 1) := by decide +kernel
theorem dX5_init_37 : decode cX5_init 37 = .ok (.iinc 1 1, 3) := by decide +kernel
theorem dX5_init_40 : decode cX5_init 40 = .ok (.goto (-25), 3) := by decide +kernel
theorem dX5_init_43 : decode cX5_init 43 = .ok (.return_, 1) := by decide +kernel
theorem dX5_forget_0 : decode cX5_forget 0 = .ok (.aload_n 0, 1) := by decide +kernel
theorem dX5_forget_1 : decode cX5_forget 1 = .ok (.iconst 0, 1) := by decide +kernel
theorem dX5_forget_2 : decode cX5_forget 2 = .ok (.putfield 18, 3) := by decide +kernel
theorem dX5_forget_5 : decode cX5_forget 5 = .ok (.return_, 1) := by decide +kernel
theorem dX5_push_0 : decode cX5_push 0 = .ok (.aload_n 0, 1) := by decide +kernel
theorem dX5_push_1 : decode cX5_push 1 = .ok (.aload_n 0, 1) := by decide +kernel
theorem dX5_push_2 : decode cX5_push 2 = .ok (.getfield 22, 3) := by decide +kernel
theorem dX5_push_5 : decode cX5_push 5 = .ok (.iconst 1, 1) := by decide +kernel
theorem dX5_push_6 : decode cX5_push 6 = .ok (.iadd, 1) := by decide +kernel
theorem dX5_push_7 : decode cX5_push 7 = .ok (.bipush 10, 2) := by decide +kernel
theorem dX5_push_9 : decode cX5_push 9 = .ok (.irem, 1) := by decide +kernel
theorem dX5_push_10 : decode cX5_push 10 = .ok (.putfield 22, 3) := by decide +kernel
theorem dX5_push_13 : decode cX5_push 13 = .ok (.aload_n 0, 1) := by decide +kernel
theorem dX5_push_14 : decode cX5_push 14 = .ok (.getfield 11, 3) := by decide +kernel
theorem dX5_push_17 : decode cX5_push 17 = .ok (.aload_n 0, 1) := by decide +kernel
theorem dX5_push_18 : decode cX5_push 18 = .ok (.getfield 22, 3) := by decide +kernel
theorem dX5_push_21 : decode cX5_push 21 = .ok (.aaload, 1) := by decide +kernel
theorem dX5_push_22 : decode cX5_push 22 = .ok (.aload_n 1, 1) := by decide +kernel
theorem dX5_push_23 : decode cX5_push 23 = .ok (.invokevirtual 25, 3) := by decide +kernel
theorem dX5_push_26 : decode cX5_push 26 = .ok (.aload_n 0, 1) := by decide +kernel
theorem dX5_push_27 : decode cX5_push 27 = .ok (.bipush 10, 2) := by decide +kernel
theorem dX5_push_29 : decode cX5_push 29 = .ok (.aload_n 0, 1) := by decide +kernel
theorem dX5_push_30 : decode cX5_push 30 = .ok (.getfield 18, 3) := by decide +kernel
theorem dX5_push_33 : decode cX5_push 33 = .ok (.iconst 1, 1) := by decide +kernel
theorem dX5_push_34 : decode cX5_push 34 = .ok (.iadd, 1) := by decide +kernel
theorem dX5_push_35 : decode cX5_push 35 = .ok (.invokestatic 29, 3) := by decide +kernel
theorem dX5_push_38 : decode cX5_push 38 = .ok (.putfield 18, 3) := by decide +kernel
theorem dX5_push_41 : decode cX5_push 41 = .ok (.return_, 1) := by decide +kernel
theorem dX5_pop_0 : decode cX5_pop 0 = .ok (.aload_n 0, 1) := by decide +kernel
theorem dX5_pop_1 : decode cX5_pop 1 = .ok (.getfield 18, 3) := by decide +kernel
theorem dX5_pop_4 : decode cX5_pop 4 = .ok (.ifCond .le 42, 3) := by decide +kernel
theorem dX5_pop_7 : decode cX5_pop 7 = .ok (.aload_n 1, 1) := by decide +kernel
theorem dX5_pop_8 : decode cX5_pop 8 = .ok (.aload_n 0, 1) := by decide +kernel
theorem dX5_pop_9 : decode cX5_pop 9 = .ok (.getfield 11, 3) := by decide +kernel
theorem dX5_pop_12 : decode cX5_pop 12 = .ok (.aload_n 0, 1) := by decide +kernel
theorem dX5_pop_13 : decode cX5_pop 13 = .ok (.getfield 22, 3) := by decide +kernel
theorem dX5_pop_16 : decode cX5_pop 16 = .ok (.aaload, 1) := by decide +kernel
theorem dX5_pop_17 : decode cX5_pop 17 = .ok (.invokevirtual 25, 3) := by decide +kernel
theorem dX5_pop_20 : decode cX5_pop 20 = .ok (.aload_n 0, 1) := by decide +kernel
theorem dX5_pop_21 : decode cX5_pop 21 = .ok (.aload_n 0, 1) := by decide +kernel
theorem dX5_pop_22 : decode cX5_pop 22 = .ok (.getfield 22, 3) := by decide +kernel
theorem dX5_pop_25 : decode cX5_pop 25 = .ok (.bipush 10, 2) := by decide +kernel
theorem dX5_pop_27 : decode cX5_pop 27 = .ok (.iadd, 1) := by decide +kernel
theorem dX5_pop_28 : decode cX5_pop 28 = .ok (.iconst 1, 1) := by decide +kernel
theorem dX5_pop_29 : decode cX5_pop 29 = .ok (.isub, 1) := by decide +kernel
theorem dX5_pop_30 : decode cX5_pop 30 = .ok (.bipush 10, 2) := by decide +kernel
theorem dX5_pop_32 : decode cX5_pop 32 = .ok (.irem, 1) := by decide +kernel
theorem dX5_pop_33 : decode cX5_pop 33 = .ok (.putfield 22, 3) := by decide +kernel
theorem dX5_pop_36 : decode cX5_pop 36 = .ok (.aload_n 0, 1) := by decide +kernel
theorem dX5_pop_37 : decode cX5_pop 37 = .ok (.dup, 1) := by decide +kernel
theorem dX5_pop_38 : decode cX5_pop 38 = .ok (.getfield 18, 3) := by decide +kernel
theorem dX5_pop_41 : decode cX5_pop 41 = .ok (.iconst 1, 1) := by decide +kernel
theorem dX5_pop_42 : decode cX5_pop 42 = .ok (.isub, 1) := by decide +kernel
theorem dX5_pop_43 : decode cX5_pop 43 = .ok (.putfield 18, 3) := by decide +kernel
theorem dX5_pop_46 : decode cX5_pop 46 = .ok (.return_, 1) := by decide +kernel
theorem dX6_init_0 : decode cX6_init 0 = .ok (.aload_n 0, 1) := by decide +kernel
theorem dX6_init_1 : decode cX6_init 1 = .ok (.invokespecial 3, 3) := by decide +kernel
theorem dX6_init_4 : decode cX6_init 4 = .ok (.aload_n 0, 1) := by decide +kernel
theorem dX6_init_5 : decode cX6_init 5 = .ok (.iconst (-1), 1) := by decide +kernel
theorem dX6_init_6 : decode cX6_init 6 = .ok (.putfield 9, 3) := by decide +kernel
theorem dX6_init_9 : decode cX6_init 9 = .ok (.aload_n 0, 1) := by decide +kernel
theorem dX6_init_10 : decode cX6_init 10 = .ok (.iconst 0, 1) := by decide +kernel
theorem dX6_init_11 : decode cX6_init 11 = .ok (.newarray .int, 2) := by decide +kernel
theorem dX6_init_13 : decode cX6_init 13 = .ok (.putfield 15, 3) := by decide +kernel
theorem dX6_init_16 : decode cX6_init 16 = .ok (.aload_n 0, 1) := by decide +kernel
theorem dX6_init_17 : decode cX6_init 17 = .ok (.iconst 4, 1) := by decide +kernel
theorem dX6_init_18 : decode cX6_init 18 = .ok (.newarray .int, 2) := by decide +kernel
theorem dX6_init_20 : decode cX6_init 20 = .ok (.putfield 19, 3) := by decide +kernel
theorem dX6_init_23 : decode cX6_init 23 = .ok (.return_, 1) := by decide +kernel
theorem dX6_readAll_0 : decode cX6_readAll 0 = .ok (.aload_n 0, 1) := by decide +kernel
theorem dX6_readAll_1 : decode cX6_readAll 1 = .ok (.aload_n 1, 1) := by decide +kernel
theorem dX6_readAll_2 : decode cX6_readAll 2 = .ok (.putfield 15, 3) := by decide +kernel
theorem dX6_readAll_5 : decode cX6_readAll 5 = .ok (.aload_n 0, 1) := by decide +kernel
theorem dX6_readAll_6 : decode cX6_readAll 6 = .ok (.iload_n 2, 1) := by decide +kernel
theorem dX6_readAll_7 : decode cX6_readAll 7 = .ok (.aload_n 1, 1) := by decide +kernel
theorem dX6_readAll_8 : decode cX6_readAll 8 = .ok (.arraylength, 1) := by decide +kernel
theorem dX6_readAll_9 : decode cX6_readAll 9 = .ok (.invokestatic 22, 3) := by decide +kernel
theorem dX6_readAll_12 : decode cX6_readAll 12 = .ok (.putfield 28, 3) := by decide +kernel
theorem dX6_readAll_15 : decode cX6_readAll 15 = .ok (.aload_n 0, 1) := by decide +kernel
theorem dX6_readAll_16 : decode cX6_readAll 16 = .ok (.iconst 0, 1) := by decide +kernel
theorem dX6_readAll_17 : decode cX6_readAll 17 = .ok (.putfield 31, 3) := by decide +kernel
theorem dX6_readAll_20 : decode cX6_readAll 20 = .ok (.aload_n 0, 1) := by decide +kernel
theorem dX6_readAll_21 : decode cX6_readAll 21 = .ok (.aload_n 3, 1) := by decide +kernel
theorem dX6_readAll_22 : decode cX6_readAll 22 = .ok (.putfield 34, 3) := by decide +kernel
theorem dX6_readAll_25 : decode cX6_readAll 25 = .ok (.aload_n 0, 1) := by decide +kernel
theorem dX6_readAll_26 : decode cX6_readAll 26 = .ok (.getfield 34, 3) := by decide +kernel
theorem dX6_readAll_29 : decode cX6_readAll 29 = .ok (.invokevirtual 38, 3) := by decide +kernel
theorem dX6_readAll_32 : decode cX6_readAll 32 = .ok (.aload_n 0, 1) := by decide +kernel
theorem dX6_readAll_33 : decode cX6_readAll 33 = .ok (.iconst 0, 1) := by decide +kernel
theorem dX6_readAll_34 : decode cX6_readAll 34 = .ok (.putfield 43, 3) := by decide +kernel
theorem dX6_readAll_37 : decode cX6_readAll 37 = .ok (.aload_n 0, 1) := by decide +kernel
theorem dX6_readAll_38 : decode cX6_readAll 38 = .ok (.iconst (-1), 1) := by decide +kernel
theorem dX6_readAll_39 : decode cX6_readAll 39 = .ok (.putfield 9, 3) := by decide +kernel
theorem dX6_readAll_42 : decode cX6_readAll 42 = .ok (.iconst 0, 1) := by decide +kernel
theorem dX6_readAll_43 : decode cX6_readAll 43 = .ok (.istore 4, 2) := by decide +kernel
theorem dX6_readAll_45 : decode cX6_readAll 45 = .ok (.aload_n 0, 1) := by decide +kernel
theorem dX6_readAll_46 : decode cX6_readAll 46 = .ok (.invokevirtual 46, 3) := by decide +kernel
theorem dX6_readAll_49 : decode cX6_readAll 49 = .ok (.iconst 0, 1) := by decide +kernel
theorem dX6_readAll_50 : decode cX6_readAll 50 = .ok (.istore 5, 2) := by decide +kernel
theorem dX6_readAll_52 : decode cX6_readAll 52 = .ok (.iload 5, 2) := by decide +kernel
theorem dX6_readAll_54 : decode cX6_readAll 54 = .ok (.aload_n 0, 1) := by decide +kernel
theorem dX6_readAll_55 : decode cX6_readAll 55 = .ok (.getfield 28, 3) := by decide +kernel
theorem dX6_readAll_58 : decode cX6_readAll 58 = .ok (.if_icmp .ge 28, 3) := by decide +kernel
theorem dX6_readAll_61 : decode cX6_readAll 61 = .ok (.aload_n 0, 1) := by decide +kernel
theorem dX6_readAll_62 : decode cX6_readAll 62 = .ok (.getfield 49, 3) := by decide +kernel
theorem dX6_readAll_65 : decode cX6_readAll 65 = .ok (.ifCond .eq 21, 3) := by decide +kernel
theorem dX6_readAll_68 : decode cX6_readAll 68 = .ok (.aload_n 0, 1) := by decide +kernel
theorem dX6_readAll_69 : decode cX6_readAll 69 = .ok (.invokevirtual 52, 3) := by decide +kernel
theorem dX6_readAll_72 : decode cX6_readAll 72 = .ok (.ifCond .ne 5, 3) := by decide +kernel
theorem dX6_readAll_75 : decode cX6_readAll 75 = .ok (.iconst (-1), 1) := by decide +kernel
theorem dX6_readAll_76 : decode cX6_readAll 76 = .ok (.ireturn, 1) := by decide +kernel
theorem dX6_readAll_77 : decode cX6_readAll 77 = .ok (.iinc 4 1, 3) := by decide +kernel
theorem dX6_readAll_80 : decode cX6_readAll 80 = .ok (.iinc 5 1, 3) := by decide +kernel
theorem dX6_readAll_83 : decode cX6_readAll 83 = .ok (.goto (-31), 3) := by decide +kernel
theorem dX6_readAll_86 : decode cX6_readAll 86 = .ok (.aload_n 0, 1) := by decide +kernel
theorem dX6_readAll_87 : decode cX6_readAll 87 = .ok (.getfield 34, 3) := by decide +kernel
theorem dX6_readAll_90 : decode cX6_readAll 90 = .ok (.invokevirtual 56, 3) := by decide +kernel
theorem dX6_readAll_93 : decode cX6_readAll 93 = .ok (.iload 4, 2) := by decide +kernel
theorem dX6_readAll_95 : decode cX6_readAll 95 = .ok (.ireturn, 1) := by decide +kernel
theorem dX6_refuse_0 : decode cX6_refuse 0 = .ok (.aload_n 0, 1) := by decide +kernel
theorem dX6_refuse_1 : decode cX6_refuse 1 = .ok (.iload_n 1, 1) := by decide +kernel
theorem dX6_refuse_2 : decode cX6_refuse 2 = .ok (.putfield 43, 3) := by decide +kernel
theorem dX6_refuse_5 : decode cX6_refuse 5 = .ok (.aload_n 0, 1) := by decide +kernel
theorem dX6_refuse_6 : decode cX6_refuse 6 = .ok (.aload_n 0, 1) := by decide +kernel
theorem dX6_refuse_7 : decode cX6_refuse 7 = .ok (.getfield 59, 3) := by decide +kernel
theorem dX6_refuse_10 : decode cX6_refuse 10 = .ok (.putfield 9, 3) := by decide +kernel
theorem dX6_refuse_13 : decode cX6_refuse 13 = .ok (.iconst 0, 1) := by decide +kernel
theorem dX6_refuse_14 : decode cX6_refuse 14 = .ok (.ireturn, 1) := by decide +kernel
theorem dX6_readLine_0 : decode cX6_readLine 0 = .ok (.aload_n 0, 1) := by decide +kernel
theorem dX6_readLine_1 : decode cX6_readLine 1 = .ok (.getfield 49, 3) := by decide +kernel
theorem dX6_readLine_4 : decode cX6_readLine 4 = .ok (.iconst 1, 1) := by decide +kernel
theorem dX6_readLine_5 : decode cX6_readLine 5 = .ok (.if_icmp .ne 13, 3) := by decide +kernel
theorem dX6_readLine_8 : decode cX6_readLine 8 = .ok (.aload_n 0, 1) := by decide +kernel
theorem dX6_readLine_9 : decode cX6_readLine 9 = .ok (.getfield 62, 3) := by decide +kernel
theorem dX6_readLine_12 : decode cX6_readLine 12 = .ok (.invokestatic 65, 3) := by decide +kernel
theorem dX6_readLine_15 : decode cX6_readLine 15 = .ok (.goto 4, 3) := by decide +kernel
theorem dX6_readLine_18 : decode cX6_readLine 18 = .ok (.iconst (-1), 1) := by decide +kernel
theorem dX6_readLine_19 : decode cX6_readLine 19 = .ok (.istore_n 1, 1) := by decide +kernel
theorem dX6_readLine_20 : decode cX6_readLine 20 = .ok (.iload_n 1, 1) := by decide +kernel
theorem dX6_readLine_21 : decode cX6_readLine 21 = .ok (.iconst (-1), 1) := by decide +kernel
theorem dX6_readLine_22 : decode cX6_readLine 22 = .ok (.if_icmp .ne 9, 3) := by decide +kernel
theorem dX6_readLine_25 : decode cX6_readLine 25 = .ok (.aload_n 0, 1) := by decide +kernel
theorem dX6_readLine_26 : decode cX6_readLine 26 = .ok (.iconst 1, 1) := by decide +kernel
theorem dX6_readLine_27 : decode cX6_readLine 27 = .ok (.invokevirtual 69, 3) := by decide +kernel
theorem dX6_readLine_30 : decode cX6_readLine 30 = .ok (.ireturn, 1) := by decide +kernel
theorem dX6_readLine_31 : decode cX6_readLine 31 = .ok (.aload_n 0, 1) := by decide +kernel
theorem dX6_readLine_32 : decode cX6_readLine 32 = .ok (.iload_n 1, 1) := by decide +kernel
theorem dX6_readLine_33 : decode cX6_readLine 33 = .ok (.invokevirtual 73, 3) := by decide +kernel
theorem dX6_readLine_36 : decode cX6_readLine 36 = .ok (.ifCond .eq 9, 3) := by decide +kernel
theorem dX6_readLine_39 : decode cX6_readLine 39 = .ok (.aload_n 0, 1) := by decide +kernel
theorem dX6_readLine_40 : decode cX6_readLine 40 = .ok (.iconst 2, 1) := by decide +kernel
theorem dX6_readLine_41 : decode cX6_readLine 41 = .ok (.invokevirtual 69, 3) := by decide +kernel
theorem dX6_readLine_44 : decode cX6_readLine 44 = .ok (.ireturn, 1) := by decide +kernel
theorem dX6_readLine_45 : decode cX6_readLine 45 = .ok (.iload_n 1, 1) := by decide +kernel
theorem dX6_readLine_46 : decode cX6_readLine 46 = .ok (.invokestatic 76, 3) := by decide +kernel
theorem dX6_readLine_49 : decode cX6_readLine 49 = .ok (.ifCond .eq 24, 3) := by decide +kernel
theorem dX6_readLine_52 : decode cX6_readLine 52 = .ok (.aload_n 0, 1) := by decide +kernel
theorem dX6_readLine_53 : decode cX6_readLine 53 = .ok (.getfield 34, 3) := by decide +kernel
theorem dX6_readLine_56 : decode cX6_readLine 56 = .ok (.getfield 79, 3) := by decide +kernel
theorem dX6_readLine_59 : decode cX6_readLine 59 = .ok (.iload_n 1, 1) := by decide +kernel
theorem dX6_readLine_60 : decode cX6_readLine 60 = .ok (.iushr, 1) := by decide +kernel
theorem dX6_readLine_61 : decode cX6_readLine 61 = .ok (.iconst 1, 1) := by decide +kernel
theorem dX6_readLine_62 : decode cX6_readLine 62 = .ok (.iand, 1) := by decide +kernel
theorem dX6_readLine_63 : decode cX6_readLine 63 = .ok (.iconst 1, 1) := by decide +kernel
theorem dX6_readLine_64 : decode cX6_readLine 64 = .ok (.if_icmp .ne 9, 3) := by decide +kernel
theorem dX6_readLine_67 : decode cX6_readLine 67 = .ok (.aload_n 0, 1) := by decide +kernel
theorem dX6_readLine_68 : decode cX6_readLine 68 = .ok (.iconst 3, 1) := by decide +kernel
theorem dX6_readLine_69 : decode cX6_readLine 69 = .ok (.invokevirtual 69, 3) := by decide +kernel
theorem dX6_readLine_72 : decode cX6_readLine 72 = .ok (.ireturn, 1) := by decide +kernel
theorem dX6_readLine_73 : decode cX6_readLine 73 = .ok (.aload_n 0, 1) := by decide +kernel
theorem dX6_readLine_74 : decode cX6_readLine 74 = .ok (.invokevirtual 46, 3) := by decide +kernel
theorem dX6_readLine_77 : decode cX6_readLine 77 = .ok (.iload_n 1, 1) := by decide +kernel
theorem dX6_readLine_78 : decode cX6_readLine 78 = .ok (.invokestatic 76, 3) := by decide +kernel
theorem dX6_readLine_81 : decode cX6_readLine 81 = .ok (.ifCond .ne 13, 3) := by decide +kernel
theorem dX6_readLine_84 : decode cX6_readLine 84 = .ok (.aload_n 0, 1) := by decide +kernel
theorem dX6_readLine_85 : decode cX6_readLine 85 = .ok (.iload_n 1, 1) := by decide +kernel
theorem dX6_readLine_86 : decode cX6_readLine 86 = .ok (.invokevirtual 82, 3) := by decide +kernel
theorem dX6_readLine_89 : decode cX6_readLine 89 = .ok (.ifCond .ne 5, 3) := by decide +kernel
theorem dX6_readLine_92 : decode cX6_readLine 92 = .ok (.iconst 0, 1) := by decide +kernel
theorem dX6_readLine_93 : decode cX6_readLine 93 = .ok (.ireturn, 1) := by decide +kernel
theorem dX6_readLine_94 : decode cX6_readLine 94 = .ok (.aload_n 0, 1) := by decide +kernel
theorem dX6_readLine_95 : decode cX6_readLine 95 = .ok (.iload_n 1, 1) := by decide +kernel
theorem dX6_readLine_96 : decode cX6_readLine 96 = .ok (.invokevirtual 85, 3) := by decide +kernel
theorem dX6_readLine_99 : decode cX6_readLine 99 = .ok (.ifCond .ne 5, 3) := by decide +kernel
theorem dX6_readLine_102 : decode cX6_readLine 102 = .ok (.iconst 0, 1) := by decide +kernel
theorem dX6_readLine_103 : decode cX6_readLine 103 = .ok (.ireturn, 1) := by decide +kernel
theorem dX6_readLine_104 : decode cX6_readLine 104 = .ok (.aload_n 0, 1) := by decide +kernel
theorem dX6_readLine_105 : decode cX6_readLine 105 = .ok (.getfield 49, 3) := by decide +kernel
theorem dX6_readLine_108 : decode cX6_readLine 108 = .ok (.iconst 3, 1) := by decide +kernel
theorem dX6_readLine_109 : decode cX6_readLine 109 = .ok (.if_icmp .eq 9, 3) := by decide +kernel
theorem dX6_readLine_112 : decode cX6_readLine 112 = .ok (.aload_n 0, 1) := by decide +kernel
theorem dX6_readLine_113 : decode cX6_readLine 113 = .ok (.iconst 1, 1) := by decide +kernel
theorem dX6_readLine_114 : decode cX6_readLine 114 = .ok (.invokevirtual 69, 3) := by decide +kernel
theorem dX6_readLine_117 : decode cX6_readLine 117 = .ok (.ireturn, 1) := by decide +kernel
theorem dX6_readLine_118 : decode cX6_readLine 118 = .ok (.aload_n 0, 1) := by decide +kernel
theorem dX6_readLine_119 : decode cX6_readLine 119 = .ok (.iload_n 1, 1) := by decide +kernel
theorem dX6_readLine_120 : decode cX6_readLine 120 = .ok (.invokevirtual 88, 3) := by decide +kernel
theorem dX6_readLine_123 : decode cX6_readLine 123 = .ok (.aload_n 0, 1) := by decide +kernel
theorem dX6_readLine_124 : decode cX6_readLine 124 = .ok (.invokevirtual 46, 3) := by decide +kernel
theorem dX6_readLine_127 : decode cX6_readLine 127 = .ok (.iconst 1, 1) := by decide +kernel
theorem dX6_readLine_128 : decode cX6_readLine 128 = .ok (.ireturn, 1) := by decide +kernel
theorem dX6_isOnce_0 : decode cX6_isOnce 0 = .ok (.iload_n 0, 1) := by decide +kernel
theorem dX6_isOnce_1 : decode cX6_isOnce 1 = .ok (.bipush 6, 2) := by decide +kernel
theorem dX6_isOnce_3 : decode cX6_isOnce 3 = .ok (.if_icmp .lt 7, 3) := by decide +kernel
theorem dX6_isOnce_6 : decode cX6_isOnce 6 = .ok (.iconst 1, 1) := by decide +kernel
theorem dX6_isOnce_7 : decode cX6_isOnce 7 = .ok (.goto 4, 3) := by decide +kernel
theorem dX6_isOnce_10 : decode cX6_isOnce 10 = .ok (.iconst 0, 1) := by decide +kernel
theorem dX6_isOnce_11 : decode cX6_isOnce 11 = .ok (.ireturn, 1) := by decide +kernel
theorem dX6_isOneTooMany_0 : decode cX6_isOneTooMany 0 = .ok (.iload_n 1, 1) := by decide +kernel
theorem dX6_isOneTooMany_1 : decode cX6_isOneTooMany 1 = .ok (.ifCond .ne 14, 3) := by decide +kernel
theorem dX6_isOneTooMany_4 : decode cX6_isOneTooMany 4 = .ok (.aload_n 0, 1) := by decide +kernel
theorem dX6_isOneTooMany_5 : decode cX6_isOneTooMany 5 = .ok (.getfield 34, 3) := by decide +kernel
theorem dX6_isOneTooMany_8 : decode cX6_isOneTooMany 8 = .ok (.getfield 92, 3) := by decide +kernel
theorem dX6_isOneTooMany_11 : decode cX6_isOneTooMany 11 = .ok (.iconst 5, 1) := by decide +kernel
theorem dX6_isOneTooMany_12 : decode cX6_isOneTooMany 12 = .ok (.if_icmp .ge 20, 3) := by decide +kernel
theorem dX6_isOneTooMany_15 : decode cX6_isOneTooMany 15 = .ok (.iload_n 1, 1) := by decide +kernel
theorem dX6_isOneTooMany_16 : decode cX6_isOneTooMany 16 = .ok (.iconst 4, 1) := by decide +kernel
theorem dX6_isOneTooMany_17 : decode cX6_isOneTooMany 17 = .ok (.if_icmp .ne 19, 3) := by decide +kernel
theorem dX6_isOneTooMany_20 : decode cX6_isOneTooMany 20 = .ok (.aload_n 0, 1) := by decide +kernel
theorem dX6_isOneTooMany_21 : decode cX6_isOneTooMany 21 = .ok (.getfield 34, 3) := by decide +kernel
theorem dX6_isOneTooMany_24 : decode cX6_isOneTooMany 24 = .ok (.getfield 95, 3) := by decide +kernel
theorem dX6_isOneTooMany_27 : decode cX6_isOneTooMany 27 = .ok (.bipush 10, 2) := by decide +kernel
theorem dX6_isOneTooMany_29 : decode cX6_isOneTooMany 29 = .ok (.if_icmp .lt 7, 3) := by decide +kernel
theorem dX6_isOneTooMany_32 : decode cX6_isOneTooMany 32 = .ok (.iconst 1, 1) := by decide +kernel
theorem dX6_isOneTooMany_33 : decode cX6_isOneTooMany 33 = .ok (.goto 4, 3) := by decide +kernel
theorem dX6_isOneTooMany_36 : decode cX6_isOneTooMany 36 = .ok (.iconst 0, 1) := by decide +kernel
theorem dX6_isOneTooMany_37 : decode cX6_isOneTooMany 37 = .ok (.ireturn, 1) := by decide +kernel
theorem dX6_readName_0 : decode cX6_readName 0 = .ok (.aload_n 0, 1) := by decide +kernel
theorem dX6_readName_1 : decode cX6_readName 1 = .ok (.getfield 49, 3) := by decide +kernel
theorem dX6_readName_4 : decode cX6_readName 4 = .ok (.iconst 1, 1) := by decide +kernel
theorem dX6_readName_5 : decode cX6_readName 5 = .ok (.if_icmp .ne 14, 3) := by decide +kernel
theorem dX6_readName_8 : decode cX6_readName 8 = .ok (.aload_n 0, 1) := by decide +kernel
theorem dX6_readName_9 : decode cX6_readName 9 = .ok (.getfield 62, 3) := by decide +kernel
theorem dX6_readName_12 : decode cX6_readName 12 = .ok (.invokestatic 65, 3) := by decide +kernel
theorem dX6_readName_15 : decode cX6_readName 15 = .ok (.iconst (-1), 1) := by decide +kernel
theorem dX6_readName_16 : decode cX6_readName 16 = .ok (.if_icmp .eq 9, 3) := by decide +kernel
theorem dX6_readName_19 : decode cX6_readName 19 = .ok (.aload_n 0, 1) := by decide +kernel
theorem dX6_readName_20 : decode cX6_readName 20 = .ok (.iconst 1, 1) := by decide +kernel
theorem dX6_readName_21 : decode cX6_readName 21 = .ok (.invokevirtual 69, 3) := by decide +kernel
theorem dX6_readName_24 : decode cX6_readName 24 = .ok (.ireturn, 1) := by decide +kernel
theorem dX6_readName_25 : decode cX6_readName 25 = .ok (.aload_n 0, 1) := by decide +kernel
theorem dX6_readName_26 : decode cX6_readName 26 = .ok (.getfield 34, 3) := by decide +kernel
theorem dX6_readName_29 : decode cX6_readName 29 = .ok (.aload_n 0, 1) := by decide +kernel
theorem dX6_readName_30 : decode cX6_readName 30 = .ok (.getfield 62, 3) := by decide +kernel
theorem dX6_readName_33 : decode cX6_readName 33 = .ok (.invokevirtual 98, 3) := by decide +kernel
theorem dX6_readName_36 : decode cX6_readName 36 = .ok (.istore_n 2, 1) := by decide +kernel
theorem dX6_readName_37 : decode cX6_readName 37 = .ok (.iload_n 1, 1) := by decide +kernel
theorem dX6_readName_38 : decode cX6_readName 38 = .ok (.ifCond .ne 14, 3) := by decide +kernel
theorem dX6_readName_41 : decode cX6_readName 41 = .ok (.iload_n 2, 1) := by decide +kernel
theorem dX6_readName_42 : decode cX6_readName 42 = .ok (.iconst (-1), 1) := by decide +kernel
theorem dX6_readName_43 : decode cX6_readName 43 = .ok (.if_icmp .eq 47, 3) := by decide +kernel
theorem dX6_readName_46 : decode cX6_readName 46 = .ok (.aload_n 0, 1) := by decide +kernel
theorem dX6_readName_47 : decode cX6_readName 47 = .ok (.iconst 3, 1) := by decide +kernel
theorem dX6_readName_48 : decode cX6_readName 48 = .ok (.invokevirtual 69, 3) := by decide +kernel
theorem dX6_readName_51 : decode cX6_readName 51 = .ok (.ireturn, 1) := by decide +kernel
theorem dX6_readName_52 : decode cX6_readName 52 = .ok (.iload_n 2, 1) := by decide +kernel
theorem dX6_readName_53 : decode cX6_readName 53 = .ok (.iconst (-1), 1) := by decide +kernel
theorem dX6_readName_54 : decode cX6_readName 54 = .ok (.if_icmp .ne 9, 3) := by decide +kernel
theorem dX6_readName_57 : decode cX6_readName 57 = .ok (.aload_n 0, 1) := by decide +kernel
theorem dX6_readName_58 : decode cX6_readName 58 = .ok (.iconst 4, 1) := by decide +kernel
theorem dX6_readName_59 : decode cX6_readName 59 = .ok (.invokevirtual 69, 3) := by decide +kernel
theorem dX6_readName_62 : decode cX6_readName 62 = .ok (.ireturn, 1) := by decide +kernel
theorem dX6_readName_63 : decode cX6_readName 63 = .ok (.aload_n 0, 1) := by decide +kernel
theorem dX6_readName_64 : decode cX6_readName 64 = .ok (.aload_n 0, 1) := by decide +kernel
theorem dX6_readName_65 : decode cX6_readName 65 = .ok (.getfield 34, 3) := by decide +kernel
theorem dX6_readName_68 : decode cX6_readName 68 = .ok (.getfield 101, 3) := by decide +kernel
theorem dX6_readName_71 : decode cX6_readName 71 = .ok (.iload_n 2, 1) := by decide +kernel
theorem dX6_readName_72 : decode cX6_readName 72 = .ok (.aaload, 1) := by decide +kernel
theorem dX6_readName_73 : decode cX6_readName 73 = .ok (.putfield 105, 3) := by decide +kernel
theorem dX6_readName_76 : decode cX6_readName 76 = .ok (.aload_n 0, 1) := by decide +kernel
theorem dX6_readName_77 : decode cX6_readName 77 = .ok (.iload_n 1, 1) := by decide +kernel
theorem dX6_readName_78 : decode cX6_readName 78 = .ok (.invokevirtual 109, 3) := by decide +kernel
theorem dX6_readName_81 : decode cX6_readName 81 = .ok (.ifCond .eq 9, 3) := by decide +kernel
theorem dX6_readName_84 : decode cX6_readName 84 = .ok (.aload_n 0, 1) := by decide +kernel
theorem dX6_readName_85 : decode cX6_readName 85 = .ok (.iconst 3, 1) := by decide +kernel
theorem dX6_readName_86 : decode cX6_readName 86 = .ok (.invokevirtual 69, 3) := by decide +kernel
theorem dX6_readName_89 : decode cX6_readName 89 = .ok (.ireturn, 1) := by decide +kernel
theorem dX6_readName_90 : decode cX6_readName 90 = .ok (.aload_n 0, 1) := by decide +kernel
theorem dX6_readName_91 : decode cX6_readName 91 = .ok (.aload_n 0, 1) := by decide +kernel
theorem dX6_readName_92 : decode cX6_readName 92 = .ok (.getfield 62, 3) := by decide +kernel
theorem dX6_readName_95 : decode cX6_readName 95 = .ok (.putfield 112, 3) := by decide +kernel
theorem dX6_readName_98 : decode cX6_readName 98 = .ok (.aload_n 0, 1) := by decide +kernel
theorem dX6_readName_99 : decode cX6_readName 99 = .ok (.invokevirtual 46, 3) := by decide +kernel
theorem dX6_readName_102 : decode cX6_readName 102 = .ok (.iconst 1, 1) := by decide +kernel
theorem dX6_readName_103 : decode cX6_readName 103 = .ok (.ireturn, 1) := by decide +kernel
theorem dX6_isToldOfBird_0 : decode cX6_isToldOfBird 0 = .ok (.aload_n 0, 1) := by decide +kernel
theorem dX6_isToldOfBird_1 : decode cX6_isToldOfBird 1 = .ok (.getfield 105, 3) := by decide +kernel
theorem dX6_isToldOfBird_4 : decode cX6_isToldOfBird 4 = .ok (.ifnonnull 5, 3) := by decide +kernel
theorem dX6_isToldOfBird_7 : decode cX6_isToldOfBird 7 = .ok (.iconst 0, 1) := by decide +kernel
theorem dX6_isToldOfBird_8 : decode cX6_isToldOfBird 8 = .ok (.ireturn, 1) := by decide +kernel
theorem dX6_isToldOfBird_9 : decode cX6_isToldOfBird 9 = .ok (.iload_n 1, 1) := by decide +kernel
theorem dX6_isToldOfBird_10 : decode cX6_isToldOfBird 10 = .ok (.tableswitch 82 1 5 #[34, 42, 58, 82, 74], 34) := by decide +kernel
theorem dX6_isToldOfBird_44 : decode cX6_isToldOfBird 44 = .ok (.aload_n 0, 1) := by decide +kernel
theorem dX6_isToldOfBird_45 : decode cX6_isToldOfBird 45 = .ok (.getfield 105, 3) := by decide +kernel
theorem dX6_isToldOfBird_48 : decode cX6_isToldOfBird 48 = .ok (.invokevirtual 115, 3) := by decide +kernel
theorem dX6_isToldOfBird_51 : decode cX6_isToldOfBird 51 = .ok (.ireturn, 1) := by decide +kernel
theorem dX6_isToldOfBird_52 : decode cX6_isToldOfBird 52 = .ok (.aload_n 0, 1) := by decide +kernel
theorem dX6_isToldOfBird_53 : decode cX6_isToldOfBird 53 = .ok (.getfield 105, 3) := by decide +kernel
theorem dX6_isToldOfBird_56 : decode cX6_isToldOfBird 56 = .ok (.getfield 120, 3) := by decide +kernel
theorem dX6_isToldOfBird_59 : decode cX6_isToldOfBird 59 = .ok (.ifCond .le 7, 3) := by decide +kernel
theorem dX6_isToldOfBird_62 : decode cX6_isToldOfBird 62 = .ok (.iconst 1, 1) := by decide +kernel
theorem dX6_isToldOfBird_63 : decode cX6_isToldOfBird 63 = .ok (.goto 4, 3) := by decide +kernel
theorem dX6_isToldOfBird_66 : decode cX6_isToldOfBird 66 = .ok (.iconst 0, 1) := by decide +kernel
theorem dX6_isToldOfBird_67 : decode cX6_isToldOfBird 67 = .ok (.ireturn, 1) := by decide +kernel
theorem dX6_isToldOfBird_68 : decode cX6_isToldOfBird 68 = .ok (.aload_n 0, 1) := by decide +kernel
theorem dX6_isToldOfBird_69 : decode cX6_isToldOfBird 69 = .ok (.getfield 105, 3) := by decide +kernel
theorem dX6_isToldOfBird_72 : decode cX6_isToldOfBird 72 = .ok (.getfield 123, 3) := by decide +kernel
theorem dX6_isToldOfBird_75 : decode cX6_isToldOfBird 75 = .ok (.ifCond .le 7, 3) := by decide +kernel
theorem dX6_isToldOfBird_78 : decode cX6_isToldOfBird 78 = .ok (.iconst 1, 1) := by decide +kernel
theorem dX6_isToldOfBird_79 : decode cX6_isToldOfBird 79 = .ok (.goto 4, 3) := by decide +kernel
theorem dX6_isToldOfBird_82 : decode cX6_isToldOfBird 82 = .ok (.iconst 0, 1) := by decide +kernel
theorem dX6_isToldOfBird_83 : decode cX6_isToldOfBird 83 = .ok (.ireturn, 1) := by decide +kernel
theorem dX6_isToldOfBird_84 : decode cX6_isToldOfBird 84 = .ok (.aload_n 0, 1) := by decide +kernel
theorem dX6_isToldOfBird_85 : decode cX6_isToldOfBird 85 = .ok (.getfield 105, 3) := by decide +kernel
theorem dX6_isToldOfBird_88 : decode cX6_isToldOfBird 88 = .ok (.getfield 126, 3) := by decide +kernel
theorem dX6_isToldOfBird_91 : decode cX6_isToldOfBird 91 = .ok (.ireturn, 1) := by decide +kernel
theorem dX6_isToldOfBird_92 : decode cX6_isToldOfBird 92 = .ok (.iconst 0, 1) := by decide +kernel
theorem dX6_isToldOfBird_93 : decode cX6_isToldOfBird 93 = .ok (.ireturn, 1) := by decide +kernel
theorem dX6_readNumbers_0 : decode cX6_readNumbers 0 = .ok (.iconst 0, 1) := by decide +kernel
theorem dX6_readNumbers_1 : decode cX6_readNumbers 1 = .ok (.istore_n 2, 1) := by decide +kernel
theorem dX6_readNumbers_2 : decode cX6_readNumbers 2 = .ok (.iload_n 2, 1) := by decide +kernel
theorem dX6_readNumbers_3 : decode cX6_readNumbers 3 = .ok (.getstatic 130, 3) := by decide +kernel
theorem dX6_readNumbers_6 : decode cX6_readNumbers 6 = .ok (.iload_n 1, 1) := by decide +kernel
theorem dX6_readNumbers_7 : decode cX6_readNumbers 7 = .ok (.iaload, 1) := by decide +kernel
theorem dX6_readNumbers_8 : decode cX6_readNumbers 8 = .ok (.if_icmp .ge 75, 3) := by decide +kernel
theorem dX6_readNumbers_11 : decode cX6_readNumbers 11 = .ok (.aload_n 0, 1) := by decide +kernel
theorem dX6_readNumbers_12 : decode cX6_readNumbers 12 = .ok (.getfield 49, 3) := by decide +kernel
theorem dX6_readNumbers_15 : decode cX6_readNumbers 15 = .ok (.iconst 2, 1) := by decide +kernel
theorem dX6_readNumbers_16 : decode cX6_readNumbers 16 = .ok (.if_icmp .eq 9, 3) := by decide +kernel
theorem dX6_readNumbers_19 : decode cX6_readNumbers 19 = .ok (.aload_n 0, 1) := by decide +kernel
theorem dX6_readNumbers_20 : decode cX6_readNumbers 20 = .ok (.iconst 1, 1) := by decide +kernel
theorem dX6_readNumbers_21 : decode cX6_readNumbers 21 = .ok (.invokevirtual 69, 3) := by decide +kernel
theorem dX6_readNumbers_24 : decode cX6_readNumbers 24 = .ok (.ireturn, 1) := by decide +kernel
theorem dX6_readNumbers_25 : decode cX6_readNumbers 25 = .ok (.aload_n 0, 1) := by decide +kernel
theorem dX6_readNumbers_26 : decode cX6_readNumbers 26 = .ok (.getfield 62, 3) := by decide +kernel
theorem dX6_readNumbers_29 : decode cX6_readNumbers 29 = .ok (.getstatic 133, 3) := by decide +kernel
theorem dX6_readNumbers_32 : decode cX6_readNumbers 32 = .ok (.iconst 4, 1) := by decide +kernel
theorem dX6_readNumbers_33 : decode cX6_readNumbers 33 = .ok (.iload_n 1, 1) := by decide +kernel
theorem dX6_readNumbers_34 : decode cX6_readNumbers 34 = .ok (.imul, 1) := by decide +kernel
theorem dX6_readNumbers_35 : decode cX6_readNumbers 35 = .ok (.iload_n 2, 1) := by decide +kernel
theorem dX6_readNumbers_36 : decode cX6_readNumbers 36 = .ok (.iadd, 1) := by decide +kernel
theorem dX6_readNumbers_37 : decode cX6_readNumbers 37 = .ok (.iaload, 1) := by decide +kernel
theorem dX6_readNumbers_38 : decode cX6_readNumbers 38 = .ok (.if_icmp .lt 19, 3) := by decide +kernel
theorem dX6_readNumbers_41 : decode cX6_readNumbers 41 = .ok (.aload_n 0, 1) := by decide +kernel
theorem dX6_readNumbers_42 : decode cX6_readNumbers 42 = .ok (.getfield 62, 3) := by decide +kernel
theorem dX6_readNumbers_45 : decode cX6_readNumbers 45 = .ok (.getstatic 136, 3) := by decide +kernel
theorem dX6_readNumbers_48 : decode cX6_readNumbers 48 = .ok (.iconst 4, 1) := by decide +kernel
theorem dX6_readNumbers_49 : decode cX6_readNumbers 49 = .ok (.iload_n 1, 1) := by decide +kernel
theorem dX6_readNumbers_50 : decode cX6_readNumbers 50 = .ok (.imul, 1) := by decide +kernel
theorem dX6_readNumbers_51 : decode cX6_readNumbers 51 = .ok (.iload_n 2, 1) := by decide +kernel
theorem dX6_readNumbers_52 : decode cX6_readNumbers 52 = .ok (.iadd, 1) := by decide +kernel
theorem dX6_readNumbers_53 : decode cX6_readNumbers 53 = .ok (.iaload, 1) := by decide +kernel
theorem dX6_readNumbers_54 : decode cX6_readNumbers 54 = .ok (.if_icmp .le 9, 3) := by decide +kernel
theorem dX6_readNumbers_57 : decode cX6_readNumbers 57 = .ok (.aload_n 0, 1) := by decide +kernel
theorem dX6_readNumbers_58 : decode cX6_readNumbers 58 = .ok (.iconst 2, 1) := by decide +kernel
theorem dX6_readNumbers_59 : decode cX6_readNumbers 59 = .ok (.invokevirtual 69, 3) := by decide +kernel
theorem dX6_readNumbers_62 : decode cX6_readNumbers 62 = .ok (.ireturn, 1) := by decide +kernel
theorem dX6_readNumbers_63 : decode cX6_readNumbers 63 = .ok (.aload_n 0, 1) := by decide +kernel
theorem dX6_readNumbers_64 : decode cX6_readNumbers 64 = .ok (.getfield 19, 3) := by decide +kernel
theorem dX6_readNumbers_67 : decode cX6_readNumbers 67 = .ok (.iload_n 2, 1) := by decide +kernel
theorem dX6_readNumbers_68 : decode cX6_readNumbers 68 = .ok (.aload_n 0, 1) := by decide +kernel
theorem dX6_readNumbers_69 : decode cX6_readNumbers 69 = .ok (.getfield 62, 3) := by decide +kernel
theorem dX6_readNumbers_72 : decode cX6_readNumbers 72 = .ok (.iastore, 1) := by decide +kernel
theorem dX6_readNumbers_73 : decode cX6_readNumbers 73 = .ok (.aload_n 0, 1) := by decide +kernel
theorem dX6_readNumbers_74 : decode cX6_readNumbers 74 = .ok (.invokevirtual 46, 3) := by decide +kernel
theorem dX6_readNumbers_77 : decode cX6_readNumbers 77 = .ok (.iinc 2 1, 3) := by decide +kernel
theorem dX6_readNumbers_80 : decode cX6_readNumbers 80 = .ok (.goto (-78), 3) := by decide +kernel
theorem dX6_readNumbers_83 : decode cX6_readNumbers 83 = .ok (.iconst 1, 1) := by decide +kernel
theorem dX6_readNumbers_84 : decode cX6_readNumbers 84 = .ok (.ireturn, 1) := by decide +kernel
theorem dX6_take_0 : decode cX6_take 0 = .ok (.iload_n 1, 1) := by decide +kernel
theorem dX6_take_1 : decode cX6_take 1 = .ok (.invokestatic 76, 3) := by decide +kernel
theorem dX6_take_4 : decode cX6_take 4 = .ok (.ifCond .eq 18, 3) := by decide +kernel
theorem dX6_take_7 : decode cX6_take 7 = .ok (.aload_n 0, 1) := by decide +kernel
theorem dX6_take_8 : decode cX6_take 8 = .ok (.getfield 34, 3) := by decide +kernel
theorem dX6_take_11 : decode cX6_take 11 = .ok (.dup, 1) := by decide +kernel
theorem dX6_take_12 : decode cX6_take 12 = .ok (.getfield 79, 3) := by decide +kernel
theorem dX6_take_15 : decode cX6_take 15 = .ok (.iconst 1, 1) := by decide +kernel
theorem dX6_take_16 : decode cX6_take 16 = .ok (.iload_n 1, 1) := by decide +kernel
theorem dX6_take_17 : decode cX6_take 17 = .ok (.ishl, 1) := by decide +kernel
theorem dX6_take_18 : decode cX6_take 18 = .ok (.ior, 1) := by decide +kernel
theorem dX6_take_19 : decode cX6_take 19 = .ok (.putfield 79, 3) := by decide +kernel
theorem dX6_take_22 : decode cX6_take 22 = .ok (.iload_n 1, 1) := by decide +kernel
theorem dX6_take_23 : decode cX6_take 23 = .ok (.tableswitch 168 0 11 #[61, 168, 168, 168, 168, 168, 81, 88, 104, 120, 136, 152], 61) := by decide +kernel
theorem dX6_take_84 : decode cX6_take 84 = .ok (.aload_n 0, 1) := by decide +kernel
theorem dX6_take_85 : decode cX6_take 85 = .ok (.getfield 34, 3) := by decide +kernel
theorem dX6_take_88 : decode cX6_take 88 = .ok (.aload_n 0, 1) := by decide +kernel
theorem dX6_take_89 : decode cX6_take 89 = .ok (.getfield 112, 3) := by decide +kernel
theorem dX6_take_92 : decode cX6_take 92 = .ok (.aload_n 0, 1) := by decide +kernel
theorem dX6_take_93 : decode cX6_take 93 = .ok (.getfield 19, 3) := by decide +kernel
theorem dX6_take_96 : decode cX6_take 96 = .ok (.iconst 0, 1) := by decide +kernel
theorem dX6_take_97 : decode cX6_take 97 = .ok (.iaload, 1) := by decide +kernel
theorem dX6_take_98 : decode cX6_take 98 = .ok (.invokevirtual 139, 3) := by decide +kernel
theorem dX6_take_101 : decode cX6_take 101 = .ok (.goto 95, 3) := by decide +kernel
theorem dX6_take_104 : decode cX6_take 104 = .ok (.aload_n 0, 1) := by decide +kernel
theorem dX6_take_105 : decode cX6_take 105 = .ok (.invokevirtual 143, 3) := by decide +kernel
theorem dX6_take_108 : decode cX6_take 108 = .ok (.goto 88, 3) := by decide +kernel
theorem dX6_take_111 : decode cX6_take 111 = .ok (.aload_n 0, 1) := by decide +kernel
theorem dX6_take_112 : decode cX6_take 112 = .ok (.getfield 34, 3) := by decide +kernel
theorem dX6_take_115 : decode cX6_take 115 = .ok (.aload_n 0, 1) := by decide +kernel
theorem dX6_take_116 : decode cX6_take 116 = .ok (.getfield 19, 3) := by decide +kernel
theorem dX6_take_119 : decode cX6_take 119 = .ok (.iconst 0, 1) := by decide +kernel
theorem dX6_take_120 : decode cX6_take 120 = .ok (.iaload, 1) := by decide +kernel
theorem dX6_take_121 : decode cX6_take 121 = .ok (.putfield 146, 3) := by decide +kernel
theorem dX6_take_124 : decode cX6_take 124 = .ok (.goto 72, 3) := by decide +kernel
theorem dX6_take_127 : decode cX6_take 127 = .ok (.aload_n 0, 1) := by decide +kernel
theorem dX6_take_128 : decode cX6_take 128 = .ok (.getfield 34, 3) := by decide +kernel
theorem dX6_take_131 : decode cX6_take 131 = .ok (.aload_n 0, 1) := by decide +kernel
theorem dX6_take_132 : decode cX6_take 132 = .ok (.getfield 19, 3) := by decide +kernel
theorem dX6_take_135 : decode cX6_take 135 = .ok (.iconst 0, 1) := by decide +kernel
theorem dX6_take_136 : decode cX6_take 136 = .ok (.iaload, 1) := by decide +kernel
theorem dX6_take_137 : decode cX6_take 137 = .ok (.putfield 149, 3) := by decide +kernel
theorem dX6_take_140 : decode cX6_take 140 = .ok (.goto 56, 3) := by decide +kernel
theorem dX6_take_143 : decode cX6_take 143 = .ok (.aload_n 0, 1) := by decide +kernel
theorem dX6_take_144 : decode cX6_take 144 = .ok (.getfield 34, 3) := by decide +kernel
theorem dX6_take_147 : decode cX6_take 147 = .ok (.aload_n 0, 1) := by decide +kernel
theorem dX6_take_148 : decode cX6_take 148 = .ok (.getfield 19, 3) := by decide +kernel
theorem dX6_take_151 : decode cX6_take 151 = .ok (.iconst 0, 1) := by decide +kernel
theorem dX6_take_152 : decode cX6_take 152 = .ok (.iaload, 1) := by decide +kernel
theorem dX6_take_153 : decode cX6_take 153 = .ok (.putfield 152, 3) := by decide +kernel
theorem dX6_take_156 : decode cX6_take 156 = .ok (.goto 40, 3) := by decide +kernel
theorem dX6_take_159 : decode cX6_take 159 = .ok (.aload_n 0, 1) := by decide +kernel
theorem dX6_take_160 : decode cX6_take 160 = .ok (.getfield 34, 3) := by decide +kernel
theorem dX6_take_163 : decode cX6_take 163 = .ok (.aload_n 0, 1) := by decide +kernel
theorem dX6_take_164 : decode cX6_take 164 = .ok (.getfield 19, 3) := by decide +kernel
theorem dX6_take_167 : decode cX6_take 167 = .ok (.iconst 0, 1) := by decide +kernel
theorem dX6_take_168 : decode cX6_take 168 = .ok (.iaload, 1) := by decide +kernel
theorem dX6_take_169 : decode cX6_take 169 = .ok (.putfield 155, 3) := by decide +kernel
theorem dX6_take_172 : decode cX6_take 172 = .ok (.goto 24, 3) := by decide +kernel
theorem dX6_take_175 : decode cX6_take 175 = .ok (.aload_n 0, 1) := by decide +kernel
theorem dX6_take_176 : decode cX6_take 176 = .ok (.getfield 34, 3) := by decide +kernel
theorem dX6_take_179 : decode cX6_take 179 = .ok (.aload_n 0, 1) := by decide +kernel
theorem dX6_take_180 : decode cX6_take 180 = .ok (.getfield 19, 3) := by decide +kernel
theorem dX6_take_183 : decode cX6_take 183 = .ok (.iconst 0, 1) := by decide +kernel
theorem dX6_take_184 : decode cX6_take 184 = .ok (.iaload, 1) := by decide +kernel
theorem dX6_take_185 : decode cX6_take 185 = .ok (.putfield 158, 3) := by decide +kernel
theorem dX6_take_188 : decode cX6_take 188 = .ok (.goto 8, 3) := by decide +kernel
theorem dX6_take_191 : decode cX6_take 191 = .ok (.aload_n 0, 1) := by decide +kernel
theorem dX6_take_192 : decode cX6_take 192 = .ok (.iload_n 1, 1) := by decide +kernel
theorem dX6_take_193 : decode cX6_take 193 = .ok (.invokevirtual 161, 3) := by decide +kernel
theorem dX6_take_196 : decode cX6_take 196 = .ok (.return_, 1) := by decide +kernel
theorem dX6_takeHome_0 : decode cX6_takeHome 0 = .ok (.aload_n 0, 1) := by decide +kernel
theorem dX6_takeHome_1 : decode cX6_takeHome 1 = .ok (.getfield 34, 3) := by decide +kernel
theorem dX6_takeHome_4 : decode cX6_takeHome 4 = .ok (.iconst 1, 1) := by decide +kernel
theorem dX6_takeHome_5 : decode cX6_takeHome 5 = .ok (.putfield 164, 3) := by decide +kernel
theorem dX6_takeHome_8 : decode cX6_takeHome 8 = .ok (.aload_n 0, 1) := by decide +kernel
theorem dX6_takeHome_9 : decode cX6_takeHome 9 = .ok (.getfield 34, 3) := by decide +kernel
theorem dX6_takeHome_12 : decode cX6_takeHome 12 = .ok (.aload_n 0, 1) := by decide +kernel
theorem dX6_takeHome_13 : decode cX6_takeHome 13 = .ok (.getfield 19, 3) := by decide +kernel
theorem dX6_takeHome_16 : decode cX6_takeHome 16 = .ok (.iconst 0, 1) := by decide +kernel
theorem dX6_takeHome_17 : decode cX6_takeHome 17 = .ok (.iaload, 1) := by decide +kernel
theorem dX6_takeHome_18 : decode cX6_takeHome 18 = .ok (.putfield 167, 3) := by decide +kernel
theorem dX6_takeHome_21 : decode cX6_takeHome 21 = .ok (.aload_n 0, 1) := by decide +kernel
theorem dX6_takeHome_22 : decode cX6_takeHome 22 = .ok (.getfield 34, 3) := by decide +kernel
theorem dX6_takeHome_25 : decode cX6_takeHome 25 = .ok (.aload_n 0, 1) := by decide +kernel
theorem dX6_takeHome_26 : decode cX6_takeHome 26 = .ok (.getfield 19, 3) := by decide +kernel
theorem dX6_takeHome_29 : decode cX6_takeHome 29 = .ok (.iconst 1, 1) := by decide +kernel
theorem dX6_takeHome_30 : decode cX6_takeHome 30 = .ok (.iaload, 1) := by decide +kernel
theorem dX6_takeHome_31 : decode cX6_takeHome 31 = .ok (.putfield 170, 3) := by decide +kernel
theorem dX6_takeHome_34 : decode cX6_takeHome 34 = .ok (.aload_n 0, 1) := by decide +kernel
theorem dX6_takeHome_35 : decode cX6_takeHome 35 = .ok (.getfield 34, 3) := by decide +kernel
theorem dX6_takeHome_38 : decode cX6_takeHome 38 = .ok (.aload_n 0, 1) := by decide +kernel
theorem dX6_takeHome_39 : decode cX6_takeHome 39 = .ok (.getfield 19, 3) := by decide +kernel
theorem dX6_takeHome_42 : decode cX6_takeHome 42 = .ok (.iconst 2, 1) := by decide +kernel
theorem dX6_takeHome_43 : decode cX6_takeHome 43 = .ok (.iaload, 1) := by decide +kernel
theorem dX6_takeHome_44 : decode cX6_takeHome 44 = .ok (.putfield 173, 3) := by decide +kernel
theorem dX6_takeHome_47 : decode cX6_takeHome 47 = .ok (.aload_n 0, 1) := by decide +kernel
theorem dX6_takeHome_48 : decode cX6_takeHome 48 = .ok (.getfield 34, 3) := by decide +kernel
theorem dX6_takeHome_51 : decode cX6_takeHome 51 = .ok (.aload_n 0, 1) := by decide +kernel
theorem dX6_takeHome_52 : decode cX6_takeHome 52 = .ok (.getfield 19, 3) := by decide +kernel
theorem dX6_takeHome_55 : decode cX6_takeHome 55 = .ok (.iconst 3, 1) := by decide +kernel
theorem dX6_takeHome_56 : decode cX6_takeHome 56 = .ok (.iaload, 1) := by decide +kernel
theorem dX6_takeHome_57 : decode cX6_takeHome 57 = .ok (.putfield 176, 3) := by decide +kernel
theorem dX6_takeHome_60 : decode cX6_takeHome 60 = .ok (.return_, 1) := by decide +kernel
theorem dX6_takeOfBird_0 : decode cX6_takeOfBird 0 = .ok (.aload_n 0, 1) := by decide +kernel
theorem dX6_takeOfBird_1 : decode cX6_takeOfBird 1 = .ok (.getfield 105, 3) := by decide +kernel
theorem dX6_takeOfBird_4 : decode cX6_takeOfBird 4 = .ok (.ifnonnull 4, 3) := by decide +kernel
theorem dX6_takeOfBird_7 : decode cX6_takeOfBird 7 = .ok (.return_, 1) := by decide +kernel
theorem dX6_takeOfBird_8 : decode cX6_takeOfBird 8 = .ok (.iload_n 1, 1) := by decide +kernel
theorem dX6_takeOfBird_9 : decode cX6_takeOfBird 9 = .ok (.tableswitch 156 1 4 #[31, 86, 102, 118], 31) := by decide +kernel
theorem dX6_takeOfBird_40 : decode cX6_takeOfBird 40 = .ok (.aload_n 0, 1) := by decide +kernel
theorem dX6_takeOfBird_41 : decode cX6_takeOfBird 41 = .ok (.getfield 105, 3) := by decide +kernel
theorem dX6_takeOfBird_44 : decode cX6_takeOfBird 44 = .ok (.aload_n 0, 1) := by decide +kernel
theorem dX6_takeOfBird_45 : decode cX6_takeOfBird 45 = .ok (.getfield 19, 3) := by decide +kernel
theorem dX6_takeOfBird_48 : decode cX6_takeOfBird 48 = .ok (.iconst 0, 1) := by decide +kernel
theorem dX6_takeOfBird_49 : decode cX6_takeOfBird 49 = .ok (.iaload, 1) := by decide +kernel
theorem dX6_takeOfBird_50 : decode cX6_takeOfBird 50 = .ok (.putfield 179, 3) := by decide +kernel
theorem dX6_takeOfBird_53 : decode cX6_takeOfBird 53 = .ok (.aload_n 0, 1) := by decide +kernel
theorem dX6_takeOfBird_54 : decode cX6_takeOfBird 54 = .ok (.getfield 105, 3) := by decide +kernel
theorem dX6_takeOfBird_57 : decode cX6_takeOfBird 57 = .ok (.aload_n 0, 1) := by decide +kernel
theorem dX6_takeOfBird_58 : decode cX6_takeOfBird 58 = .ok (.getfield 19, 3) := by decide +kernel
theorem dX6_takeOfBird_61 : decode cX6_takeOfBird 61 = .ok (.iconst 1, 1) := by decide +kernel
theorem dX6_takeOfBird_62 : decode cX6_takeOfBird 62 = .ok (.iaload, 1) := by decide +kernel
theorem dX6_takeOfBird_63 : decode cX6_takeOfBird 63 = .ok (.putfield 182, 3) := by decide +kernel
theorem dX6_takeOfBird_66 : decode cX6_takeOfBird 66 = .ok (.aload_n 0, 1) := by decide +kernel
theorem dX6_takeOfBird_67 : decode cX6_takeOfBird 67 = .ok (.getfield 105, 3) := by decide +kernel
theorem dX6_takeOfBird_70 : decode cX6_takeOfBird 70 = .ok (.aload_n 0, 1) := by decide +kernel
theorem dX6_takeOfBird_71 : decode cX6_takeOfBird 71 = .ok (.getfield 19, 3) := by decide +kernel
theorem dX6_takeOfBird_74 : decode cX6_takeOfBird 74 = .ok (.iconst 2, 1) := by decide +kernel
theorem dX6_takeOfBird_75 : decode cX6_takeOfBird 75 = .ok (.iaload, 1) := by decide +kernel
theorem dX6_takeOfBird_76 : decode cX6_takeOfBird 76 = .ok (.putfield 185, 3) := by decide +kernel
theorem dX6_takeOfBird_79 : decode cX6_takeOfBird 79 = .ok (.aload_n 0, 1) := by decide +kernel
theorem dX6_takeOfBird_80 : decode cX6_takeOfBird 80 = .ok (.getfield 105, 3) := by decide +kernel
theorem dX6_takeOfBird_83 : decode cX6_takeOfBird 83 = .ok (.aload_n 0, 1) := by decide +kernel
theorem dX6_takeOfBird_84 : decode cX6_takeOfBird 84 = .ok (.getfield 19, 3) := by decide +kernel
theorem dX6_takeOfBird_87 : decode cX6_takeOfBird 87 = .ok (.iconst 3, 1) := by decide +kernel
theorem dX6_takeOfBird_88 : decode cX6_takeOfBird 88 = .ok (.iaload, 1) := by decide +kernel
theorem dX6_takeOfBird_89 : decode cX6_takeOfBird 89 = .ok (.putfield 188, 3) := by decide +kernel
theorem dX6_takeOfBird_92 : decode cX6_takeOfBird 92 = .ok (.goto 120, 3) := by decide +kernel
theorem dX6_takeOfBird_95 : decode cX6_takeOfBird 95 = .ok (.aload_n 0, 1) := by decide +kernel
theorem dX6_takeOfBird_96 : decode cX6_takeOfBird 96 = .ok (.getfield 105, 3) := by decide +kernel
theorem dX6_takeOfBird_99 : decode cX6_takeOfBird 99 = .ok (.aload_n 0, 1) := by decide +kernel
theorem dX6_takeOfBird_100 : decode cX6_takeOfBird 100 = .ok (.getfield 19, 3) := by decide +kernel
theorem dX6_takeOfBird_103 : decode cX6_takeOfBird 103 = .ok (.iconst 0, 1) := by decide +kernel
theorem dX6_takeOfBird_104 : decode cX6_takeOfBird 104 = .ok (.iaload, 1) := by decide +kernel
theorem dX6_takeOfBird_105 : decode cX6_takeOfBird 105 = .ok (.putfield 120, 3) := by decide +kernel
theorem dX6_takeOfBird_108 : decode cX6_takeOfBird 108 = .ok (.goto 104, 3) := by decide +kernel
theorem dX6_takeOfBird_111 : decode cX6_takeOfBird 111 = .ok (.aload_n 0, 1) := by decide +kernel
theorem dX6_takeOfBird_112 : decode cX6_takeOfBird 112 = .ok (.getfield 105, 3) := by decide +kernel
theorem dX6_takeOfBird_115 : decode cX6_takeOfBird 115 = .ok (.aload_n 0, 1) := by decide +kernel
theorem dX6_takeOfBird_116 : decode cX6_takeOfBird 116 = .ok (.getfield 19, 3) := by decide +kernel
theorem dX6_takeOfBird_119 : decode cX6_takeOfBird 119 = .ok (.iconst 0, 1) := by decide +kernel
theorem dX6_takeOfBird_120 : decode cX6_takeOfBird 120 = .ok (.iaload, 1) := by decide +kernel
theorem dX6_takeOfBird_121 : decode cX6_takeOfBird 121 = .ok (.putfield 123, 3) := by decide +kernel
theorem dX6_takeOfBird_124 : decode cX6_takeOfBird 124 = .ok (.goto 88, 3) := by decide +kernel
theorem dX6_takeOfBird_127 : decode cX6_takeOfBird 127 = .ok (.aload_n 0, 1) := by decide +kernel
theorem dX6_takeOfBird_128 : decode cX6_takeOfBird 128 = .ok (.getfield 105, 3) := by decide +kernel
theorem dX6_takeOfBird_131 : decode cX6_takeOfBird 131 = .ok (.aload_n 0, 1) := by decide +kernel
theorem dX6_takeOfBird_132 : decode cX6_takeOfBird 132 = .ok (.getfield 19, 3) := by decide +kernel
theorem dX6_takeOfBird_135 : decode cX6_takeOfBird 135 = .ok (.iconst 0, 1) := by decide +kernel
theorem dX6_takeOfBird_136 : decode cX6_takeOfBird 136 = .ok (.iaload, 1) := by decide +kernel
theorem dX6_takeOfBird_137 : decode cX6_takeOfBird 137 = .ok (.aload_n 0, 1) := by decide +kernel
theorem dX6_takeOfBird_138 : decode cX6_takeOfBird 138 = .ok (.getfield 19, 3) := by decide +kernel
theorem dX6_takeOfBird_141 : decode cX6_takeOfBird 141 = .ok (.iconst 1, 1) := by decide +kernel
theorem dX6_takeOfBird_142 : decode cX6_takeOfBird 142 = .ok (.iaload, 1) := by decide +kernel
theorem dX6_takeOfBird_143 : decode cX6_takeOfBird 143 = .ok (.invokestatic 191, 3) := by decide +kernel
theorem dX6_takeOfBird_146 : decode cX6_takeOfBird 146 = .ok (.invokevirtual 194, 3) := by decide +kernel
theorem dX6_takeOfBird_149 : decode cX6_takeOfBird 149 = .ok (.aload_n 0, 1) := by decide +kernel
theorem dX6_takeOfBird_150 : decode cX6_takeOfBird 150 = .ok (.getfield 34, 3) := by decide +kernel
theorem dX6_takeOfBird_153 : decode cX6_takeOfBird 153 = .ok (.dup, 1) := by decide +kernel
theorem dX6_takeOfBird_154 : decode cX6_takeOfBird 154 = .ok (.getfield 95, 3) := by decide +kernel
theorem dX6_takeOfBird_157 : decode cX6_takeOfBird 157 = .ok (.iconst 1, 1) := by decide +kernel
theorem dX6_takeOfBird_158 : decode cX6_takeOfBird 158 = .ok (.iadd, 1) := by decide +kernel
theorem dX6_takeOfBird_159 : decode cX6_takeOfBird 159 = .ok (.putfield 95, 3) := by decide +kernel
theorem dX6_takeOfBird_162 : decode cX6_takeOfBird 162 = .ok (.goto 50, 3) := by decide +kernel
theorem dX6_takeOfBird_165 : decode cX6_takeOfBird 165 = .ok (.aload_n 0, 1) := by decide +kernel
theorem dX6_takeOfBird_166 : decode cX6_takeOfBird 166 = .ok (.getfield 105, 3) := by decide +kernel
theorem dX6_takeOfBird_169 : decode cX6_takeOfBird 169 = .ok (.iconst 1, 1) := by decide +kernel
theorem dX6_takeOfBird_170 : decode cX6_takeOfBird 170 = .ok (.putfield 126, 3) := by decide +kernel
theorem dX6_takeOfBird_173 : decode cX6_takeOfBird 173 = .ok (.aload_n 0, 1) := by decide +kernel
theorem dX6_takeOfBird_174 : decode cX6_takeOfBird 174 = .ok (.getfield 105, 3) := by decide +kernel
theorem dX6_takeOfBird_177 : decode cX6_takeOfBird 177 = .ok (.aload_n 0, 1) := by decide +kernel
theorem dX6_takeOfBird_178 : decode cX6_takeOfBird 178 = .ok (.getfield 19, 3) := by decide +kernel
theorem dX6_takeOfBird_181 : decode cX6_takeOfBird 181 = .ok (.iconst 0, 1) := by decide +kernel
theorem dX6_takeOfBird_182 : decode cX6_takeOfBird 182 = .ok (.iaload, 1) := by decide +kernel
theorem dX6_takeOfBird_183 : decode cX6_takeOfBird 183 = .ok (.putfield 197, 3) := by decide +kernel
theorem dX6_takeOfBird_186 : decode cX6_takeOfBird 186 = .ok (.aload_n 0, 1) := by decide +kernel
theorem dX6_takeOfBird_187 : decode cX6_takeOfBird 187 = .ok (.getfield 105, 3) := by decide +kernel
theorem dX6_takeOfBird_190 : decode cX6_takeOfBird 190 = .ok (.aload_n 0, 1) := by decide +kernel
theorem dX6_takeOfBird_191 : decode cX6_takeOfBird 191 = .ok (.getfield 19, 3) := by decide +kernel
theorem dX6_takeOfBird_194 : decode cX6_takeOfBird 194 = .ok (.iconst 1, 1) := by decide +kernel
theorem dX6_takeOfBird_195 : decode cX6_takeOfBird 195 = .ok (.iaload, 1) := by decide +kernel
theorem dX6_takeOfBird_196 : decode cX6_takeOfBird 196 = .ok (.putfield 200, 3) := by decide +kernel
theorem dX6_takeOfBird_199 : decode cX6_takeOfBird 199 = .ok (.aload_n 0, 1) := by decide +kernel
theorem dX6_takeOfBird_200 : decode cX6_takeOfBird 200 = .ok (.getfield 105, 3) := by decide +kernel
theorem dX6_takeOfBird_203 : decode cX6_takeOfBird 203 = .ok (.aload_n 0, 1) := by decide +kernel
theorem dX6_takeOfBird_204 : decode cX6_takeOfBird 204 = .ok (.getfield 19, 3) := by decide +kernel
theorem dX6_takeOfBird_207 : decode cX6_takeOfBird 207 = .ok (.iconst 2, 1) := by decide +kernel
theorem dX6_takeOfBird_208 : decode cX6_takeOfBird 208 = .ok (.iaload, 1) := by decide +kernel
theorem dX6_takeOfBird_209 : decode cX6_takeOfBird 209 = .ok (.putfield 203, 3) := by decide +kernel
theorem dX6_takeOfBird_212 : decode cX6_takeOfBird 212 = .ok (.return_, 1) := by decide +kernel
theorem dX6_wordNumber_0 : decode cX6_wordNumber 0 = .ok (.iconst 0, 1) := by decide +kernel
theorem dX6_wordNumber_1 : decode cX6_wordNumber 1 = .ok (.istore_n 1, 1) := by decide +kernel
theorem dX6_wordNumber_2 : decode cX6_wordNumber 2 = .ok (.iload_n 1, 1) := by decide +kernel
theorem dX6_wordNumber_3 : decode cX6_wordNumber 3 = .ok (.getstatic 206, 3) := by decide +kernel
theorem dX6_wordNumber_6 : decode cX6_wordNumber 6 = .ok (.arraylength, 1) := by decide +kernel
theorem dX6_wordNumber_7 : decode cX6_wordNumber 7 = .ok (.if_icmp .ge 20, 3) := by decide +kernel
theorem dX6_wordNumber_10 : decode cX6_wordNumber 10 = .ok (.getstatic 206, 3) := by decide +kernel
theorem dX6_wordNumber_13 : decode cX6_wordNumber 13 = .ok (.iload_n 1, 1) := by decide +kernel
theorem dX6_wordNumber_14 : decode cX6_wordNumber 14 = .ok (.iaload, 1) := by decide +kernel
theorem dX6_wordNumber_15 : decode cX6_wordNumber 15 = .ok (.iload_n 0, 1) := by decide +kernel
theorem dX6_wordNumber_16 : decode cX6_wordNumber 16 = .ok (.if_icmp .ne 5, 3) := by decide +kernel
theorem dX6_wordNumber_19 : decode cX6_wordNumber 19 = .ok (.iload_n 1, 1) := by decide +kernel
theorem dX6_wordNumber_20 : decode cX6_wordNumber 20 = .ok (.ireturn, 1) := by decide +kernel
theorem dX6_wordNumber_21 : decode cX6_wordNumber 21 = .ok (.iinc 1 1, 3) := by decide +kernel
theorem dX6_wordNumber_24 : decode cX6_wordNumber 24 = .ok (.goto (-22), 3) := by decide +kernel
theorem dX6_wordNumber_27 : decode cX6_wordNumber 27 = .ok (.iconst (-1), 1) := by decide +kernel
theorem dX6_wordNumber_28 : decode cX6_wordNumber 28 = .ok (.ireturn, 1) := by decide +kernel
theorem dX6_here_0 : decode cX6_here 0 = .ok (.aload_n 0, 1) := by decide +kernel
theorem dX6_here_1 : decode cX6_here 1 = .ok (.getfield 31, 3) := by decide +kernel
theorem dX6_here_4 : decode cX6_here 4 = .ok (.ifCond .lt 38, 3) := by decide +kernel
theorem dX6_here_7 : decode cX6_here 7 = .ok (.aload_n 0, 1) := by decide +kernel
theorem dX6_here_8 : decode cX6_here 8 = .ok (.getfield 31, 3) := by decide +kernel
theorem dX6_here_11 : decode cX6_here 11 = .ok (.aload_n 0, 1) := by decide +kernel
theorem dX6_here_12 : decode cX6_here 12 = .ok (.getfield 28, 3) := by decide +kernel
theorem dX6_here_15 : decode cX6_here 15 = .ok (.if_icmp .ge 27, 3) := by decide +kernel
theorem dX6_here_18 : decode cX6_here 18 = .ok (.aload_n 0, 1) := by decide +kernel
theorem dX6_here_19 : decode cX6_here 19 = .ok (.getfield 31, 3) := by decide +kernel
theorem dX6_here_22 : decode cX6_here 22 = .ok (.aload_n 0, 1) := by decide +kernel
theorem dX6_here_23 : decode cX6_here 23 = .ok (.getfield 15, 3) := by decide +kernel
theorem dX6_here_26 : decode cX6_here 26 = .ok (.arraylength, 1) := by decide +kernel
theorem dX6_here_27 : decode cX6_here 27 = .ok (.if_icmp .ge 15, 3) := by decide +kernel
theorem dX6_here_30 : decode cX6_here 30 = .ok (.aload_n 0, 1) := by decide +kernel
theorem dX6_here_31 : decode cX6_here 31 = .ok (.getfield 15, 3) := by decide +kernel
theorem dX6_here_34 : decode cX6_here 34 = .ok (.aload_n 0, 1) := by decide +kernel
theorem dX6_here_35 : decode cX6_here 35 = .ok (.getfield 31, 3) := by decide +kernel
theorem dX6_here_38 : decode cX6_here 38 = .ok (.iaload, 1) := by decide +kernel
theorem dX6_here_39 : decode cX6_here 39 = .ok (.goto 4, 3) := by decide +kernel
theorem dX6_here_42 : decode cX6_here 42 = .ok (.iconst (-1), 1) := by decide +kernel
theorem dX6_here_43 : decode cX6_here 43 = .ok (.ireturn, 1) := by decide +kernel
theorem dX6_advance_0 : decode cX6_advance 0 = .ok (.aload_n 0, 1) := by decide +kernel
theorem dX6_advance_1 : decode cX6_advance 1 = .ok (.getfield 31, 3) := by decide +kernel
theorem dX6_advance_4 : decode cX6_advance 4 = .ok (.aload_n 0, 1) := by decide +kernel
theorem dX6_advance_5 : decode cX6_advance 5 = .ok (.getfield 28, 3) := by decide +kernel
theorem dX6_advance_8 : decode cX6_advance 8 = .ok (.if_icmp .ge 34, 3) := by decide +kernel
theorem dX6_advance_11 : decode cX6_advance 11 = .ok (.aload_n 0, 1) := by decide +kernel
theorem dX6_advance_12 : decode cX6_advance 12 = .ok (.invokevirtual 209, 3) := by decide +kernel
theorem dX6_advance_15 : decode cX6_advance 15 = .ok (.bipush 32, 2) := by decide +kernel
theorem dX6_advance_17 : decode cX6_advance 17 = .ok (.if_icmp .eq 12, 3) := by decide +kernel
theorem dX6_advance_20 : decode cX6_advance 20 = .ok (.aload_n 0, 1) := by decide +kernel
theorem dX6_advance_21 : decode cX6_advance 21 = .ok (.invokevirtual 209, 3) := by decide +kernel
theorem dX6_advance_24 : decode cX6_advance 24 = .ok (.bipush 10, 2) := by decide +kernel
theorem dX6_advance_26 : decode cX6_advance 26 = .ok (.if_icmp .ne 16, 3) := by decide +kernel
theorem dX6_advance_29 : decode cX6_advance 29 = .ok (.aload_n 0, 1) := by decide +kernel
theorem dX6_advance_30 : decode cX6_advance 30 = .ok (.dup, 1) := by decide +kernel
theorem dX6_advance_31 : decode cX6_advance 31 = .ok (.getfield 31, 3) := by decide +kernel
theorem dX6_advance_34 : decode cX6_advance 34 = .ok (.iconst 1, 1) := by decide +kernel
theorem dX6_advance_35 : decode cX6_advance 35 = .ok (.iadd, 1) := by decide +kernel
theorem dX6_advance_36 : decode cX6_advance 36 = .ok (.putfield 31, 3) := by decide +kernel
theorem dX6_advance_39 : decode cX6_advance 39 = .ok (.goto (-39), 3) := by decide +kernel
theorem dX6_advance_42 : decode cX6_advance 42 = .ok (.aload_n 0, 1) := by decide +kernel
theorem dX6_advance_43 : decode cX6_advance 43 = .ok (.aload_n 0, 1) := by decide +kernel
theorem dX6_advance_44 : decode cX6_advance 44 = .ok (.getfield 31, 3) := by decide +kernel
theorem dX6_advance_47 : decode cX6_advance 47 = .ok (.putfield 59, 3) := by decide +kernel
theorem dX6_advance_50 : decode cX6_advance 50 = .ok (.aload_n 0, 1) := by decide +kernel
theorem dX6_advance_51 : decode cX6_advance 51 = .ok (.invokevirtual 209, 3) := by decide +kernel
theorem dX6_advance_54 : decode cX6_advance 54 = .ok (.istore_n 1, 1) := by decide +kernel
theorem dX6_advance_55 : decode cX6_advance 55 = .ok (.iload_n 1, 1) := by decide +kernel
theorem dX6_advance_56 : decode cX6_advance 56 = .ok (.iconst (-1), 1) := by decide +kernel
theorem dX6_advance_57 : decode cX6_advance 57 = .ok (.if_icmp .ne 11, 3) := by decide +kernel
theorem dX6_advance_60 : decode cX6_advance 60 = .ok (.aload_n 0, 1) := by decide +kernel
theorem dX6_advance_61 : decode cX6_advance 61 = .ok (.iconst 0, 1) := by decide +kernel
theorem dX6_advance_62 : decode cX6_advance 62 = .ok (.putfield 49, 3) := by decide +kernel
theorem dX6_advance_65 : decode cX6_advance 65 = .ok (.goto 56, 3) := by decide +kernel
theorem dX6_advance_68 : decode cX6_advance 68 = .ok (.iload_n 1, 1) := by decide +kernel
theorem dX6_advance_69 : decode cX6_advance 69 = .ok (.invokestatic 213, 3) := by decide +kernel
theorem dX6_advance_72 : decode cX6_advance 72 = .ok (.ifCond .eq 10, 3) := by decide +kernel
theorem dX6_advance_75 : decode cX6_advance 75 = .ok (.aload_n 0, 1) := by decide +kernel
theorem dX6_advance_76 : decode cX6_advance 76 = .ok (.invokevirtual 216, 3) := by decide +kernel
theorem dX6_advance_79 : decode cX6_advance 79 = .ok (.goto 42, 3) := by decide +kernel
theorem dX6_advance_82 : decode cX6_advance 82 = .ok (.iload_n 1, 1) := by decide +kernel
theorem dX6_advance_83 : decode cX6_advance 83 = .ok (.invokestatic 219, 3) := by decide +kernel
theorem dX6_advance_86 : decode cX6_advance 86 = .ok (.ifCond .eq 10, 3) := by decide +kernel
theorem dX6_advance_89 : decode cX6_advance 89 = .ok (.aload_n 0, 1) := by decide +kernel
theorem dX6_advance_90 : decode cX6_advance 90 = .ok (.invokevirtual 222, 3) := by decide +kernel
theorem dX6_advance_93 : decode cX6_advance 93 = .ok (.goto 28, 3) := by decide +kernel
theorem dX6_advance_96 : decode cX6_advance 96 = .ok (.aload_n 0, 1) := by decide +kernel
theorem dX6_advance_97 : decode cX6_advance 97 = .ok (.iload_n 1, 1) := by decide +kernel
theorem dX6_advance_98 : decode cX6_advance 98 = .ok (.bipush 59, 2) := by decide +kernel
theorem dX6_advance_100 : decode cX6_advance 100 = .ok (.if_icmp .ne 7, 3) := by decide +kernel
theorem dX6_advance_103 : decode cX6_advance 103 = .ok (.iconst 3, 1) := by decide +kernel
theorem dX6_advance_104 : decode cX6_advance 104 = .ok (.goto 4, 3) := by decide +kernel
theorem dX6_advance_107 : decode cX6_advance 107 = .ok (.iconst 4, 1) := by decide +kernel
theorem dX6_advance_108 : decode cX6_advance 108 = .ok (.putfield 49, 3) := by decide +kernel
theorem dX6_advance_111 : decode cX6_advance 111 = .ok (.aload_n 0, 1) := by decide +kernel
theorem dX6_advance_112 : decode cX6_advance 112 = .ok (.dup, 1) := by decide +kernel
theorem dX6_advance_113 : decode cX6_advance 113 = .ok (.getfield 31, 3) := by decide +kernel
theorem dX6_advance_116 : decode cX6_advance 116 = .ok (.iconst 1, 1) := by decide +kernel
theorem dX6_advance_117 : decode cX6_advance 117 = .ok (.iadd, 1) := by decide +kernel
theorem dX6_advance_118 : decode cX6_advance 118 = .ok (.putfield 31, 3) := by decide +kernel
theorem dX6_advance_121 : decode cX6_advance 121 = .ok (.return_, 1) := by decide +kernel
theorem dX6_isLetter_0 : decode cX6_isLetter 0 = .ok (.iload_n 0, 1) := by decide +kernel
theorem dX6_isLetter_1 : decode cX6_isLetter 1 = .ok (.bipush 97, 2) := by decide +kernel
theorem dX6_isLetter_3 : decode cX6_isLetter 3 = .ok (.if_icmp .lt 13, 3) := by decide +kernel
theorem dX6_isLetter_6 : decode cX6_isLetter 6 = .ok (.iload_n 0, 1) := by decide +kernel
theorem dX6_isLetter_7 : decode cX6_isLetter 7 = .ok (.bipush 122, 2) := by decide +kernel
theorem dX6_isLetter_9 : decode cX6_isLetter 9 = .ok (.if_icmp .gt 7, 3) := by decide +kernel
theorem dX6_isLetter_12 : decode cX6_isLetter 12 = .ok (.iconst 1, 1) := by decide +kernel
theorem dX6_isLetter_13 : decode cX6_isLetter 13 = .ok (.goto 4, 3) := by decide +kernel
theorem dX6_isLetter_16 : decode cX6_isLetter 16 = .ok (.iconst 0, 1) := by decide +kernel
theorem dX6_isLetter_17 : decode cX6_isLetter 17 = .ok (.ireturn, 1) := by decide +kernel
theorem dX6_isDigit_0 : decode cX6_isDigit 0 = .ok (.iload_n 0, 1) := by decide +kernel
theorem dX6_isDigit_1 : decode cX6_isDigit 1 = .ok (.bipush 48, 2) := by decide +kernel
theorem dX6_isDigit_3 : decode cX6_isDigit 3 = .ok (.if_icmp .lt 13, 3) := by decide +kernel
theorem dX6_isDigit_6 : decode cX6_isDigit 6 = .ok (.iload_n 0, 1) := by decide +kernel
theorem dX6_isDigit_7 : decode cX6_isDigit 7 = .ok (.bipush 57, 2) := by decide +kernel
theorem dX6_isDigit_9 : decode cX6_isDigit 9 = .ok (.if_icmp .gt 7, 3) := by decide +kernel
theorem dX6_isDigit_12 : decode cX6_isDigit 12 = .ok (.iconst 1, 1) := by decide +kernel
theorem dX6_isDigit_13 : decode cX6_isDigit 13 = .ok (.goto 4, 3) := by decide +kernel
theorem dX6_isDigit_16 : decode cX6_isDigit 16 = .ok (.iconst 0, 1) := by decide +kernel
theorem dX6_isDigit_17 : decode cX6_isDigit 17 = .ok (.ireturn, 1) := by decide +kernel
theorem dX6_advanceWord_0 : decode cX6_advanceWord 0 = .ok (.iconst 0, 1) := by decide +kernel
theorem dX6_advanceWord_1 : decode cX6_advanceWord 1 = .ok (.istore_n 1, 1) := by decide +kernel
theorem dX6_advanceWord_2 : decode cX6_advanceWord 2 = .ok (.aload_n 0, 1) := by decide +kernel
theorem dX6_advanceWord_3 : decode cX6_advanceWord 3 = .ok (.iconst 0, 1) := by decide +kernel
theorem dX6_advanceWord_4 : decode cX6_advanceWord 4 = .ok (.putfield 62, 3) := by decide +kernel
theorem dX6_advanceWord_7 : decode cX6_advanceWord 7 = .ok (.aload_n 0, 1) := by decide +kernel
theorem dX6_advanceWord_8 : decode cX6_advanceWord 8 = .ok (.getfield 31, 3) := by decide +kernel
theorem dX6_advanceWord_11 : decode cX6_advanceWord 11 = .ok (.aload_n 0, 1) := by decide +kernel
theorem dX6_advanceWord_12 : decode cX6_advanceWord 12 = .ok (.getfield 28, 3) := by decide +kernel
theorem dX6_advanceWord_15 : decode cX6_advanceWord 15 = .ok (.if_icmp .ge 60, 3) := by decide +kernel
theorem dX6_advanceWord_18 : decode cX6_advanceWord 18 = .ok (.aload_n 0, 1) := by decide +kernel
theorem dX6_advanceWord_19 : decode cX6_advanceWord 19 = .ok (.invokevirtual 209, 3) := by decide +kernel
theorem dX6_advanceWord_22 : decode cX6_advanceWord 22 = .ok (.invokestatic 213, 3) := by decide +kernel
theorem dX6_advanceWord_25 : decode cX6_advanceWord 25 = .ok (.ifCond .eq 50, 3) := by decide +kernel
theorem dX6_advanceWord_28 : decode cX6_advanceWord 28 = .ok (.iload_n 1, 1) := by decide +kernel
theorem dX6_advanceWord_29 : decode cX6_advanceWord 29 = .ok (.bipush 6, 2) := by decide +kernel
theorem dX6_advanceWord_31 : decode cX6_advanceWord 31 = .ok (.if_icmp .ge 28, 3) := by decide +kernel
theorem dX6_advanceWord_34 : decode cX6_advanceWord 34 = .ok (.aload_n 0, 1) := by decide +kernel
theorem dX6_advanceWord_35 : decode cX6_advanceWord 35 = .ok (.dup, 1) := by decide +kernel
theorem dX6_advanceWord_36 : decode cX6_advanceWord 36 = .ok (.getfield 62, 3) := by decide +kernel
theorem dX6_advanceWord_39 : decode cX6_advanceWord 39 = .ok (.aload_n 0, 1) := by decide +kernel
theorem dX6_advanceWord_40 : decode cX6_advanceWord 40 = .ok (.invokevirtual 209, 3) := by decide +kernel
theorem dX6_advanceWord_43 : decode cX6_advanceWord 43 = .ok (.bipush 97, 2) := by decide +kernel
theorem dX6_advanceWord_45 : decode cX6_advanceWord 45 = .ok (.isub, 1) := by decide +kernel
theorem dX6_advanceWord_46 : decode cX6_advanceWord 46 = .ok (.iconst 1, 1) := by decide +kernel
theorem dX6_advanceWord_47 : decode cX6_advanceWord 47 = .ok (.iadd, 1) := by decide +kernel
theorem dX6_advanceWord_48 : decode cX6_advanceWord 48 = .ok (.bipush 25, 2) := by decide +kernel
theorem dX6_advanceWord_50 : decode cX6_advanceWord 50 = .ok (.iconst 5, 1) := by decide +kernel
theorem dX6_advanceWord_51 : decode cX6_advanceWord 51 = .ok (.iload_n 1, 1) := by decide +kernel
theorem dX6_advanceWord_52 : decode cX6_advanceWord 52 = .ok (.imul, 1) := by decide +kernel
theorem dX6_advanceWord_53 : decode cX6_advanceWord 53 = .ok (.isub, 1) := by decide +kernel
theorem dX6_advanceWord_54 : decode cX6_advanceWord 54 = .ok (.ishl, 1) := by decide +kernel
theorem dX6_advanceWord_55 : decode cX6_advanceWord 55 = .ok (.ior, 1) := by decide +kernel
theorem dX6_advanceWord_56 : decode cX6_advanceWord 56 = .ok (.putfield 62, 3) := by decide +kernel
theorem dX6_advanceWord_59 : decode cX6_advanceWord 59 = .ok (.iinc 1 1, 3) := by decide +kernel
theorem dX6_advanceWord_62 : decode cX6_advanceWord 62 = .ok (.aload_n 0, 1) := by decide +kernel
theorem dX6_advanceWord_63 : decode cX6_advanceWord 63 = .ok (.dup, 1) := by decide +kernel
theorem dX6_advanceWord_64 : decode cX6_advanceWord 64 = .ok (.getfield 31, 3) := by decide +kernel
theorem dX6_advanceWord_67 : decode cX6_advanceWord 67 = .ok (.iconst 1, 1) := by decide +kernel
theorem dX6_advanceWord_68 : decode cX6_advanceWord 68 = .ok (.iadd, 1) := by decide +kernel
theorem dX6_advanceWord_69 : decode cX6_advanceWord 69 = .ok (.putfield 31, 3) := by decide +kernel
theorem dX6_advanceWord_72 : decode cX6_advanceWord 72 = .ok (.goto (-65), 3) := by decide +kernel
theorem dX6_advanceWord_75 : decode cX6_advanceWord 75 = .ok (.aload_n 0, 1) := by decide +kernel
theorem dX6_advanceWord_76 : decode cX6_advanceWord 76 = .ok (.iload_n 1, 1) := by decide +kernel
theorem dX6_advanceWord_77 : decode cX6_advanceWord 77 = .ok (.bipush 6, 2) := by decide +kernel
theorem dX6_advanceWord_79 : decode cX6_advanceWord 79 = .ok (.if_icmp .gt 7, 3) := by decide +kernel
theorem dX6_advanceWord_82 : decode cX6_advanceWord 82 = .ok (.iconst 1, 1) := by decide +kernel
theorem dX6_advanceWord_83 : decode cX6_advanceWord 83 = .ok (.goto 4, 3) := by decide +kernel
theorem dX6_advanceWord_86 : decode cX6_advanceWord 86 = .ok (.iconst 4, 1) := by decide +kernel
theorem dX6_advanceWord_87 : decode cX6_advanceWord 87 = .ok (.putfield 49, 3) := by decide +kernel
theorem dX6_advanceWord_90 : decode cX6_advanceWord 90 = .ok (.return_, 1) := by decide +kernel
theorem dX6_advanceNumber_0 : decode cX6_advanceNumber 0 = .ok (.aload_n 0, 1) := by decide +kernel
theorem dX6_advanceNumber_1 : decode cX6_advanceNumber 1 = .ok (.iconst 0, 1) := by decide +kernel
theorem dX6_advanceNumber_2 : decode cX6_advanceNumber 2 = .ok (.putfield 62, 3) := by decide +kernel
theorem dX6_advanceNumber_5 : decode cX6_advanceNumber 5 = .ok (.aload_n 0, 1) := by decide +kernel
theorem dX6_advanceNumber_6 : decode cX6_advanceNumber 6 = .ok (.getfield 31, 3) := by decide +kernel
theorem dX6_advanceNumber_9 : decode cX6_advanceNumber 9 = .ok (.aload_n 0, 1) := by decide +kernel
theorem dX6_advanceNumber_10 : decode cX6_advanceNumber 10 = .ok (.getfield 28, 3) := by decide +kernel
theorem dX6_advanceNumber_13 : decode cX6_advanceNumber 13 = .ok (.if_icmp .ge 50, 3) := by decide +kernel
theorem dX6_advanceNumber_16 : decode cX6_advanceNumber 16 = .ok (.aload_n 0, 1) := by decide +kernel
theorem dX6_advanceNumber_17 : decode cX6_advanceNumber 17 = .ok (.invokevirtual 209, 3) := by decide +kernel
theorem dX6_advanceNumber_20 : decode cX6_advanceNumber 20 = .ok (.invokestatic 219, 3) := by decide +kernel
theorem dX6_advanceNumber_23 : decode cX6_advanceNumber 23 = .ok (.ifCond .eq 40, 3) := by decide +kernel
theorem dX6_advanceNumber_26 : decode cX6_advanceNumber 26 = .ok (.aload_n 0, 1) := by decide +kernel
theorem dX6_advanceNumber_27 : decode cX6_advanceNumber 27 = .ok (.ldc 225, 2) := by decide +kernel
theorem dX6_advanceNumber_29 : decode cX6_advanceNumber 29 = .ok (.bipush 10, 2) := by decide +kernel
theorem dX6_advanceNumber_31 : decode cX6_advanceNumber 31 = .ok (.aload_n 0, 1) := by decide +kernel
theorem dX6_advanceNumber_32 : decode cX6_advanceNumber 32 = .ok (.getfield 62, 3) := by decide +kernel
theorem dX6_advanceNumber_35 : decode cX6_advanceNumber 35 = .ok (.imul, 1) := by decide +kernel
theorem dX6_advanceNumber_36 : decode cX6_advanceNumber 36 = .ok (.aload_n 0, 1) := by decide +kernel
theorem dX6_advanceNumber_37 : decode cX6_advanceNumber 37 = .ok (.invokevirtual 209, 3) := by decide +kernel
theorem dX6_advanceNumber_40 : decode cX6_advanceNumber 40 = .ok (.iadd, 1) := by decide +kernel
theorem dX6_advanceNumber_41 : decode cX6_advanceNumber 41 = .ok (.bipush 48, 2) := by decide +kernel
theorem dX6_advanceNumber_43 : decode cX6_advanceNumber 43 = .ok (.isub, 1) := by decide +kernel
theorem dX6_advanceNumber_44 : decode cX6_advanceNumber 44 = .ok (.invokestatic 22, 3) := by decide +kernel
theorem dX6_advanceNumber_47 : decode cX6_advanceNumber 47 = .ok (.putfield 62, 3) := by decide +kernel
theorem dX6_advanceNumber_50 : decode cX6_advanceNumber 50 = .ok (.aload_n 0, 1) := by decide +kernel
theorem dX6_advanceNumber_51 : decode cX6_advanceNumber 51 = .ok (.dup, 1) := by decide +kernel
theorem dX6_advanceNumber_52 : decode cX6_advanceNumber 52 = .ok (.getfield 31, 3) := by decide +kernel
theorem dX6_advanceNumber_55 : decode cX6_advanceNumber 55 = .ok (.iconst 1, 1) := by decide +kernel
theorem dX6_advanceNumber_56 : decode cX6_advanceNumber 56 = .ok (.iadd, 1) := by decide +kernel
theorem dX6_advanceNumber_57 : decode cX6_advanceNumber 57 = .ok (.putfield 31, 3) := by decide +kernel
theorem dX6_advanceNumber_60 : decode cX6_advanceNumber 60 = .ok (.goto (-55), 3) := by decide +kernel
theorem dX6_advanceNumber_63 : decode cX6_advanceNumber 63 = .ok (.aload_n 0, 1) := by decide +kernel
theorem dX6_advanceNumber_64 : decode cX6_advanceNumber 64 = .ok (.iconst 2, 1) := by decide +kernel
theorem dX6_advanceNumber_65 : decode cX6_advanceNumber 65 = .ok (.putfield 49, 3) := by decide +kernel
theorem dX6_advanceNumber_68 : decode cX6_advanceNumber 68 = .ok (.return_, 1) := by decide +kernel
theorem dX7_init_0 : decode cX7_init 0 = .ok (.aload_n 0, 1) := by decide +kernel
theorem dX7_init_1 : decode cX7_init 1 = .ok (.invokespecial 3, 3) := by decide +kernel
theorem dX7_init_4 : decode cX7_init 4 = .ok (.aload_n 0, 1) := by decide +kernel
theorem dX7_init_5 : decode cX7_init 5 = .ok (.iconst 5, 1) := by decide +kernel
theorem dX7_init_6 : decode cX7_init 6 = .ok (.anewarray 9, 3) := by decide +kernel
theorem dX7_init_9 : decode cX7_init 9 = .ok (.putfield 11, 3) := by decide +kernel
theorem dX7_init_12 : decode cX7_init 12 = .ok (.aload_n 0, 1) := by decide +kernel
theorem dX7_init_13 : decode cX7_init 13 = .ok (.iconst 5, 1) := by decide +kernel
theorem dX7_init_14 : decode cX7_init 14 = .ok (.newarray .int, 2) := by decide +kernel
theorem dX7_init_16 : decode cX7_init 16 = .ok (.putfield 17, 3) := by decide +kernel
theorem dX7_init_19 : decode cX7_init 19 = .ok (.aload_n 0, 1) := by decide +kernel
theorem dX7_init_20 : decode cX7_init 20 = .ok (.sipush 676, 3) := by decide +kernel
theorem dX7_init_23 : decode cX7_init 23 = .ok (.newarray .int, 2) := by decide +kernel
theorem dX7_init_25 : decode cX7_init 25 = .ok (.putfield 21, 3) := by decide +kernel
theorem dX7_init_28 : decode cX7_init 28 = .ok (.iconst 0, 1) := by decide +kernel
theorem dX7_init_29 : decode cX7_init 29 = .ok (.istore_n 1, 1) := by decide +kernel
theorem dX7_init_30 : decode cX7_init 30 = .ok (.iconst 0, 1) := by decide +kernel
theorem dX7_init_31 : decode cX7_init 31 = .ok (.istore_n 2, 1) := by decide +kernel
theorem dX7_init_32 : decode cX7_init 32 = .ok (.iload_n 2, 1) := by decide +kernel
theorem dX7_init_33 : decode cX7_init 33 = .ok (.aload_n 0, 1) := by decide +kernel
theorem dX7_init_34 : decode cX7_init 34 = .ok (.getfield 21, 3) := by decide +kernel
theorem dX7_init_37 : decode cX7_init 37 = .ok (.arraylength, 1) := by decide +kernel
theorem dX7_init_38 : decode cX7_init 38 = .ok (.if_icmp .ge 47, 3) := by decide +kernel
theorem dX7_init_41 : decode cX7_init 41 = .ok (.iload_n 1, 1) := by decide +kernel
theorem dX7_init_42 : decode cX7_init 42 = .ok (.iconst 4, 1) := by decide +kernel
theorem dX7_init_43 : decode cX7_init 43 = .ok (.aload_n 0, 1) := by decide +kernel
theorem dX7_init_44 : decode cX7_init 44 = .ok (.getfield 21, 3) := by decide +kernel
theorem dX7_init_47 : decode cX7_init 47 = .ok (.arraylength, 1) := by decide +kernel
theorem dX7_init_48 : decode cX7_init 48 = .ok (.imul, 1) := by decide +kernel
theorem dX7_init_49 : decode cX7_init 49 = .ok (.if_icmp .ge 23, 3) := by decide +kernel
theorem dX7_init_52 : decode cX7_init 52 = .ok (.iload_n 1, 1) := by decide +kernel
theorem dX7_init_53 : decode cX7_init 53 = .ok (.iconst 1, 1) := by decide +kernel
theorem dX7_init_54 : decode cX7_init 54 = .ok (.iadd, 1) := by decide +kernel
theorem dX7_init_55 : decode cX7_init 55 = .ok (.iload_n 1, 1) := by decide +kernel
theorem dX7_init_56 : decode cX7_init 56 = .ok (.iconst 1, 1) := by decide +kernel
theorem dX7_init_57 : decode cX7_init 57 = .ok (.iadd, 1) := by decide +kernel
theorem dX7_init_58 : decode cX7_init 58 = .ok (.imul, 1) := by decide +kernel
theorem dX7_init_59 : decode cX7_init 59 = .ok (.bipush 16, 2) := by decide +kernel
theorem dX7_init_61 : decode cX7_init 61 = .ok (.iload_n 2, 1) := by decide +kernel
theorem dX7_init_62 : decode cX7_init 62 = .ok (.imul, 1) := by decide +kernel
theorem dX7_init_63 : decode cX7_init 63 = .ok (.if_icmp .gt 9, 3) := by decide +kernel
theorem dX7_init_66 : decode cX7_init 66 = .ok (.iinc 1 1, 3) := by decide +kernel
theorem dX7_init_69 : decode cX7_init 69 = .ok (.goto (-28), 3) := by decide +kernel
theorem dX7_init_72 : decode cX7_init 72 = .ok (.aload_n 0, 1) := by decide +kernel
theorem dX7_init_73 : decode cX7_init 73 = .ok (.getfield 21, 3) := by decide +kernel
theorem dX7_init_76 : decode cX7_init 76 = .ok (.iload_n 2, 1) := by decide +kernel
theorem dX7_init_77 : decode cX7_init 77 = .ok (.iload_n 1, 1) := by decide +kernel
theorem dX7_init_78 : decode cX7_init 78 = .ok (.iastore, 1) := by decide +kernel
theorem dX7_init_79 : decode cX7_init 79 = .ok (.iinc 2 1, 3) := by decide +kernel
theorem dX7_init_82 : decode cX7_init 82 = .ok (.goto (-50), 3) := by decide +kernel
theorem dX7_init_85 : decode cX7_init 85 = .ok (.return_, 1) := by decide +kernel
theorem dX7_way_0 : decode cX7_way 0 = .ok (.iload_n 1, 1) := by decide +kernel
theorem dX7_way_1 : decode cX7_way 1 = .ok (.iload_n 1, 1) := by decide +kernel
theorem dX7_way_2 : decode cX7_way 2 = .ok (.imul, 1) := by decide +kernel
theorem dX7_way_3 : decode cX7_way 3 = .ok (.iload_n 2, 1) := by decide +kernel
theorem dX7_way_4 : decode cX7_way 4 = .ok (.iload_n 2, 1) := by decide +kernel
theorem dX7_way_5 : decode cX7_way 5 = .ok (.imul, 1) := by decide +kernel
theorem dX7_way_6 : decode cX7_way 6 = .ok (.iadd, 1) := by decide +kernel
theorem dX7_way_7 : decode cX7_way 7 = .ok (.iload_n 3, 1) := by decide +kernel
theorem dX7_way_8 : decode cX7_way 8 = .ok (.iload_n 3, 1) := by decide +kernel
theorem dX7_way_9 : decode cX7_way 9 = .ok (.imul, 1) := by decide +kernel
theorem dX7_way_10 : decode cX7_way 10 = .ok (.iadd, 1) := by decide +kernel
theorem dX7_way_11 : decode cX7_way 11 = .ok (.istore 4, 2) := by decide +kernel
theorem dX7_way_13 : decode cX7_way 13 = .ok (.iload 4, 2) := by decide +kernel
theorem dX7_way_15 : decode cX7_way 15 = .ok (.ifCond .lt 23, 3) := by decide +kernel
theorem dX7_way_18 : decode cX7_way 18 = .ok (.iload 4, 2) := by decide +kernel
theorem dX7_way_20 : decode cX7_way 20 = .ok (.aload_n 0, 1) := by decide +kernel
theorem dX7_way_21 : decode cX7_way 21 = .ok (.getfield 21, 3) := by decide +kernel
theorem dX7_way_24 : decode cX7_way 24 = .ok (.arraylength, 1) := by decide +kernel
theorem dX7_way_25 : decode cX7_way 25 = .ok (.if_icmp .ge 13, 3) := by decide +kernel
theorem dX7_way_28 : decode cX7_way 28 = .ok (.aload_n 0, 1) := by decide +kernel
theorem dX7_way_29 : decode cX7_way 29 = .ok (.getfield 21, 3) := by decide +kernel
theorem dX7_way_32 : decode cX7_way 32 = .ok (.iload 4, 2) := by decide +kernel
theorem dX7_way_34 : decode cX7_way 34 = .ok (.iaload, 1) := by decide +kernel
theorem dX7_way_35 : decode cX7_way 35 = .ok (.goto 4, 3) := by decide +kernel
theorem dX7_way_38 : decode cX7_way 38 = .ok (.iconst 0, 1) := by decide +kernel
theorem dX7_way_39 : decode cX7_way 39 = .ok (.ireturn, 1) := by decide +kernel
theorem dX7_gather_0 : decode cX7_gather 0 = .ok (.aload_n 0, 1) := by decide +kernel
theorem dX7_gather_1 : decode cX7_gather 1 = .ok (.iconst 0, 1) := by decide +kernel
theorem dX7_gather_2 : decode cX7_gather 2 = .ok (.putfield 24, 3) := by decide +kernel
theorem dX7_gather_5 : decode cX7_gather 5 = .ok (.iconst 0, 1) := by decide +kernel
theorem dX7_gather_6 : decode cX7_gather 6 = .ok (.istore 4, 2) := by decide +kernel
theorem dX7_gather_8 : decode cX7_gather 8 = .ok (.iload 4, 2) := by decide +kernel
theorem dX7_gather_10 : decode cX7_gather 10 = .ok (.aload_n 1, 1) := by decide +kernel
theorem dX7_gather_11 : decode cX7_gather 11 = .ok (.getfield 28, 3) := by decide +kernel
theorem dX7_gather_14 : decode cX7_gather 14 = .ok (.if_icmp .ge 81, 3) := by decide +kernel
theorem dX7_gather_17 : decode cX7_gather 17 = .ok (.iload 4, 2) := by decide +kernel
theorem dX7_gather_19 : decode cX7_gather 19 = .ok (.iload_n 3, 1) := by decide +kernel
theorem dX7_gather_20 : decode cX7_gather 20 = .ok (.if_icmp .eq 69, 3) := by decide +kernel
theorem dX7_gather_23 : decode cX7_gather 23 = .ok (.aload_n 1, 1) := by decide +kernel
theorem dX7_gather_24 : decode cX7_gather 24 = .ok (.getfield 33, 3) := by decide +kernel
theorem dX7_gather_27 : decode cX7_gather 27 = .ok (.iload 4, 2) := by decide +kernel
theorem dX7_gather_29 : decode cX7_gather 29 = .ok (.aaload, 1) := by decide +kernel
theorem dX7_gather_30 : decode cX7_gather 30 = .ok (.getfield 34, 3) := by decide +kernel
theorem dX7_gather_33 : decode cX7_gather 33 = .ok (.ifCond .eq 56, 3) := by decide +kernel
theorem dX7_gather_36 : decode cX7_gather 36 = .ok (.aload_n 2, 1) := by decide +kernel
theorem dX7_gather_37 : decode cX7_gather 37 = .ok (.getfield 38, 3) := by decide +kernel
theorem dX7_gather_40 : decode cX7_gather 40 = .ok (.iload 4, 2) := by decide +kernel
theorem dX7_gather_42 : decode cX7_gather 42 = .ok (.iaload, 1) := by decide +kernel
theorem dX7_gather_43 : decode cX7_gather 43 = .ok (.iconst (-1), 1) := by decide +kernel
theorem dX7_gather_44 : decode cX7_gather 44 = .ok (.if_icmp .eq 45, 3) := by decide +kernel
theorem dX7_gather_47 : decode cX7_gather 47 = .ok (.aload_n 0, 1) := by decide +kernel
theorem dX7_gather_48 : decode cX7_gather 48 = .ok (.getfield 11, 3) := by decide +kernel
theorem dX7_gather_51 : decode cX7_gather 51 = .ok (.aload_n 0, 1) := by decide +kernel
theorem dX7_gather_52 : decode cX7_gather 52 = .ok (.getfield 24, 3) := by decide +kernel
theorem dX7_gather_55 : decode cX7_gather 55 = .ok (.aload_n 1, 1) := by decide +kernel
theorem dX7_gather_56 : decode cX7_gather 56 = .ok (.getfield 33, 3) := by decide +kernel
theorem dX7_gather_59 : decode cX7_gather 59 = .ok (.iload 4, 2) := by decide +kernel
theorem dX7_gather_61 : decode cX7_gather 61 = .ok (.aaload, 1) := by decide +kernel
theorem dX7_gather_62 : decode cX7_gather 62 = .ok (.aastore, 1) := by decide +kernel
theorem dX7_gather_63 : decode cX7_gather 63 = .ok (.aload_n 0, 1) := by decide +kernel
theorem dX7_gather_64 : decode cX7_gather 64 = .ok (.getfield 17, 3) := by decide +kernel
theorem dX7_gather_67 : decode cX7_gather 67 = .ok (.aload_n 0, 1) := by decide +kernel
theorem dX7_gather_68 : decode cX7_gather 68 = .ok (.getfield 24, 3) := by decide +kernel
theorem dX7_gather_71 : decode cX7_gather 71 = .ok (.aload_n 2, 1) := by decide +kernel
theorem dX7_gather_72 : decode cX7_gather 72 = .ok (.getfield 38, 3) := by decide +kernel
theorem dX7_gather_75 : decode cX7_gather 75 = .ok (.iload 4, 2) := by decide +kernel
theorem dX7_gather_77 : decode cX7_gather 77 = .ok (.iaload, 1) := by decide +kernel
theorem dX7_gather_78 : decode cX7_gather 78 = .ok (.iastore, 1) := by decide +kernel
theorem dX7_gather_79 : decode cX7_gather 79 = .ok (.aload_n 0, 1) := by decide +kernel
theorem dX7_gather_80 : decode cX7_gather 80 = .ok (.dup, 1) := by decide +kernel
theorem dX7_gather_81 : decode cX7_gather 81 = .ok (.getfield 24, 3) := by decide +kernel
theorem dX7_gather_84 : decode cX7_gather 84 = .ok (.iconst 1, 1) := by decide +kernel
theorem dX7_gather_85 : decode cX7_gather 85 = .ok (.iadd, 1) := by decide +kernel
theorem dX7_gather_86 : decode cX7_gather 86 = .ok (.putfield 24, 3) := by decide +kernel
theorem dX7_gather_89 : decode cX7_gather 89 = .ok (.iinc 4 1, 3) := by decide +kernel
theorem dX7_gather_92 : decode cX7_gather 92 = .ok (.goto (-84), 3) := by decide +kernel
theorem dX7_gather_95 : decode cX7_gather 95 = .ok (.return_, 1) := by decide +kernel
theorem dX7_solve_0 : decode cX7_solve 0 = .ok (.aload_n 0, 1) := by decide +kernel
theorem dX7_solve_1 : decode cX7_solve 1 = .ok (.iconst (-1), 1) := by decide +kernel
theorem dX7_solve_2 : decode cX7_solve 2 = .ok (.putfield 41, 3) := by decide +kernel
theorem dX7_solve_5 : decode cX7_solve 5 = .ok (.aload_n 0, 1) := by decide +kernel
theorem dX7_solve_6 : decode cX7_solve 6 = .ok (.iconst 0, 1) := by decide +kernel
theorem dX7_solve_7 : decode cX7_solve 7 = .ok (.putfield 44, 3) := by decide +kernel
theorem dX7_solve_10 : decode cX7_solve 10 = .ok (.iconst 0, 1) := by decide +kernel
theorem dX7_solve_11 : decode cX7_solve 11 = .ok (.istore_n 2, 1) := by decide +kernel
theorem dX7_solve_12 : decode cX7_solve 12 = .ok (.iload_n 2, 1) := by decide +kernel
theorem dX7_solve_13 : decode cX7_solve 13 = .ok (.bipush 16, 2) := by decide +kernel
theorem dX7_solve_15 : decode cX7_solve 15 = .ok (.if_icmp .ge 48, 3) := by decide +kernel
theorem dX7_solve_18 : decode cX7_solve 18 = .ok (.iconst 0, 1) := by decide +kernel
theorem dX7_solve_19 : decode cX7_solve 19 = .ok (.istore_n 3, 1) := by decide +kernel
theorem dX7_solve_20 : decode cX7_solve 20 = .ok (.iload_n 3, 1) := by decide +kernel
theorem dX7_solve_21 : decode cX7_solve 21 = .ok (.bipush 16, 2) := by decide +kernel
theorem dX7_solve_23 : decode cX7_solve 23 = .ok (.if_icmp .ge 34, 3) := by decide +kernel
theorem dX7_solve_26 : decode cX7_solve 26 = .ok (.iconst 0, 1) := by decide +kernel
theorem dX7_solve_27 : decode cX7_solve 27 = .ok (.istore 4, 2) := by decide +kernel
theorem dX7_solve_29 : decode cX7_solve 29 = .ok (.iload 4, 2) := by decide +kernel
theorem dX7_solve_31 : decode cX7_solve 31 = .ok (.bipush 16, 2) := by decide +kernel
theorem dX7_solve_33 : decode cX7_solve 33 = .ok (.if_icmp .ge 18, 3) := by decide +kernel
theorem dX7_solve_36 : decode cX7_solve 36 = .ok (.aload_n 0, 1) := by decide +kernel
theorem dX7_solve_37 : decode cX7_solve 37 = .ok (.iload_n 2, 1) := by decide +kernel
theorem dX7_solve_38 : decode cX7_solve 38 = .ok (.iload_n 3, 1) := by decide +kernel
theorem dX7_solve_39 : decode cX7_solve 39 = .ok (.iload 4, 2) := by decide +kernel
theorem dX7_solve_41 : decode cX7_solve 41 = .ok (.iload_n 1, 1) := by decide +kernel
theorem dX7_solve_42 : decode cX7_solve 42 = .ok (.invokevirtual 47, 3) := by decide +kernel
theorem dX7_solve_45 : decode cX7_solve 45 = .ok (.iinc 4 1, 3) := by decide +kernel
theorem dX7_solve_48 : decode cX7_solve 48 = .ok (.goto (-19), 3) := by decide +kernel
theorem dX7_solve_51 : decode cX7_solve 51 = .ok (.iinc 3 1, 3) := by decide +kernel
theorem dX7_solve_54 : decode cX7_solve 54 = .ok (.goto (-34), 3) := by decide +kernel
theorem dX7_solve_57 : decode cX7_solve 57 = .ok (.iinc 2 1, 3) := by decide +kernel
theorem dX7_solve_60 : decode cX7_solve 60 = .ok (.goto (-48), 3) := by decide +kernel
theorem dX7_solve_63 : decode cX7_solve 63 = .ok (.return_, 1) := by decide +kernel
theorem dX7_tryPoint_0 : decode cX7_tryPoint 0 = .ok (.iconst 0, 1) := by decide +kernel
theorem dX7_tryPoint_1 : decode cX7_tryPoint 1 = .ok (.istore 5, 2) := by decide +kernel
theorem dX7_tryPoint_3 : decode cX7_tryPoint 3 = .ok (.iconst 0, 1) := by decide +kernel
theorem dX7_tryPoint_4 : decode cX7_tryPoint 4 = .ok (.istore 6, 2) := by decide +kernel
theorem dX7_tryPoint_6 : decode cX7_tryPoint 6 = .ok (.iconst 0, 1) := by decide +kernel
theorem dX7_tryPoint_7 : decode cX7_tryPoint 7 = .ok (.istore 7, 2) := by decide +kernel
theorem dX7_tryPoint_9 : decode cX7_tryPoint 9 = .ok (.iload 7, 2) := by decide +kernel
theorem dX7_tryPoint_11 : decode cX7_tryPoint 11 = .ok (.aload_n 0, 1) := by decide +kernel
theorem dX7_tryPoint_12 : decode cX7_tryPoint 12 = .ok (.getfield 24, 3) := by decide +kernel
theorem dX7_tryPoint_15 : decode cX7_tryPoint 15 = .ok (.if_icmp .ge 70, 3) := by decide +kernel
theorem dX7_tryPoint_18 : decode cX7_tryPoint 18 = .ok (.aload_n 0, 1) := by decide +kernel
theorem dX7_tryPoint_19 : decode cX7_tryPoint 19 = .ok (.getfield 11, 3) := by decide +kernel
theorem dX7_tryPoint_22 : decode cX7_tryPoint 22 = .ok (.iload 7, 2) := by decide +kernel
theorem dX7_tryPoint_24 : decode cX7_tryPoint 24 = .ok (.aaload, 1) := by decide +kernel
theorem dX7_tryPoint_25 : decode cX7_tryPoint 25 = .ok (.astore 8, 2) := by decide +kernel
theorem dX7_tryPoint_27 : decode cX7_tryPoint 27 = .ok (.aload_n 0, 1) := by decide +kernel
theorem dX7_tryPoint_28 : decode cX7_tryPoint 28 = .ok (.getfield 17, 3) := by decide +kernel
theorem dX7_tryPoint_31 : decode cX7_tryPoint 31 = .ok (.iload 7, 2) := by decide +kernel
theorem dX7_tryPoint_33 : decode cX7_tryPoint 33 = .ok (.iaload, 1) := by decide +kernel
theorem dX7_tryPoint_34 : decode cX7_tryPoint 34 = .ok (.aload_n 0, 1) := by decide +kernel
theorem dX7_tryPoint_35 : decode cX7_tryPoint 35 = .ok (.aload 8, 2) := by decide +kernel
theorem dX7_tryPoint_37 : decode cX7_tryPoint 37 = .ok (.getfield 51, 3) := by decide +kernel
theorem dX7_tryPoint_40 : decode cX7_tryPoint 40 = .ok (.iload_n 1, 1) := by decide +kernel
theorem dX7_tryPoint_41 : decode cX7_tryPoint 41 = .ok (.isub, 1) := by decide +kernel
theorem dX7_tryPoint_42 : decode cX7_tryPoint 42 = .ok (.aload 8, 2) := by decide +kernel
theorem dX7_tryPoint_44 : decode cX7_tryPoint 44 = .ok (.getfield 54, 3) := by decide +kernel
theorem dX7_tryPoint_47 : decode cX7_tryPoint 47 = .ok (.iload_n 2, 1) := by decide +kernel
theorem dX7_tryPoint_48 : decode cX7_tryPoint 48 = .ok (.isub, 1) := by decide +kernel
theorem dX7_tryPoint_49 : decode cX7_tryPoint 49 = .ok (.aload 8, 2) := by decide +kernel
theorem dX7_tryPoint_51 : decode cX7_tryPoint 51 = .ok (.getfield 57, 3) := by decide +kernel
theorem dX7_tryPoint_54 : decode cX7_tryPoint 54 = .ok (.iload_n 3, 1) := by decide +kernel
theorem dX7_tryPoint_55 : decode cX7_tryPoint 55 = .ok (.isub, 1) := by decide +kernel
theorem dX7_tryPoint_56 : decode cX7_tryPoint 56 = .ok (.invokevirtual 60, 3) := by decide +kernel
theorem dX7_tryPoint_59 : decode cX7_tryPoint 59 = .ok (.isub, 1) := by decide +kernel
theorem dX7_tryPoint_60 : decode cX7_tryPoint 60 = .ok (.istore 9, 2) := by decide +kernel
theorem dX7_tryPoint_62 : decode cX7_tryPoint 62 = .ok (.iload 5, 2) := by decide +kernel
theorem dX7_tryPoint_64 : decode cX7_tryPoint 64 = .ok (.iload 9, 2) := by decide +kernel
theorem dX7_tryPoint_66 : decode cX7_tryPoint 66 = .ok (.iadd, 1) := by decide +kernel
theorem dX7_tryPoint_67 : decode cX7_tryPoint 67 = .ok (.istore 5, 2) := by decide +kernel
theorem dX7_tryPoint_69 : decode cX7_tryPoint 69 = .ok (.iload 6, 2) := by decide +kernel
theorem dX7_tryPoint_71 : decode cX7_tryPoint 71 = .ok (.iload 9, 2) := by decide +kernel
theorem dX7_tryPoint_73 : decode cX7_tryPoint 73 = .ok (.iload 9, 2) := by decide +kernel
theorem dX7_tryPoint_75 : decode cX7_tryPoint 75 = .ok (.imul, 1) := by decide +kernel
theorem dX7_tryPoint_76 : decode cX7_tryPoint 76 = .ok (.iadd, 1) := by decide +kernel
theorem dX7_tryPoint_77 : decode cX7_tryPoint 77 = .ok (.istore 6, 2) := by decide +kernel
theorem dX7_tryPoint_79 : decode cX7_tryPoint 79 = .ok (.iinc 7 1, 3) := by decide +kernel
theorem dX7_tryPoint_82 : decode cX7_tryPoint 82 = .ok (.goto (-73), 3) := by decide +kernel
theorem dX7_tryPoint_85 : decode cX7_tryPoint 85 = .ok (.aload_n 0, 1) := by decide +kernel
theorem dX7_tryPoint_86 : decode cX7_tryPoint 86 = .ok (.iload 5, 2) := by decide +kernel
theorem dX7_tryPoint_88 : decode cX7_tryPoint 88 = .ok (.invokevirtual 64, 3) := by decide +kernel
theorem dX7_tryPoint_91 : decode cX7_tryPoint 91 = .ok (.istore 7, 2) := by decide +kernel
theorem dX7_tryPoint_93 : decode cX7_tryPoint 93 = .ok (.iload 6, 2) := by decide +kernel
theorem dX7_tryPoint_95 : decode cX7_tryPoint 95 = .ok (.iconst 2, 1) := by decide +kernel
theorem dX7_tryPoint_96 : decode cX7_tryPoint 96 = .ok (.iload 7, 2) := by decide +kernel
theorem dX7_tryPoint_98 : decode cX7_tryPoint 98 = .ok (.imul, 1) := by decide +kernel
theorem dX7_tryPoint_99 : decode cX7_tryPoint 99 = .ok (.iload 5, 2) := by decide +kernel
theorem dX7_tryPoint_101 : decode cX7_tryPoint 101 = .ok (.imul, 1) := by decide +kernel
theorem dX7_tryPoint_102 : decode cX7_tryPoint 102 = .ok (.isub, 1) := by decide +kernel
theorem dX7_tryPoint_103 : decode cX7_tryPoint 103 = .ok (.aload_n 0, 1) := by decide +kernel
theorem dX7_tryPoint_104 : decode cX7_tryPoint 104 = .ok (.getfield 24, 3) := by decide +kernel
theorem dX7_tryPoint_107 : decode cX7_tryPoint 107 = .ok (.iload 7, 2) := by decide +kernel
theorem dX7_tryPoint_109 : decode cX7_tryPoint 109 = .ok (.imul, 1) := by decide +kernel
theorem dX7_tryPoint_110 : decode cX7_tryPoint 110 = .ok (.iload 7, 2) := by decide +kernel
theorem dX7_tryPoint_112 : decode cX7_tryPoint 112 = .ok (.imul, 1) := by decide +kernel
theorem dX7_tryPoint_113 : decode cX7_tryPoint 113 = .ok (.iadd, 1) := by decide +kernel
theorem dX7_tryPoint_114 : decode cX7_tryPoint 114 = .ok (.istore 8, 2) := by decide +kernel
theorem dX7_tryPoint_116 : decode cX7_tryPoint 116 = .ok (.iload 8, 2) := by decide +kernel
theorem dX7_tryPoint_118 : decode cX7_tryPoint 118 = .ok (.iload 4, 2) := by decide +kernel
theorem dX7_tryPoint_120 : decode cX7_tryPoint 120 = .ok (.if_icmp .gt 13, 3) := by decide +kernel
theorem dX7_tryPoint_123 : decode cX7_tryPoint 123 = .ok (.aload_n 0, 1) := by decide +kernel
theorem dX7_tryPoint_124 : decode cX7_tryPoint 124 = .ok (.dup, 1) := by decide +kernel
theorem dX7_tryPoint_125 : decode cX7_tryPoint 125 = .ok (.getfield 44, 3) := by decide +kernel
theorem dX7_tryPoint_128 : decode cX7_tryPoint 128 = .ok (.iconst 1, 1) := by decide +kernel
theorem dX7_tryPoint_129 : decode cX7_tryPoint 129 = .ok (.iadd, 1) := by decide +kernel
theorem dX7_tryPoint_130 : decode cX7_tryPoint 130 = .ok (.putfield 44, 3) := by decide +kernel
theorem dX7_tryPoint_133 : decode cX7_tryPoint 133 = .ok (.aload_n 0, 1) := by decide +kernel
theorem dX7_tryPoint_134 : decode cX7_tryPoint 134 = .ok (.getfield 41, 3) := by decide +kernel
theorem dX7_tryPoint_137 : decode cX7_tryPoint 137 = .ok (.iconst (-1), 1) := by decide +kernel
theorem dX7_tryPoint_138 : decode cX7_tryPoint 138 = .ok (.if_icmp .eq 12, 3) := by decide +kernel
theorem dX7_tryPoint_141 : decode cX7_tryPoint 141 = .ok (.iload 8, 2) := by decide +kernel
theorem dX7_tryPoint_143 : decode cX7_tryPoint 143 = .ok (.aload_n 0, 1) := by decide +kernel
theorem dX7_tryPoint_144 : decode cX7_tryPoint 144 = .ok (.getfield 41, 3) := by decide +kernel
theorem dX7_tryPoint_147 : decode cX7_tryPoint 147 = .ok (.if_icmp .ge 30, 3) := by decide +kernel
theorem dX7_tryPoint_150 : decode cX7_tryPoint 150 = .ok (.aload_n 0, 1) := by decide +kernel
theorem dX7_tryPoint_151 : decode cX7_tryPoint 151 = .ok (.iload 8, 2) := by decide +kernel
theorem dX7_tryPoint_153 : decode cX7_tryPoint 153 = .ok (.putfield 41, 3) := by decide +kernel
theorem dX7_tryPoint_156 : decode cX7_tryPoint 156 = .ok (.aload_n 0, 1) := by decide +kernel
theorem dX7_tryPoint_157 : decode cX7_tryPoint 157 = .ok (.iload_n 1, 1) := by decide +kernel
theorem dX7_tryPoint_158 : decode cX7_tryPoint 158 = .ok (.putfield 68, 3) := by decide +kernel
theorem dX7_tryPoint_161 : decode cX7_tryPoint 161 = .ok (.aload_n 0, 1) := by decide +kernel
theorem dX7_tryPoint_162 : decode cX7_tryPoint 162 = .ok (.iload_n 2, 1) := by decide +kernel
theorem dX7_tryPoint_163 : decode cX7_tryPoint 163 = .ok (.putfield 69, 3) := by decide +kernel
theorem dX7_tryPoint_166 : decode cX7_tryPoint 166 = .ok (.aload_n 0, 1) := by decide +kernel
theorem dX7_tryPoint_167 : decode cX7_tryPoint 167 = .ok (.iload_n 3, 1) := by decide +kernel
theorem dX7_tryPoint_168 : decode cX7_tryPoint 168 = .ok (.putfield 70, 3) := by decide +kernel
theorem dX7_tryPoint_171 : decode cX7_tryPoint 171 = .ok (.aload_n 0, 1) := by decide +kernel
theorem dX7_tryPoint_172 : decode cX7_tryPoint 172 = .ok (.iload 7, 2) := by decide +kernel
theorem dX7_tryPoint_174 : decode cX7_tryPoint 174 = .ok (.putfield 71, 3) := by decide +kernel
theorem dX7_tryPoint_177 : decode cX7_tryPoint 177 = .ok (.return_, 1) := by decide +kernel
theorem dX7_bestClock_0 : decode cX7_bestClock 0 = .ok (.aload_n 0, 1) := by decide +kernel
theorem dX7_bestClock_1 : decode cX7_bestClock 1 = .ok (.getfield 24, 3) := by decide +kernel
theorem dX7_bestClock_4 : decode cX7_bestClock 4 = .ok (.ifCond .gt 5, 3) := by decide +kernel
theorem dX7_bestClock_7 : decode cX7_bestClock 7 = .ok (.iconst 0, 1) := by decide +kernel
theorem dX7_bestClock_8 : decode cX7_bestClock 8 = .ok (.ireturn, 1) := by decide +kernel
theorem dX7_bestClock_9 : decode cX7_bestClock 9 = .ok (.aload_n 0, 1) := by decide +kernel
theorem dX7_bestClock_10 : decode cX7_bestClock 10 = .ok (.getfield 24, 3) := by decide +kernel
theorem dX7_bestClock_13 : decode cX7_bestClock 13 = .ok (.iconst 2, 1) := by decide +kernel
theorem dX7_bestClock_14 : decode cX7_bestClock 14 = .ok (.iload_n 1, 1) := by decide +kernel
theorem dX7_bestClock_15 : decode cX7_bestClock 15 = .ok (.imul, 1) := by decide +kernel
theorem dX7_bestClock_16 : decode cX7_bestClock 16 = .ok (.isub, 1) := by decide +kernel
theorem dX7_bestClock_17 : decode cX7_bestClock 17 = .ok (.iconst 2, 1) := by decide +kernel
theorem dX7_bestClock_18 : decode cX7_bestClock 18 = .ok (.aload_n 0, 1) := by decide +kernel
theorem dX7_bestClock_19 : decode cX7_bestClock 19 = .ok (.getfield 24, 3) := by decide +kernel
theorem dX7_bestClock_22 : decode cX7_bestClock 22 = .ok (.imul, 1) := by decide +kernel
theorem dX7_bestClock_23 : decode cX7_bestClock 23 = .ok (.invokestatic 74, 3) := by decide +kernel
theorem dX7_bestClock_26 : decode cX7_bestClock 26 = .ok (.ineg, 1) := by decide +kernel
theorem dX7_bestClock_27 : decode cX7_bestClock 27 = .ok (.istore_n 2, 1) := by decide +kernel
theorem dX7_bestClock_28 : decode cX7_bestClock 28 = .ok (.iconst 0, 1) := by decide +kernel
theorem dX7_bestClock_29 : decode cX7_bestClock 29 = .ok (.bipush 99, 2) := by decide +kernel
theorem dX7_bestClock_31 : decode cX7_bestClock 31 = .ok (.iload_n 2, 1) := by decide +kernel
theorem dX7_bestClock_32 : decode cX7_bestClock 32 = .ok (.invokestatic 80, 3) := by decide +kernel
theorem dX7_bestClock_35 : decode cX7_bestClock 35 = .ok (.invokestatic 83, 3) := by decide +kernel
theorem dX7_bestClock_38 : decode cX7_bestClock 38 = .ok (.ireturn, 1) := by decide +kernel
theorem dX7_told_0 : decode cX7_told 0 = .ok (.iload_n 1, 1) := by decide +kernel
theorem dX7_told_1 : decode cX7_told 1 = .ok (.tableswitch 51 0 3 #[31, 36, 41, 46], 31) := by decide +kernel
theorem dX7_told_32 : decode cX7_told 32 = .ok (.aload_n 0, 1) := by decide +kernel
theorem dX7_told_33 : decode cX7_told 33 = .ok (.getfield 68, 3) := by decide +kernel
theorem dX7_told_36 : decode cX7_told 36 = .ok (.ireturn, 1) := by decide +kernel
theorem dX7_told_37 : decode cX7_told 37 = .ok (.aload_n 0, 1) := by decide +kernel
theorem dX7_told_38 : decode cX7_told 38 = .ok (.getfield 69, 3) := by decide +kernel
theorem dX7_told_41 : decode cX7_told 41 = .ok (.ireturn, 1) := by decide +kernel
theorem dX7_told_42 : decode cX7_told 42 = .ok (.aload_n 0, 1) := by decide +kernel
theorem dX7_told_43 : decode cX7_told 43 = .ok (.getfield 70, 3) := by decide +kernel
theorem dX7_told_46 : decode cX7_told 46 = .ok (.ireturn, 1) := by decide +kernel
theorem dX7_told_47 : decode cX7_told 47 = .ok (.aload_n 0, 1) := by decide +kernel
theorem dX7_told_48 : decode cX7_told 48 = .ok (.getfield 71, 3) := by decide +kernel
theorem dX7_told_51 : decode cX7_told 51 = .ok (.ireturn, 1) := by decide +kernel
theorem dX7_told_52 : decode cX7_told 52 = .ok (.aload_n 0, 1) := by decide +kernel
theorem dX7_told_53 : decode cX7_told 53 = .ok (.getfield 41, 3) := by decide +kernel
theorem dX7_told_56 : decode cX7_told 56 = .ok (.ireturn, 1) := by decide +kernel
theorem dX8_init_0 : decode cX8_init 0 = .ok (.aload_n 0, 1) := by decide +kernel
theorem dX8_init_1 : decode cX8_init 1 = .ok (.invokespecial 3, 3) := by decide +kernel
theorem dX8_init_4 : decode cX8_init 4 = .ok (.aload_n 0, 1) := by decide +kernel
theorem dX8_init_5 : decode cX8_init 5 = .ok (.iconst 4, 1) := by decide +kernel
theorem dX8_init_6 : decode cX8_init 6 = .ok (.anewarray 9, 3) := by decide +kernel
theorem dX8_init_9 : decode cX8_init 9 = .ok (.putfield 11, 3) := by decide +kernel
theorem dX8_init_12 : decode cX8_init 12 = .ok (.aload_n 0, 1) := by decide +kernel
theorem dX8_init_13 : decode cX8_init 13 = .ok (.iconst 5, 1) := by decide +kernel
theorem dX8_init_14 : decode cX8_init 14 = .ok (.newarray .int, 2) := by decide +kernel
theorem dX8_init_16 : decode cX8_init 16 = .ok (.putfield 17, 3) := by decide +kernel
theorem dX8_init_19 : decode cX8_init 19 = .ok (.iconst 0, 1) := by decide +kernel
theorem dX8_init_20 : decode cX8_init 20 = .ok (.istore_n 1, 1) := by decide +kernel
theorem dX8_init_21 : decode cX8_init 21 = .ok (.iload_n 1, 1) := by decide +kernel
theorem dX8_init_22 : decode cX8_init 22 = .ok (.aload_n 0, 1) := by decide +kernel
theorem dX8_init_23 : decode cX8_init 23 = .ok (.getfield 11, 3) := by decide +kernel
theorem dX8_init_26 : decode cX8_init 26 = .ok (.arraylength, 1) := by decide +kernel
theorem dX8_init_27 : decode cX8_init 27 = .ok (.if_icmp .ge 22, 3) := by decide +kernel
theorem dX8_init_30 : decode cX8_init 30 = .ok (.aload_n 0, 1) := by decide +kernel
theorem dX8_init_31 : decode cX8_init 31 = .ok (.getfield 11, 3) := by decide +kernel
theorem dX8_init_34 : decode cX8_init 34 = .ok (.iload_n 1, 1) := by decide +kernel
theorem dX8_init_35 : decode cX8_init 35 = .ok (.new 9, 3) := by decide +kernel
theorem dX8_init_38 : decode cX8_init 38 = .ok (.dup, 1) := by decide +kernel
theorem dX8_init_39 : decode cX8_init 39 = .ok (.invokespecial 21, 3) := by decide +kernel
theorem dX8_init_42 : decode cX8_init 42 = .ok (.aastore, 1) := by decide +kernel
theorem dX8_init_43 : decode cX8_init 43 = .ok (.iinc 1 1, 3) := by decide +kernel
theorem dX8_init_46 : decode cX8_init 46 = .ok (.goto (-25), 3) := by decide +kernel
theorem dX8_init_49 : decode cX8_init 49 = .ok (.aload_n 0, 1) := by decide +kernel
theorem dX8_init_50 : decode cX8_init 50 = .ok (.invokevirtual 22, 3) := by decide +kernel
theorem dX8_init_53 : decode cX8_init 53 = .ok (.return_, 1) := by decide +kernel
theorem dX8_empty_0 : decode cX8_empty 0 = .ok (.aload_n 0, 1) := by decide +kernel
theorem dX8_empty_1 : decode cX8_empty 1 = .ok (.iconst 0, 1) := by decide +kernel
theorem dX8_empty_2 : decode cX8_empty 2 = .ok (.putfield 25, 3) := by decide +kernel
theorem dX8_empty_5 : decode cX8_empty 5 = .ok (.iconst 0, 1) := by decide +kernel
theorem dX8_empty_6 : decode cX8_empty 6 = .ok (.istore_n 1, 1) := by decide +kernel
theorem dX8_empty_7 : decode cX8_empty 7 = .ok (.iload_n 1, 1) := by decide +kernel
theorem dX8_empty_8 : decode cX8_empty 8 = .ok (.aload_n 0, 1) := by decide +kernel
theorem dX8_empty_9 : decode cX8_empty 9 = .ok (.getfield 17, 3) := by decide +kernel
theorem dX8_empty_12 : decode cX8_empty 12 = .ok (.arraylength, 1) := by decide +kernel
theorem dX8_empty_13 : decode cX8_empty 13 = .ok (.if_icmp .ge 16, 3) := by decide +kernel
theorem dX8_empty_16 : decode cX8_empty 16 = .ok (.aload_n 0, 1) := by decide +kernel
theorem dX8_empty_17 : decode cX8_empty 17 = .ok (.getfield 17, 3) := by decide +kernel
theorem dX8_empty_20 : decode cX8_empty 20 = .ok (.iload_n 1, 1) := by decide +kernel
theorem dX8_empty_21 : decode cX8_empty 21 = .ok (.iconst (-1), 1) := by decide +kernel
theorem dX8_empty_22 : decode cX8_empty 22 = .ok (.iastore, 1) := by decide +kernel
theorem dX8_empty_23 : decode cX8_empty 23 = .ok (.iinc 1 1, 3) := by decide +kernel
theorem dX8_empty_26 : decode cX8_empty 26 = .ok (.goto (-19), 3) := by decide +kernel
theorem dX8_empty_29 : decode cX8_empty 29 = .ok (.return_, 1) := by decide +kernel
theorem dX8_copyFrom_0 : decode cX8_copyFrom 0 = .ok (.aload_n 0, 1) := by decide +kernel
theorem dX8_copyFrom_1 : decode cX8_copyFrom 1 = .ok (.aload_n 1, 1) := by decide +kernel
theorem dX8_copyFrom_2 : decode cX8_copyFrom 2 = .ok (.getfield 25, 3) := by decide +kernel
theorem dX8_copyFrom_5 : decode cX8_copyFrom 5 = .ok (.putfield 25, 3) := by decide +kernel
theorem dX8_copyFrom_8 : decode cX8_copyFrom 8 = .ok (.iconst 0, 1) := by decide +kernel
theorem dX8_copyFrom_9 : decode cX8_copyFrom 9 = .ok (.istore_n 2, 1) := by decide +kernel
theorem dX8_copyFrom_10 : decode cX8_copyFrom 10 = .ok (.iload_n 2, 1) := by decide +kernel
theorem dX8_copyFrom_11 : decode cX8_copyFrom 11 = .ok (.aload_n 0, 1) := by decide +kernel
theorem dX8_copyFrom_12 : decode cX8_copyFrom 12 = .ok (.getfield 25, 3) := by decide +kernel
theorem dX8_copyFrom_15 : decode cX8_copyFrom 15 = .ok (.if_icmp .ge 24, 3) := by decide +kernel
theorem dX8_copyFrom_18 : decode cX8_copyFrom 18 = .ok (.aload_n 0, 1) := by decide +kernel
theorem dX8_copyFrom_19 : decode cX8_copyFrom 19 = .ok (.getfield 11, 3) := by decide +kernel
theorem dX8_copyFrom_22 : decode cX8_copyFrom 22 = .ok (.iload_n 2, 1) := by decide +kernel
theorem dX8_copyFrom_23 : decode cX8_copyFrom 23 = .ok (.aaload, 1) := by decide +kernel
theorem dX8_copyFrom_24 : decode cX8_copyFrom 24 = .ok (.aload_n 1, 1) := by decide +kernel
theorem dX8_copyFrom_25 : decode cX8_copyFrom 25 = .ok (.getfield 11, 3) := by decide +kernel
theorem dX8_copyFrom_28 : decode cX8_copyFrom 28 = .ok (.iload_n 2, 1) := by decide +kernel
theorem dX8_copyFrom_29 : decode cX8_copyFrom 29 = .ok (.aaload, 1) := by decide +kernel
theorem dX8_copyFrom_30 : decode cX8_copyFrom 30 = .ok (.invokevirtual 29, 3) := by decide +kernel
theorem dX8_copyFrom_33 : decode cX8_copyFrom 33 = .ok (.iinc 2 1, 3) := by decide +kernel
theorem dX8_copyFrom_36 : decode cX8_copyFrom 36 = .ok (.goto (-26), 3) := by decide +kernel
theorem dX8_copyFrom_39 : decode cX8_copyFrom 39 = .ok (.iconst 0, 1) := by decide +kernel
theorem dX8_copyFrom_40 : decode cX8_copyFrom 40 = .ok (.istore_n 2, 1) := by decide +kernel
theorem dX8_copyFrom_41 : decode cX8_copyFrom 41 = .ok (.iload_n 2, 1) := by decide +kernel
theorem dX8_copyFrom_42 : decode cX8_copyFrom 42 = .ok (.aload_n 0, 1) := by decide +kernel
theorem dX8_copyFrom_43 : decode cX8_copyFrom 43 = .ok (.getfield 17, 3) := by decide +kernel
theorem dX8_copyFrom_46 : decode cX8_copyFrom 46 = .ok (.arraylength, 1) := by decide +kernel
theorem dX8_copyFrom_47 : decode cX8_copyFrom 47 = .ok (.if_icmp .ge 21, 3) := by decide +kernel
theorem dX8_copyFrom_50 : decode cX8_copyFrom 50 = .ok (.aload_n 0, 1) := by decide +kernel
theorem dX8_copyFrom_51 : decode cX8_copyFrom 51 = .ok (.getfield 17, 3) := by decide +kernel
theorem dX8_copyFrom_54 : decode cX8_copyFrom 54 = .ok (.iload_n 2, 1) := by decide +kernel
theorem dX8_copyFrom_55 : decode cX8_copyFrom 55 = .ok (.aload_n 1, 1) := by decide +kernel
theorem dX8_copyFrom_56 : decode cX8_copyFrom 56 = .ok (.getfield 17, 3) := by decide +kernel
theorem dX8_copyFrom_59 : decode cX8_copyFrom 59 = .ok (.iload_n 2, 1) := by decide +kernel
theorem dX8_copyFrom_60 : decode cX8_copyFrom 60 = .ok (.iaload, 1) := by decide +kernel
theorem dX8_copyFrom_61 : decode cX8_copyFrom 61 = .ok (.iastore, 1) := by decide +kernel
theorem dX8_copyFrom_62 : decode cX8_copyFrom 62 = .ok (.iinc 2 1, 3) := by decide +kernel
theorem dX8_copyFrom_65 : decode cX8_copyFrom 65 = .ok (.goto (-24), 3) := by decide +kernel
theorem dX8_copyFrom_68 : decode cX8_copyFrom 68 = .ok (.return_, 1) := by decide +kernel
theorem dX8_howManyLost_0 : decode cX8_howManyLost 0 = .ok (.iconst 0, 1) := by decide +kernel
theorem dX8_howManyLost_1 : decode cX8_howManyLost 1 = .ok (.istore_n 1, 1) := by decide +kernel
theorem dX8_howManyLost_2 : decode cX8_howManyLost 2 = .ok (.iconst 0, 1) := by decide +kernel
theorem dX8_howManyLost_3 : decode cX8_howManyLost 3 = .ok (.istore_n 2, 1) := by decide +kernel
theorem dX8_howManyLost_4 : decode cX8_howManyLost 4 = .ok (.iload_n 2, 1) := by decide +kernel
theorem dX8_howManyLost_5 : decode cX8_howManyLost 5 = .ok (.aload_n 0, 1) := by decide +kernel
theorem dX8_howManyLost_6 : decode cX8_howManyLost 6 = .ok (.getfield 25, 3) := by decide +kernel
theorem dX8_howManyLost_9 : decode cX8_howManyLost 9 = .ok (.if_icmp .ge 29, 3) := by decide +kernel
theorem dX8_howManyLost_12 : decode cX8_howManyLost 12 = .ok (.iload_n 1, 1) := by decide +kernel
theorem dX8_howManyLost_13 : decode cX8_howManyLost 13 = .ok (.aload_n 0, 1) := by decide +kernel
theorem dX8_howManyLost_14 : decode cX8_howManyLost 14 = .ok (.getfield 11, 3) := by decide +kernel
theorem dX8_howManyLost_17 : decode cX8_howManyLost 17 = .ok (.iload_n 2, 1) := by decide +kernel
theorem dX8_howManyLost_18 : decode cX8_howManyLost 18 = .ok (.aaload, 1) := by decide +kernel
theorem dX8_howManyLost_19 : decode cX8_howManyLost 19 = .ok (.invokevirtual 33, 3) := by decide +kernel
theorem dX8_howManyLost_22 : decode cX8_howManyLost 22 = .ok (.ifCond .eq 7, 3) := by decide +kernel
theorem dX8_howManyLost_25 : decode cX8_howManyLost 25 = .ok (.iconst 1, 1) := by decide +kernel
theorem dX8_howManyLost_26 : decode cX8_howManyLost 26 = .ok (.goto 4, 3) := by decide +kernel
theorem dX8_howManyLost_29 : decode cX8_howManyLost 29 = .ok (.iconst 0, 1) := by decide +kernel
theorem dX8_howManyLost_30 : decode cX8_howManyLost 30 = .ok (.iadd, 1) := by decide +kernel
theorem dX8_howManyLost_31 : decode cX8_howManyLost 31 = .ok (.istore_n 1, 1) := by decide +kernel
theorem dX8_howManyLost_32 : decode cX8_howManyLost 32 = .ok (.iinc 2 1, 3) := by decide +kernel
theorem dX8_howManyLost_35 : decode cX8_howManyLost 35 = .ok (.goto (-31), 3) := by decide +kernel
theorem dX8_howManyLost_38 : decode cX8_howManyLost 38 = .ok (.iload_n 1, 1) := by decide +kernel
theorem dX8_howManyLost_39 : decode cX8_howManyLost 39 = .ok (.ireturn, 1) := by decide +kernel
theorem dX8_howManyRanges_0 : decode cX8_howManyRanges 0 = .ok (.iconst 0, 1) := by decide +kernel
theorem dX8_howManyRanges_1 : decode cX8_howManyRanges 1 = .ok (.istore_n 1, 1) := by decide +kernel
theorem dX8_howManyRanges_2 : decode cX8_howManyRanges 2 = .ok (.iconst 0, 1) := by decide +kernel
theorem dX8_howManyRanges_3 : decode cX8_howManyRanges 3 = .ok (.istore_n 2, 1) := by decide +kernel
theorem dX8_howManyRanges_4 : decode cX8_howManyRanges 4 = .ok (.iload_n 2, 1) := by decide +kernel
theorem dX8_howManyRanges_5 : decode cX8_howManyRanges 5 = .ok (.aload_n 0, 1) := by decide +kernel
theorem dX8_howManyRanges_6 : decode cX8_howManyRanges 6 = .ok (.getfield 17, 3) := by decide +kernel
theorem dX8_howManyRanges_9 : decode cX8_howManyRanges 9 = .ok (.arraylength, 1) := by decide +kernel
theorem dX8_howManyRanges_10 : decode cX8_howManyRanges 10 = .ok (.if_icmp .ge 27, 3) := by decide +kernel
theorem dX8_howManyRanges_13 : decode cX8_howManyRanges 13 = .ok (.iload_n 1, 1) := by decide +kernel
theorem dX8_howManyRanges_14 : decode cX8_howManyRanges 14 = .ok (.aload_n 0, 1) := by decide +kernel
theorem dX8_howManyRanges_15 : decode cX8_howManyRanges 15 = .ok (.getfield 17, 3) := by decide +kernel
theorem dX8_howManyRanges_18 : decode cX8_howManyRanges 18 = .ok (.iload_n 2, 1) := by decide +kernel
theorem dX8_howManyRanges_19 : decode cX8_howManyRanges 19 = .ok (.iaload, 1) := by decide +kernel
theorem dX8_howManyRanges_20 : decode cX8_howManyRanges 20 = .ok (.iconst (-1), 1) := by decide +kernel
theorem dX8_howManyRanges_21 : decode cX8_howManyRanges 21 = .ok (.if_icmp .eq 7, 3) := by decide +kernel
theorem dX8_howManyRanges_24 : decode cX8_howManyRanges 24 = .ok (.iconst 1, 1) := by decide +kernel
theorem dX8_howManyRanges_25 : decode cX8_howManyRanges 25 = .ok (.goto 4, 3) := by decide +kernel
theorem dX8_howManyRanges_28 : decode cX8_howManyRanges 28 = .ok (.iconst 0, 1) := by decide +kernel
theorem dX8_howManyRanges_29 : decode cX8_howManyRanges 29 = .ok (.iadd, 1) := by decide +kernel
theorem dX8_howManyRanges_30 : decode cX8_howManyRanges 30 = .ok (.istore_n 1, 1) := by decide +kernel
theorem dX8_howManyRanges_31 : decode cX8_howManyRanges 31 = .ok (.iinc 2 1, 3) := by decide +kernel
theorem dX8_howManyRanges_34 : decode cX8_howManyRanges 34 = .ok (.goto (-30), 3) := by decide +kernel
theorem dX8_howManyRanges_37 : decode cX8_howManyRanges 37 = .ok (.iload_n 1, 1) := by decide +kernel
theorem dX8_howManyRanges_38 : decode cX8_howManyRanges 38 = .ok (.ireturn, 1) := by decide +kernel
theorem dX9_init_0 : decode cX9_init 0 = .ok (.aload_n 0, 1) := by decide +kernel
theorem dX9_init_1 : decode cX9_init 1 = .ok (.invokespecial 3, 3) := by decide +kernel
theorem dX9_init_4 : decode cX9_init 4 = .ok (.aload_n 0, 1) := by decide +kernel
theorem dX9_init_5 : decode cX9_init 5 = .ok (.iconst 5, 1) := by decide +kernel
theorem dX9_init_6 : decode cX9_init 6 = .ok (.anewarray 9, 3) := by decide +kernel
theorem dX9_init_9 : decode cX9_init 9 = .ok (.putfield 11, 3) := by decide +kernel
theorem dX9_init_12 : decode cX9_init 12 = .ok (.iconst 0, 1) := by decide +kernel
theorem dX9_init_13 : decode cX9_init 13 = .ok (.istore_n 1, 1) := by decide +kernel
theorem dX9_init_14 : decode cX9_init 14 = .ok (.iload_n 1, 1) := by decide +kernel
theorem dX9_init_15 : decode cX9_init 15 = .ok (.aload_n 0, 1) := by decide +kernel
theorem dX9_init_16 : decode cX9_init 16 = .ok (.getfield 11, 3) := by decide +kernel
theorem dX9_init_19 : decode cX9_init 19 = .ok (.arraylength, 1) := by decide +kernel
theorem dX9_init_20 : decode cX9_init 20 = .ok (.if_icmp .ge 22, 3) := by decide +kernel
theorem dX9_init_23 : decode cX9_init 23 = .ok (.aload_n 0, 1) := by decide +kernel
theorem dX9_init_24 : decode cX9_init 24 = .ok (.getfield 11, 3) := by decide +kernel
theorem dX9_init_27 : decode cX9_init 27 = .ok (.iload_n 1, 1) := by decide +kernel
theorem dX9_init_28 : decode cX9_init 28 = .ok (.new 9, 3) := by decide +kernel
theorem dX9_init_31 : decode cX9_init 31 = .ok (.dup, 1) := by decide +kernel
theorem dX9_init_32 : decode cX9_init 32 = .ok (.invokespecial 17, 3) := by decide +kernel
theorem dX9_init_35 : decode cX9_init 35 = .ok (.aastore, 1) := by decide +kernel
theorem dX9_init_36 : decode cX9_init 36 = .ok (.iinc 1 1, 3) := by decide +kernel
