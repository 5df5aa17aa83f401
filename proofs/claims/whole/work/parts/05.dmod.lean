theorem dX13_init_0 : decode cX13_init 0 = .ok (.aload_n 0, 1) := by decide +kernel
theorem dX13_init_1 : decode cX13_init 1 = .ok (.invokespecial 1, 3) := by decide +kernel
theorem dX13_init_4 : decode cX13_init 4 = .ok (.aload_n 0, 1) := by decide +kernel
theorem dX13_init_5 : decode cX13_init 5 = .ok (.sipush 377, 3) := by decide +kernel
theorem dX13_init_8 : decode cX13_init 8 = .ok (.newarray .int, 2) := by decide +kernel
theorem dX13_init_10 : decode cX13_init 10 = .ok (.putfield 9, 3) := by decide +kernel
theorem dX13_init_13 : decode cX13_init 13 = .ok (.aload_n 0, 1) := by decide +kernel
theorem dX13_init_14 : decode cX13_init 14 = .ok (.sipush 377, 3) := by decide +kernel
theorem dX13_init_17 : decode cX13_init 17 = .ok (.newarray .int, 2) := by decide +kernel
theorem dX13_init_19 : decode cX13_init 19 = .ok (.putfield 13, 3) := by decide +kernel
theorem dX13_init_22 : decode cX13_init 22 = .ok (.aload_n 0, 1) := by decide +kernel
theorem dX13_init_23 : decode cX13_init 23 = .ok (.sipush 377, 3) := by decide +kernel
theorem dX13_init_26 : decode cX13_init 26 = .ok (.newarray .int, 2) := by decide +kernel
theorem dX13_init_28 : decode cX13_init 28 = .ok (.putfield 16, 3) := by decide +kernel
theorem dX13_init_31 : decode cX13_init 31 = .ok (.aload_n 0, 1) := by decide +kernel
theorem dX13_init_32 : decode cX13_init 32 = .ok (.sipush 377, 3) := by decide +kernel
theorem dX13_init_35 : decode cX13_init 35 = .ok (.newarray .int, 2) := by decide +kernel
theorem dX13_init_37 : decode cX13_init 37 = .ok (.putfield 19, 3) := by decide +kernel
theorem dX13_init_40 : decode cX13_init 40 = .ok (.aload_n 0, 1) := by decide +kernel
theorem dX13_init_41 : decode cX13_init 41 = .ok (.sipush 377, 3) := by decide +kernel
theorem dX13_init_44 : decode cX13_init 44 = .ok (.newarray .int, 2) := by decide +kernel
theorem dX13_init_46 : decode cX13_init 46 = .ok (.putfield 22, 3) := by decide +kernel
theorem dX13_init_49 : decode cX13_init 49 = .ok (.aload_n 0, 1) := by decide +kernel
theorem dX13_init_50 : decode cX13_init 50 = .ok (.sipush 3016, 3) := by decide +kernel
theorem dX13_init_53 : decode cX13_init 53 = .ok (.newarray .int, 2) := by decide +kernel
theorem dX13_init_55 : decode cX13_init 55 = .ok (.putfield 25, 3) := by decide +kernel
theorem dX13_init_58 : decode cX13_init 58 = .ok (.aload_n 0, 1) := by decide +kernel
theorem dX13_init_59 : decode cX13_init 59 = .ok (.aload_n 0, 1) := by decide +kernel
theorem dX13_init_60 : decode cX13_init 60 = .ok (.getfield 9, 3) := by decide +kernel
theorem dX13_init_63 : decode cX13_init 63 = .ok (.putfield 28, 3) := by decide +kernel
theorem dX13_init_66 : decode cX13_init 66 = .ok (.aload_n 0, 1) := by decide +kernel
theorem dX13_init_67 : decode cX13_init 67 = .ok (.bipush 32, 2) := by decide +kernel
theorem dX13_init_69 : decode cX13_init 69 = .ok (.newarray .int, 2) := by decide +kernel
theorem dX13_init_71 : decode cX13_init 71 = .ok (.putfield 31, 3) := by decide +kernel
theorem dX13_init_74 : decode cX13_init 74 = .ok (.aload_n 0, 1) := by decide +kernel
theorem dX13_init_75 : decode cX13_init 75 = .ok (.sipush 500, 3) := by decide +kernel
theorem dX13_init_78 : decode cX13_init 78 = .ok (.newarray .int, 2) := by decide +kernel
theorem dX13_init_80 : decode cX13_init 80 = .ok (.putfield 34, 3) := by decide +kernel
theorem dX13_init_83 : decode cX13_init 83 = .ok (.aload_n 0, 1) := by decide +kernel
theorem dX13_init_84 : decode cX13_init 84 = .ok (.iconst (-1), 1) := by decide +kernel
theorem dX13_init_85 : decode cX13_init 85 = .ok (.putfield 37, 3) := by decide +kernel
theorem dX13_init_88 : decode cX13_init 88 = .ok (.aload_n 0, 1) := by decide +kernel
theorem dX13_init_89 : decode cX13_init 89 = .ok (.bipush 100, 2) := by decide +kernel
theorem dX13_init_91 : decode cX13_init 91 = .ok (.newarray .int, 2) := by decide +kernel
theorem dX13_init_93 : decode cX13_init 93 = .ok (.putfield 41, 3) := by decide +kernel
theorem dX13_init_96 : decode cX13_init 96 = .ok (.aload_n 0, 1) := by decide +kernel
theorem dX13_init_97 : decode cX13_init 97 = .ok (.bipush 9, 2) := by decide +kernel
theorem dX13_init_99 : decode cX13_init 99 = .ok (.anewarray 44, 3) := by decide +kernel
theorem dX13_init_102 : decode cX13_init 102 = .ok (.dup, 1) := by decide +kernel
theorem dX13_init_103 : decode cX13_init 103 = .ok (.iconst 0, 1) := by decide +kernel
theorem dX13_init_104 : decode cX13_init 104 = .ok (.ldc 46, 2) := by decide +kernel
theorem dX13_init_106 : decode cX13_init 106 = .ok (.aastore, 1) := by decide +kernel
theorem dX13_init_107 : decode cX13_init 107 = .ok (.dup, 1) := by decide +kernel
theorem dX13_init_108 : decode cX13_init 108 = .ok (.iconst 1, 1) := by decide +kernel
theorem dX13_init_109 : decode cX13_init 109 = .ok (.ldc 48, 2) := by decide +kernel
theorem dX13_init_111 : decode cX13_init 111 = .ok (.aastore, 1) := by decide +kernel
theorem dX13_init_112 : decode cX13_init 112 = .ok (.dup, 1) := by decide +kernel
theorem dX13_init_113 : decode cX13_init 113 = .ok (.iconst 2, 1) := by decide +kernel
theorem dX13_init_114 : decode cX13_init 114 = .ok (.ldc 50, 2) := by decide +kernel
theorem dX13_init_116 : decode cX13_init 116 = .ok (.aastore, 1) := by decide +kernel
theorem dX13_init_117 : decode cX13_init 117 = .ok (.dup, 1) := by decide +kernel
theorem dX13_init_118 : decode cX13_init 118 = .ok (.iconst 3, 1) := by decide +kernel
theorem dX13_init_119 : decode cX13_init 119 = .ok (.ldc 52, 2) := by decide +kernel
theorem dX13_init_121 : decode cX13_init 121 = .ok (.aastore, 1) := by decide +kernel
theorem dX13_init_122 : decode cX13_init 122 = .ok (.dup, 1) := by decide +kernel
theorem dX13_init_123 : decode cX13_init 123 = .ok (.iconst 4, 1) := by decide +kernel
theorem dX13_init_124 : decode cX13_init 124 = .ok (.ldc 54, 2) := by decide +kernel
theorem dX13_init_126 : decode cX13_init 126 = .ok (.aastore, 1) := by decide +kernel
theorem dX13_init_127 : decode cX13_init 127 = .ok (.dup, 1) := by decide +kernel
theorem dX13_init_128 : decode cX13_init 128 = .ok (.iconst 5, 1) := by decide +kernel
theorem dX13_init_129 : decode cX13_init 129 = .ok (.ldc 56, 2) := by decide +kernel
theorem dX13_init_131 : decode cX13_init 131 = .ok (.aastore, 1) := by decide +kernel
theorem dX13_init_132 : decode cX13_init 132 = .ok (.dup, 1) := by decide +kernel
theorem dX13_init_133 : decode cX13_init 133 = .ok (.bipush 6, 2) := by decide +kernel
theorem dX13_init_135 : decode cX13_init 135 = .ok (.ldc 58, 2) := by decide +kernel
theorem dX13_init_137 : decode cX13_init 137 = .ok (.aastore, 1) := by decide +kernel
theorem dX13_init_138 : decode cX13_init 138 = .ok (.dup, 1) := by decide +kernel
theorem dX13_init_139 : decode cX13_init 139 = .ok (.bipush 7, 2) := by decide +kernel
theorem dX13_init_141 : decode cX13_init 141 = .ok (.ldc 60, 2) := by decide +kernel
theorem dX13_init_143 : decode cX13_init 143 = .ok (.aastore, 1) := by decide +kernel
theorem dX13_init_144 : decode cX13_init 144 = .ok (.dup, 1) := by decide +kernel
theorem dX13_init_145 : decode cX13_init 145 = .ok (.bipush 8, 2) := by decide +kernel
theorem dX13_init_147 : decode cX13_init 147 = .ok (.ldc 62, 2) := by decide +kernel
theorem dX13_init_149 : decode cX13_init 149 = .ok (.aastore, 1) := by decide +kernel
theorem dX13_init_150 : decode cX13_init 150 = .ok (.putfield 64, 3) := by decide +kernel
theorem dX13_init_153 : decode cX13_init 153 = .ok (.aload_n 0, 1) := by decide +kernel
theorem dX13_init_154 : decode cX13_init 154 = .ok (.bipush 6, 2) := by decide +kernel
theorem dX13_init_156 : decode cX13_init 156 = .ok (.invokevirtual 68, 3) := by decide +kernel
theorem dX13_init_159 : decode cX13_init 159 = .ok (.aload_n 0, 1) := by decide +kernel
theorem dX13_init_160 : decode cX13_init 160 = .ok (.getfield 28, 3) := by decide +kernel
theorem dX13_init_163 : decode cX13_init 163 = .ok (.bipush 11, 2) := by decide +kernel
theorem dX13_init_165 : decode cX13_init 165 = .ok (.iconst 3, 1) := by decide +kernel
theorem dX13_init_166 : decode cX13_init 166 = .ok (.iastore, 1) := by decide +kernel
theorem dX13_init_167 : decode cX13_init 167 = .ok (.aload_n 0, 1) := by decide +kernel
theorem dX13_init_168 : decode cX13_init 168 = .ok (.getfield 28, 3) := by decide +kernel
theorem dX13_init_171 : decode cX13_init 171 = .ok (.bipush 28, 2) := by decide +kernel
theorem dX13_init_173 : decode cX13_init 173 = .ok (.iconst 4, 1) := by decide +kernel
theorem dX13_init_174 : decode cX13_init 174 = .ok (.iastore, 1) := by decide +kernel
theorem dX13_init_175 : decode cX13_init 175 = .ok (.aload_n 0, 1) := by decide +kernel
theorem dX13_init_176 : decode cX13_init 176 = .ok (.getfield 28, 3) := by decide +kernel
theorem dX13_init_179 : decode cX13_init 179 = .ok (.bipush 14, 2) := by decide +kernel
theorem dX13_init_181 : decode cX13_init 181 = .ok (.iconst 2, 1) := by decide +kernel
theorem dX13_init_182 : decode cX13_init 182 = .ok (.iastore, 1) := by decide +kernel
theorem dX13_init_183 : decode cX13_init 183 = .ok (.aload_n 0, 1) := by decide +kernel
theorem dX13_init_184 : decode cX13_init 184 = .ok (.iconst 0, 1) := by decide +kernel
theorem dX13_init_185 : decode cX13_init 185 = .ok (.iconst 3, 1) := by decide +kernel
theorem dX13_init_186 : decode cX13_init 186 = .ok (.bipush 10, 2) := by decide +kernel
theorem dX13_init_188 : decode cX13_init 188 = .ok (.bipush 6, 2) := by decide +kernel
theorem dX13_init_190 : decode cX13_init 190 = .ok (.invokevirtual 72, 3) := by decide +kernel
theorem dX13_init_193 : decode cX13_init 193 = .ok (.aload_n 0, 1) := by decide +kernel
theorem dX13_init_194 : decode cX13_init 194 = .ok (.iconst 2, 1) := by decide +kernel
theorem dX13_init_195 : decode cX13_init 195 = .ok (.iconst 5, 1) := by decide +kernel
theorem dX13_init_196 : decode cX13_init 196 = .ok (.iconst 4, 1) := by decide +kernel
theorem dX13_init_197 : decode cX13_init 197 = .ok (.iconst 2, 1) := by decide +kernel
theorem dX13_init_198 : decode cX13_init 198 = .ok (.invokevirtual 72, 3) := by decide +kernel
theorem dX13_init_201 : decode cX13_init 201 = .ok (.aload_n 0, 1) := by decide +kernel
theorem dX13_init_202 : decode cX13_init 202 = .ok (.iconst 2, 1) := by decide +kernel
theorem dX13_init_203 : decode cX13_init 203 = .ok (.iconst 2, 1) := by decide +kernel
theorem dX13_init_204 : decode cX13_init 204 = .ok (.iconst 3, 1) := by decide +kernel
theorem dX13_init_205 : decode cX13_init 205 = .ok (.bipush 20, 2) := by decide +kernel
theorem dX13_init_207 : decode cX13_init 207 = .ok (.invokevirtual 76, 3) := by decide +kernel
theorem dX13_init_210 : decode cX13_init 210 = .ok (.aload_n 0, 1) := by decide +kernel
theorem dX13_init_211 : decode cX13_init 211 = .ok (.iconst 5, 1) := by decide +kernel
theorem dX13_init_212 : decode cX13_init 212 = .ok (.iconst 1, 1) := by decide +kernel
theorem dX13_init_213 : decode cX13_init 213 = .ok (.iconst 1, 1) := by decide +kernel
theorem dX13_init_214 : decode cX13_init 214 = .ok (.bipush 30, 2) := by decide +kernel
theorem dX13_init_216 : decode cX13_init 216 = .ok (.invokevirtual 76, 3) := by decide +kernel
theorem dX13_init_219 : decode cX13_init 219 = .ok (.aload_n 0, 1) := by decide +kernel
theorem dX13_init_220 : decode cX13_init 220 = .ok (.iconst 1, 1) := by decide +kernel
theorem dX13_init_221 : decode cX13_init 221 = .ok (.iconst 3, 1) := by decide +kernel
theorem dX13_init_222 : decode cX13_init 222 = .ok (.iconst 2, 1) := by decide +kernel
theorem dX13_init_223 : decode cX13_init 223 = .ok (.bipush 15, 2) := by decide +kernel
theorem dX13_init_225 : decode cX13_init 225 = .ok (.invokevirtual 76, 3) := by decide +kernel
theorem dX13_init_228 : decode cX13_init 228 = .ok (.return_, 1) := by decide +kernel
theorem dX13_thrown_0 : decode cX13_thrown 0 = .ok (.aload_n 0, 1) := by decide +kernel
theorem dX13_thrown_1 : decode cX13_thrown 1 = .ok (.getfield 79, 3) := by decide +kernel
theorem dX13_thrown_4 : decode cX13_thrown 4 = .ok (.ireturn, 1) := by decide +kernel
theorem dX13_inRange_0 : decode cX13_inRange 0 = .ok (.iload_n 0, 1) := by decide +kernel
theorem dX13_inRange_1 : decode cX13_inRange 1 = .ok (.iload_n 1, 1) := by decide +kernel
theorem dX13_inRange_2 : decode cX13_inRange 2 = .ok (.if_icmp .lt 12, 3) := by decide +kernel
theorem dX13_inRange_5 : decode cX13_inRange 5 = .ok (.iload_n 0, 1) := by decide +kernel
theorem dX13_inRange_6 : decode cX13_inRange 6 = .ok (.iload_n 2, 1) := by decide +kernel
theorem dX13_inRange_7 : decode cX13_inRange 7 = .ok (.if_icmp .gt 7, 3) := by decide +kernel
theorem dX13_inRange_10 : decode cX13_inRange 10 = .ok (.iconst 1, 1) := by decide +kernel
theorem dX13_inRange_11 : decode cX13_inRange 11 = .ok (.goto 4, 3) := by decide +kernel
theorem dX13_inRange_14 : decode cX13_inRange 14 = .ok (.iconst 0, 1) := by decide +kernel
theorem dX13_inRange_15 : decode cX13_inRange 15 = .ok (.ireturn, 1) := by decide +kernel
theorem dX13_lacks_0 : decode cX13_lacks 0 = .ok (.aload_n 0, 1) := by decide +kernel
theorem dX13_lacks_1 : decode cX13_lacks 1 = .ok (.iload_n 1, 1) := by decide +kernel
theorem dX13_lacks_2 : decode cX13_lacks 2 = .ok (.ifCond .eq 7, 3) := by decide +kernel
theorem dX13_lacks_5 : decode cX13_lacks 5 = .ok (.iconst 0, 1) := by decide +kernel
theorem dX13_lacks_6 : decode cX13_lacks 6 = .ok (.goto 4, 3) := by decide +kernel
theorem dX13_lacks_9 : decode cX13_lacks 9 = .ok (.iconst 1, 1) := by decide +kernel
theorem dX13_lacks_10 : decode cX13_lacks 10 = .ok (.putfield 79, 3) := by decide +kernel
theorem dX13_lacks_13 : decode cX13_lacks 13 = .ok (.iload_n 1, 1) := by decide +kernel
theorem dX13_lacks_14 : decode cX13_lacks 14 = .ok (.ifCond .ne 7, 3) := by decide +kernel
theorem dX13_lacks_17 : decode cX13_lacks 17 = .ok (.iconst 1, 1) := by decide +kernel
theorem dX13_lacks_18 : decode cX13_lacks 18 = .ok (.goto 4, 3) := by decide +kernel
theorem dX13_lacks_21 : decode cX13_lacks 21 = .ok (.iconst 0, 1) := by decide +kernel
theorem dX13_lacks_22 : decode cX13_lacks 22 = .ok (.ireturn, 1) := by decide +kernel
theorem dX13_lacksBoth_0 : decode cX13_lacksBoth 0 = .ok (.aload_n 0, 1) := by decide +kernel
theorem dX13_lacksBoth_1 : decode cX13_lacksBoth 1 = .ok (.iload_n 1, 1) := by decide +kernel
theorem dX13_lacksBoth_2 : decode cX13_lacksBoth 2 = .ok (.invokevirtual 82, 3) := by decide +kernel
theorem dX13_lacksBoth_5 : decode cX13_lacksBoth 5 = .ok (.ifCond .eq 5, 3) := by decide +kernel
theorem dX13_lacksBoth_8 : decode cX13_lacksBoth 8 = .ok (.iconst 1, 1) := by decide +kernel
theorem dX13_lacksBoth_9 : decode cX13_lacksBoth 9 = .ok (.ireturn, 1) := by decide +kernel
theorem dX13_lacksBoth_10 : decode cX13_lacksBoth 10 = .ok (.aload_n 0, 1) := by decide +kernel
theorem dX13_lacksBoth_11 : decode cX13_lacksBoth 11 = .ok (.iload_n 2, 1) := by decide +kernel
theorem dX13_lacksBoth_12 : decode cX13_lacksBoth 12 = .ok (.ifCond .eq 7, 3) := by decide +kernel
theorem dX13_lacksBoth_15 : decode cX13_lacksBoth 15 = .ok (.iconst 0, 1) := by decide +kernel
theorem dX13_lacksBoth_16 : decode cX13_lacksBoth 16 = .ok (.goto 4, 3) := by decide +kernel
theorem dX13_lacksBoth_19 : decode cX13_lacksBoth 19 = .ok (.iconst 2, 1) := by decide +kernel
theorem dX13_lacksBoth_20 : decode cX13_lacksBoth 20 = .ok (.putfield 79, 3) := by decide +kernel
theorem dX13_lacksBoth_23 : decode cX13_lacksBoth 23 = .ok (.aload_n 0, 1) := by decide +kernel
theorem dX13_lacksBoth_24 : decode cX13_lacksBoth 24 = .ok (.getfield 79, 3) := by decide +kernel
theorem dX13_lacksBoth_27 : decode cX13_lacksBoth 27 = .ok (.ifCond .eq 7, 3) := by decide +kernel
theorem dX13_lacksBoth_30 : decode cX13_lacksBoth 30 = .ok (.iconst 1, 1) := by decide +kernel
theorem dX13_lacksBoth_31 : decode cX13_lacksBoth 31 = .ok (.goto 4, 3) := by decide +kernel
theorem dX13_lacksBoth_34 : decode cX13_lacksBoth 34 = .ok (.iconst 0, 1) := by decide +kernel
theorem dX13_lacksBoth_35 : decode cX13_lacksBoth 35 = .ok (.ireturn, 1) := by decide +kernel
theorem dX13_sizeOf_0 : decode cX13_sizeOf 0 = .ok (.iload_n 0, 1) := by decide +kernel
theorem dX13_sizeOf_1 : decode cX13_sizeOf 1 = .ok (.ifCond .ge 8, 3) := by decide +kernel
theorem dX13_sizeOf_4 : decode cX13_sizeOf 4 = .ok (.iload_n 0, 1) := by decide +kernel
theorem dX13_sizeOf_5 : decode cX13_sizeOf 5 = .ok (.ineg, 1) := by decide +kernel
theorem dX13_sizeOf_6 : decode cX13_sizeOf 6 = .ok (.goto 4, 3) := by decide +kernel
theorem dX13_sizeOf_9 : decode cX13_sizeOf 9 = .ok (.iload_n 0, 1) := by decide +kernel
theorem dX13_sizeOf_10 : decode cX13_sizeOf 10 = .ok (.ireturn, 1) := by decide +kernel
theorem dX13_least_0 : decode cX13_least 0 = .ok (.iload_n 0, 1) := by decide +kernel
theorem dX13_least_1 : decode cX13_least 1 = .ok (.iload_n 1, 1) := by decide +kernel
theorem dX13_least_2 : decode cX13_least 2 = .ok (.if_icmp .ge 7, 3) := by decide +kernel
theorem dX13_least_5 : decode cX13_least 5 = .ok (.iload_n 0, 1) := by decide +kernel
theorem dX13_least_6 : decode cX13_least 6 = .ok (.goto 4, 3) := by decide +kernel
theorem dX13_least_9 : decode cX13_least 9 = .ok (.iload_n 1, 1) := by decide +kernel
theorem dX13_least_10 : decode cX13_least 10 = .ok (.ireturn, 1) := by decide +kernel
theorem dX13_most_0 : decode cX13_most 0 = .ok (.iload_n 0, 1) := by decide +kernel
theorem dX13_most_1 : decode cX13_most 1 = .ok (.iload_n 1, 1) := by decide +kernel
theorem dX13_most_2 : decode cX13_most 2 = .ok (.if_icmp .le 7, 3) := by decide +kernel
theorem dX13_most_5 : decode cX13_most 5 = .ok (.iload_n 0, 1) := by decide +kernel
theorem dX13_most_6 : decode cX13_most 6 = .ok (.goto 4, 3) := by decide +kernel
theorem dX13_most_9 : decode cX13_most 9 = .ok (.iload_n 1, 1) := by decide +kernel
theorem dX13_most_10 : decode cX13_most 10 = .ok (.ireturn, 1) := by decide +kernel
theorem dX13_begin_0 : decode cX13_begin 0 = .ok (.iconst 0, 1) := by decide +kernel
theorem dX13_begin_1 : decode cX13_begin 1 = .ok (.istore_n 2, 1) := by decide +kernel
theorem dX13_begin_2 : decode cX13_begin 2 = .ok (.iload_n 2, 1) := by decide +kernel
theorem dX13_begin_3 : decode cX13_begin 3 = .ok (.sipush 377, 3) := by decide +kernel
theorem dX13_begin_6 : decode cX13_begin 6 = .ok (.if_icmp .ge 16, 3) := by decide +kernel
theorem dX13_begin_9 : decode cX13_begin 9 = .ok (.aload_n 0, 1) := by decide +kernel
theorem dX13_begin_10 : decode cX13_begin 10 = .ok (.getfield 28, 3) := by decide +kernel
theorem dX13_begin_13 : decode cX13_begin 13 = .ok (.iload_n 2, 1) := by decide +kernel
theorem dX13_begin_14 : decode cX13_begin 14 = .ok (.iconst 0, 1) := by decide +kernel
theorem dX13_begin_15 : decode cX13_begin 15 = .ok (.iastore, 1) := by decide +kernel
theorem dX13_begin_16 : decode cX13_begin 16 = .ok (.iinc 2 1, 3) := by decide +kernel
theorem dX13_begin_19 : decode cX13_begin 19 = .ok (.goto (-17), 3) := by decide +kernel
theorem dX13_begin_22 : decode cX13_begin 22 = .ok (.aload_n 0, 1) := by decide +kernel
theorem dX13_begin_23 : decode cX13_begin 23 = .ok (.getfield 28, 3) := by decide +kernel
theorem dX13_begin_26 : decode cX13_begin 26 = .ok (.iconst 1, 1) := by decide +kernel
theorem dX13_begin_27 : decode cX13_begin 27 = .ok (.iload_n 1, 1) := by decide +kernel
theorem dX13_begin_28 : decode cX13_begin 28 = .ok (.iastore, 1) := by decide +kernel
theorem dX13_begin_29 : decode cX13_begin 29 = .ok (.return_, 1) := by decide +kernel
theorem dX13_addBarge_0 : decode cX13_addBarge 0 = .ok (.aload_n 0, 1) := by decide +kernel
theorem dX13_addBarge_1 : decode cX13_addBarge 1 = .ok (.getfield 28, 3) := by decide +kernel
theorem dX13_addBarge_4 : decode cX13_addBarge 4 = .ok (.iconst 2, 1) := by decide +kernel
theorem dX13_addBarge_5 : decode cX13_addBarge 5 = .ok (.iaload, 1) := by decide +kernel
theorem dX13_addBarge_6 : decode cX13_addBarge 6 = .ok (.istore 5, 2) := by decide +kernel
theorem dX13_addBarge_8 : decode cX13_addBarge 8 = .ok (.aload_n 0, 1) := by decide +kernel
theorem dX13_addBarge_9 : decode cX13_addBarge 9 = .ok (.getfield 28, 3) := by decide +kernel
theorem dX13_addBarge_12 : decode cX13_addBarge 12 = .ok (.iconst 2, 1) := by decide +kernel
theorem dX13_addBarge_13 : decode cX13_addBarge 13 = .ok (.dup2, 1) := by decide +kernel
theorem dX13_addBarge_14 : decode cX13_addBarge 14 = .ok (.iaload, 1) := by decide +kernel
theorem dX13_addBarge_15 : decode cX13_addBarge 15 = .ok (.iconst 1, 1) := by decide +kernel
theorem dX13_addBarge_16 : decode cX13_addBarge 16 = .ok (.iadd, 1) := by decide +kernel
theorem dX13_addBarge_17 : decode cX13_addBarge 17 = .ok (.iastore, 1) := by decide +kernel
theorem dX13_addBarge_18 : decode cX13_addBarge 18 = .ok (.aload_n 0, 1) := by decide +kernel
theorem dX13_addBarge_19 : decode cX13_addBarge 19 = .ok (.iload 5, 2) := by decide +kernel
theorem dX13_addBarge_21 : decode cX13_addBarge 21 = .ok (.iconst 0, 1) := by decide +kernel
theorem dX13_addBarge_22 : decode cX13_addBarge 22 = .ok (.iload_n 1, 1) := by decide +kernel
theorem dX13_addBarge_23 : decode cX13_addBarge 23 = .ok (.invokevirtual 86, 3) := by decide +kernel
theorem dX13_addBarge_26 : decode cX13_addBarge 26 = .ok (.aload_n 0, 1) := by decide +kernel
theorem dX13_addBarge_27 : decode cX13_addBarge 27 = .ok (.iload 5, 2) := by decide +kernel
theorem dX13_addBarge_29 : decode cX13_addBarge 29 = .ok (.iconst 1, 1) := by decide +kernel
theorem dX13_addBarge_30 : decode cX13_addBarge 30 = .ok (.iload_n 1, 1) := by decide +kernel
theorem dX13_addBarge_31 : decode cX13_addBarge 31 = .ok (.invokevirtual 86, 3) := by decide +kernel
theorem dX13_addBarge_34 : decode cX13_addBarge 34 = .ok (.aload_n 0, 1) := by decide +kernel
theorem dX13_addBarge_35 : decode cX13_addBarge 35 = .ok (.iload 5, 2) := by decide +kernel
theorem dX13_addBarge_37 : decode cX13_addBarge 37 = .ok (.iconst 2, 1) := by decide +kernel
theorem dX13_addBarge_38 : decode cX13_addBarge 38 = .ok (.iload_n 2, 1) := by decide +kernel
theorem dX13_addBarge_39 : decode cX13_addBarge 39 = .ok (.invokevirtual 86, 3) := by decide +kernel
theorem dX13_addBarge_42 : decode cX13_addBarge 42 = .ok (.aload_n 0, 1) := by decide +kernel
theorem dX13_addBarge_43 : decode cX13_addBarge 43 = .ok (.iload 5, 2) := by decide +kernel
theorem dX13_addBarge_45 : decode cX13_addBarge 45 = .ok (.iconst 3, 1) := by decide +kernel
theorem dX13_addBarge_46 : decode cX13_addBarge 46 = .ok (.iload_n 3, 1) := by decide +kernel
theorem dX13_addBarge_47 : decode cX13_addBarge 47 = .ok (.invokevirtual 86, 3) := by decide +kernel
theorem dX13_addBarge_50 : decode cX13_addBarge 50 = .ok (.aload_n 0, 1) := by decide +kernel
theorem dX13_addBarge_51 : decode cX13_addBarge 51 = .ok (.iload 5, 2) := by decide +kernel
theorem dX13_addBarge_53 : decode cX13_addBarge 53 = .ok (.iconst 4, 1) := by decide +kernel
theorem dX13_addBarge_54 : decode cX13_addBarge 54 = .ok (.iload 4, 2) := by decide +kernel
theorem dX13_addBarge_56 : decode cX13_addBarge 56 = .ok (.invokevirtual 86, 3) := by decide +kernel
theorem dX13_addBarge_59 : decode cX13_addBarge 59 = .ok (.aload_n 0, 1) := by decide +kernel
theorem dX13_addBarge_60 : decode cX13_addBarge 60 = .ok (.getfield 28, 3) := by decide +kernel
theorem dX13_addBarge_63 : decode cX13_addBarge 63 = .ok (.bipush 7, 2) := by decide +kernel
theorem dX13_addBarge_65 : decode cX13_addBarge 65 = .ok (.dup2, 1) := by decide +kernel
theorem dX13_addBarge_66 : decode cX13_addBarge 66 = .ok (.iaload, 1) := by decide +kernel
theorem dX13_addBarge_67 : decode cX13_addBarge 67 = .ok (.iload 4, 2) := by decide +kernel
theorem dX13_addBarge_69 : decode cX13_addBarge 69 = .ok (.iadd, 1) := by decide +kernel
theorem dX13_addBarge_70 : decode cX13_addBarge 70 = .ok (.iastore, 1) := by decide +kernel
theorem dX13_addBarge_71 : decode cX13_addBarge 71 = .ok (.return_, 1) := by decide +kernel
theorem dX13_addOrder_0 : decode cX13_addOrder 0 = .ok (.aload_n 0, 1) := by decide +kernel
theorem dX13_addOrder_1 : decode cX13_addOrder 1 = .ok (.getfield 28, 3) := by decide +kernel
theorem dX13_addOrder_4 : decode cX13_addOrder 4 = .ok (.iconst 3, 1) := by decide +kernel
theorem dX13_addOrder_5 : decode cX13_addOrder 5 = .ok (.iaload, 1) := by decide +kernel
theorem dX13_addOrder_6 : decode cX13_addOrder 6 = .ok (.istore 5, 2) := by decide +kernel
theorem dX13_addOrder_8 : decode cX13_addOrder 8 = .ok (.aload_n 0, 1) := by decide +kernel
theorem dX13_addOrder_9 : decode cX13_addOrder 9 = .ok (.getfield 28, 3) := by decide +kernel
theorem dX13_addOrder_12 : decode cX13_addOrder 12 = .ok (.iconst 3, 1) := by decide +kernel
theorem dX13_addOrder_13 : decode cX13_addOrder 13 = .ok (.dup2, 1) := by decide +kernel
theorem dX13_addOrder_14 : decode cX13_addOrder 14 = .ok (.iaload, 1) := by decide +kernel
theorem dX13_addOrder_15 : decode cX13_addOrder 15 = .ok (.iconst 1, 1) := by decide +kernel
theorem dX13_addOrder_16 : decode cX13_addOrder 16 = .ok (.iadd, 1) := by decide +kernel
theorem dX13_addOrder_17 : decode cX13_addOrder 17 = .ok (.iastore, 1) := by decide +kernel
theorem dX13_addOrder_18 : decode cX13_addOrder 18 = .ok (.aload_n 0, 1) := by decide +kernel
theorem dX13_addOrder_19 : decode cX13_addOrder 19 = .ok (.iload 5, 2) := by decide +kernel
theorem dX13_addOrder_21 : decode cX13_addOrder 21 = .ok (.iconst 0, 1) := by decide +kernel
theorem dX13_addOrder_22 : decode cX13_addOrder 22 = .ok (.iload_n 1, 1) := by decide +kernel
theorem dX13_addOrder_23 : decode cX13_addOrder 23 = .ok (.invokevirtual 90, 3) := by decide +kernel
theorem dX13_addOrder_26 : decode cX13_addOrder 26 = .ok (.aload_n 0, 1) := by decide +kernel
theorem dX13_addOrder_27 : decode cX13_addOrder 27 = .ok (.iload 5, 2) := by decide +kernel
theorem dX13_addOrder_29 : decode cX13_addOrder 29 = .ok (.iconst 1, 1) := by decide +kernel
theorem dX13_addOrder_30 : decode cX13_addOrder 30 = .ok (.iload_n 2, 1) := by decide +kernel
theorem dX13_addOrder_31 : decode cX13_addOrder 31 = .ok (.invokevirtual 90, 3) := by decide +kernel
theorem dX13_addOrder_34 : decode cX13_addOrder 34 = .ok (.aload_n 0, 1) := by decide +kernel
theorem dX13_addOrder_35 : decode cX13_addOrder 35 = .ok (.iload 5, 2) := by decide +kernel
theorem dX13_addOrder_37 : decode cX13_addOrder 37 = .ok (.iconst 2, 1) := by decide +kernel
theorem dX13_addOrder_38 : decode cX13_addOrder 38 = .ok (.iload_n 3, 1) := by decide +kernel
theorem dX13_addOrder_39 : decode cX13_addOrder 39 = .ok (.invokevirtual 90, 3) := by decide +kernel
theorem dX13_addOrder_42 : decode cX13_addOrder 42 = .ok (.aload_n 0, 1) := by decide +kernel
theorem dX13_addOrder_43 : decode cX13_addOrder 43 = .ok (.iload 5, 2) := by decide +kernel
theorem dX13_addOrder_45 : decode cX13_addOrder 45 = .ok (.iconst 3, 1) := by decide +kernel
theorem dX13_addOrder_46 : decode cX13_addOrder 46 = .ok (.aload_n 0, 1) := by decide +kernel
theorem dX13_addOrder_47 : decode cX13_addOrder 47 = .ok (.getfield 28, 3) := by decide +kernel
theorem dX13_addOrder_50 : decode cX13_addOrder 50 = .ok (.iconst 0, 1) := by decide +kernel
theorem dX13_addOrder_51 : decode cX13_addOrder 51 = .ok (.iaload, 1) := by decide +kernel
theorem dX13_addOrder_52 : decode cX13_addOrder 52 = .ok (.iload 4, 2) := by decide +kernel
theorem dX13_addOrder_54 : decode cX13_addOrder 54 = .ok (.iadd, 1) := by decide +kernel
theorem dX13_addOrder_55 : decode cX13_addOrder 55 = .ok (.iconst 1, 1) := by decide +kernel
theorem dX13_addOrder_56 : decode cX13_addOrder 56 = .ok (.isub, 1) := by decide +kernel
theorem dX13_addOrder_57 : decode cX13_addOrder 57 = .ok (.invokevirtual 90, 3) := by decide +kernel
theorem dX13_addOrder_60 : decode cX13_addOrder 60 = .ok (.aload_n 0, 1) := by decide +kernel
theorem dX13_addOrder_61 : decode cX13_addOrder 61 = .ok (.iload 5, 2) := by decide +kernel
theorem dX13_addOrder_63 : decode cX13_addOrder 63 = .ok (.iconst 4, 1) := by decide +kernel
theorem dX13_addOrder_64 : decode cX13_addOrder 64 = .ok (.iconst 0, 1) := by decide +kernel
theorem dX13_addOrder_65 : decode cX13_addOrder 65 = .ok (.invokevirtual 90, 3) := by decide +kernel
theorem dX13_addOrder_68 : decode cX13_addOrder 68 = .ok (.aload_n 0, 1) := by decide +kernel
theorem dX13_addOrder_69 : decode cX13_addOrder 69 = .ok (.iload 5, 2) := by decide +kernel
theorem dX13_addOrder_71 : decode cX13_addOrder 71 = .ok (.iconst 5, 1) := by decide +kernel
theorem dX13_addOrder_72 : decode cX13_addOrder 72 = .ok (.iconst (-1), 1) := by decide +kernel
theorem dX13_addOrder_73 : decode cX13_addOrder 73 = .ok (.invokevirtual 90, 3) := by decide +kernel
theorem dX13_addOrder_76 : decode cX13_addOrder 76 = .ok (.aload_n 0, 1) := by decide +kernel
theorem dX13_addOrder_77 : decode cX13_addOrder 77 = .ok (.iload 5, 2) := by decide +kernel
theorem dX13_addOrder_79 : decode cX13_addOrder 79 = .ok (.bipush 6, 2) := by decide +kernel
theorem dX13_addOrder_81 : decode cX13_addOrder 81 = .ok (.iconst 0, 1) := by decide +kernel
theorem dX13_addOrder_82 : decode cX13_addOrder 82 = .ok (.invokevirtual 90, 3) := by decide +kernel
theorem dX13_addOrder_85 : decode cX13_addOrder 85 = .ok (.aload_n 0, 1) := by decide +kernel
theorem dX13_addOrder_86 : decode cX13_addOrder 86 = .ok (.iload 5, 2) := by decide +kernel
theorem dX13_addOrder_88 : decode cX13_addOrder 88 = .ok (.bipush 7, 2) := by decide +kernel
theorem dX13_addOrder_90 : decode cX13_addOrder 90 = .ok (.iload_n 3, 1) := by decide +kernel
theorem dX13_addOrder_91 : decode cX13_addOrder 91 = .ok (.invokevirtual 90, 3) := by decide +kernel
theorem dX13_addOrder_94 : decode cX13_addOrder 94 = .ok (.return_, 1) := by decide +kernel
theorem dX13_of_0 : decode cX13_of 0 = .ok (.aload_n 0, 1) := by decide +kernel
theorem dX13_of_1 : decode cX13_of 1 = .ok (.getfield 28, 3) := by decide +kernel
theorem dX13_of_4 : decode cX13_of 4 = .ok (.bipush 72, 2) := by decide +kernel
theorem dX13_of_6 : decode cX13_of 6 = .ok (.bipush 7, 2) := by decide +kernel
theorem dX13_of_8 : decode cX13_of 8 = .ok (.iload_n 1, 1) := by decide +kernel
theorem dX13_of_9 : decode cX13_of 9 = .ok (.imul, 1) := by decide +kernel
theorem dX13_of_10 : decode cX13_of 10 = .ok (.iadd, 1) := by decide +kernel
theorem dX13_of_11 : decode cX13_of 11 = .ok (.iload_n 2, 1) := by decide +kernel
theorem dX13_of_12 : decode cX13_of 12 = .ok (.iadd, 1) := by decide +kernel
theorem dX13_of_13 : decode cX13_of 13 = .ok (.iaload, 1) := by decide +kernel
theorem dX13_of_14 : decode cX13_of 14 = .ok (.ireturn, 1) := by decide +kernel
theorem dX13_lay_0 : decode cX13_lay 0 = .ok (.aload_n 0, 1) := by decide +kernel
theorem dX13_lay_1 : decode cX13_lay 1 = .ok (.getfield 28, 3) := by decide +kernel
theorem dX13_lay_4 : decode cX13_lay 4 = .ok (.bipush 72, 2) := by decide +kernel
theorem dX13_lay_6 : decode cX13_lay 6 = .ok (.bipush 7, 2) := by decide +kernel
theorem dX13_lay_8 : decode cX13_lay 8 = .ok (.iload_n 1, 1) := by decide +kernel
theorem dX13_lay_9 : decode cX13_lay 9 = .ok (.imul, 1) := by decide +kernel
theorem dX13_lay_10 : decode cX13_lay 10 = .ok (.iadd, 1) := by decide +kernel
theorem dX13_lay_11 : decode cX13_lay 11 = .ok (.iload_n 2, 1) := by decide +kernel
theorem dX13_lay_12 : decode cX13_lay 12 = .ok (.iadd, 1) := by decide +kernel
theorem dX13_lay_13 : decode cX13_lay 13 = .ok (.iload_n 3, 1) := by decide +kernel
theorem dX13_lay_14 : decode cX13_lay 14 = .ok (.iastore, 1) := by decide +kernel
theorem dX13_lay_15 : decode cX13_lay 15 = .ok (.return_, 1) := by decide +kernel
theorem dX13_add_0 : decode cX13_add 0 = .ok (.aload_n 0, 1) := by decide +kernel
theorem dX13_add_1 : decode cX13_add 1 = .ok (.iload_n 1, 1) := by decide +kernel
theorem dX13_add_2 : decode cX13_add 2 = .ok (.iload_n 2, 1) := by decide +kernel
theorem dX13_add_3 : decode cX13_add 3 = .ok (.aload_n 0, 1) := by decide +kernel
theorem dX13_add_4 : decode cX13_add 4 = .ok (.iload_n 1, 1) := by decide +kernel
theorem dX13_add_5 : decode cX13_add 5 = .ok (.iload_n 2, 1) := by decide +kernel
theorem dX13_add_6 : decode cX13_add 6 = .ok (.invokevirtual 93, 3) := by decide +kernel
theorem dX13_add_9 : decode cX13_add 9 = .ok (.iload_n 3, 1) := by decide +kernel
theorem dX13_add_10 : decode cX13_add 10 = .ok (.iadd, 1) := by decide +kernel
theorem dX13_add_11 : decode cX13_add 11 = .ok (.invokevirtual 86, 3) := by decide +kernel
theorem dX13_add_14 : decode cX13_add 14 = .ok (.return_, 1) := by decide +kernel
theorem dX13_ofOrder_0 : decode cX13_ofOrder 0 = .ok (.aload_n 0, 1) := by decide +kernel
theorem dX13_ofOrder_1 : decode cX13_ofOrder 1 = .ok (.getfield 28, 3) := by decide +kernel
theorem dX13_ofOrder_4 : decode cX13_ofOrder 4 = .ok (.bipush 107, 2) := by decide +kernel
theorem dX13_ofOrder_6 : decode cX13_ofOrder 6 = .ok (.bipush 9, 2) := by decide +kernel
theorem dX13_ofOrder_8 : decode cX13_ofOrder 8 = .ok (.iload_n 1, 1) := by decide +kernel
theorem dX13_ofOrder_9 : decode cX13_ofOrder 9 = .ok (.imul, 1) := by decide +kernel
theorem dX13_ofOrder_10 : decode cX13_ofOrder 10 = .ok (.iadd, 1) := by decide +kernel
theorem dX13_ofOrder_11 : decode cX13_ofOrder 11 = .ok (.iload_n 2, 1) := by decide +kernel
theorem dX13_ofOrder_12 : decode cX13_ofOrder 12 = .ok (.iadd, 1) := by decide +kernel
theorem dX13_ofOrder_13 : decode cX13_ofOrder 13 = .ok (.iaload, 1) := by decide +kernel
theorem dX13_ofOrder_14 : decode cX13_ofOrder 14 = .ok (.ireturn, 1) := by decide +kernel
theorem dX13_layOrder_0 : decode cX13_layOrder 0 = .ok (.aload_n 0, 1) := by decide +kernel
theorem dX13_layOrder_1 : decode cX13_layOrder 1 = .ok (.getfield 28, 3) := by decide +kernel
theorem dX13_layOrder_4 : decode cX13_layOrder 4 = .ok (.bipush 107, 2) := by decide +kernel
theorem dX13_layOrder_6 : decode cX13_layOrder 6 = .ok (.bipush 9, 2) := by decide +kernel
theorem dX13_layOrder_8 : decode cX13_layOrder 8 = .ok (.iload_n 1, 1) := by decide +kernel
theorem dX13_layOrder_9 : decode cX13_layOrder 9 = .ok (.imul, 1) := by decide +kernel
theorem dX13_layOrder_10 : decode cX13_layOrder 10 = .ok (.iadd, 1) := by decide +kernel
theorem dX13_layOrder_11 : decode cX13_layOrder 11 = .ok (.iload_n 2, 1) := by decide +kernel
theorem dX13_layOrder_12 : decode cX13_layOrder 12 = .ok (.iadd, 1) := by decide +kernel
theorem dX13_layOrder_13 : decode cX13_layOrder 13 = .ok (.iload_n 3, 1) := by decide +kernel
theorem dX13_layOrder_14 : decode cX13_layOrder 14 = .ok (.iastore, 1) := by decide +kernel
theorem dX13_layOrder_15 : decode cX13_layOrder 15 = .ok (.return_, 1) := by decide +kernel
theorem dX13_isPlace_0 : decode cX13_isPlace 0 = .ok (.iload_n 1, 1) := by decide +kernel
theorem dX13_isPlace_1 : decode cX13_isPlace 1 = .ok (.iconst 0, 1) := by decide +kernel
theorem dX13_isPlace_2 : decode cX13_isPlace 2 = .ok (.aload_n 0, 1) := by decide +kernel
theorem dX13_isPlace_3 : decode cX13_isPlace 3 = .ok (.getfield 28, 3) := by decide +kernel
theorem dX13_isPlace_6 : decode cX13_isPlace 6 = .ok (.iconst 1, 1) := by decide +kernel
theorem dX13_isPlace_7 : decode cX13_isPlace 7 = .ok (.iaload, 1) := by decide +kernel
theorem dX13_isPlace_8 : decode cX13_isPlace 8 = .ok (.iconst 1, 1) := by decide +kernel
theorem dX13_isPlace_9 : decode cX13_isPlace 9 = .ok (.isub, 1) := by decide +kernel
theorem dX13_isPlace_10 : decode cX13_isPlace 10 = .ok (.invokestatic 97, 3) := by decide +kernel
theorem dX13_isPlace_13 : decode cX13_isPlace 13 = .ok (.ireturn, 1) := by decide +kernel
theorem dX13_isSection_0 : decode cX13_isSection 0 = .ok (.iload_n 1, 1) := by decide +kernel
theorem dX13_isSection_1 : decode cX13_isSection 1 = .ok (.iconst 0, 1) := by decide +kernel
theorem dX13_isSection_2 : decode cX13_isSection 2 = .ok (.aload_n 0, 1) := by decide +kernel
theorem dX13_isSection_3 : decode cX13_isSection 3 = .ok (.getfield 28, 3) := by decide +kernel
theorem dX13_isSection_6 : decode cX13_isSection 6 = .ok (.iconst 1, 1) := by decide +kernel
theorem dX13_isSection_7 : decode cX13_isSection 7 = .ok (.iaload, 1) := by decide +kernel
theorem dX13_isSection_8 : decode cX13_isSection 8 = .ok (.iconst 2, 1) := by decide +kernel
theorem dX13_isSection_9 : decode cX13_isSection 9 = .ok (.isub, 1) := by decide +kernel
theorem dX13_isSection_10 : decode cX13_isSection 10 = .ok (.invokestatic 97, 3) := by decide +kernel
theorem dX13_isSection_13 : decode cX13_isSection 13 = .ok (.ireturn, 1) := by decide +kernel
theorem dX13_isBarge_0 : decode cX13_isBarge 0 = .ok (.iload_n 1, 1) := by decide +kernel
theorem dX13_isBarge_1 : decode cX13_isBarge 1 = .ok (.iconst 0, 1) := by decide +kernel
theorem dX13_isBarge_2 : decode cX13_isBarge 2 = .ok (.aload_n 0, 1) := by decide +kernel
theorem dX13_isBarge_3 : decode cX13_isBarge 3 = .ok (.getfield 28, 3) := by decide +kernel
theorem dX13_isBarge_6 : decode cX13_isBarge 6 = .ok (.iconst 2, 1) := by decide +kernel
theorem dX13_isBarge_7 : decode cX13_isBarge 7 = .ok (.iaload, 1) := by decide +kernel
theorem dX13_isBarge_8 : decode cX13_isBarge 8 = .ok (.iconst 1, 1) := by decide +kernel
theorem dX13_isBarge_9 : decode cX13_isBarge 9 = .ok (.isub, 1) := by decide +kernel
theorem dX13_isBarge_10 : decode cX13_isBarge 10 = .ok (.invokestatic 97, 3) := by decide +kernel
theorem dX13_isBarge_13 : decode cX13_isBarge 13 = .ok (.ireturn, 1) := by decide +kernel
theorem dX13_isOrder_0 : decode cX13_isOrder 0 = .ok (.iload_n 1, 1) := by decide +kernel
theorem dX13_isOrder_1 : decode cX13_isOrder 1 = .ok (.iconst 0, 1) := by decide +kernel
theorem dX13_isOrder_2 : decode cX13_isOrder 2 = .ok (.aload_n 0, 1) := by decide +kernel
theorem dX13_isOrder_3 : decode cX13_isOrder 3 = .ok (.getfield 28, 3) := by decide +kernel
theorem dX13_isOrder_6 : decode cX13_isOrder 6 = .ok (.iconst 3, 1) := by decide +kernel
theorem dX13_isOrder_7 : decode cX13_isOrder 7 = .ok (.iaload, 1) := by decide +kernel
theorem dX13_isOrder_8 : decode cX13_isOrder 8 = .ok (.iconst 1, 1) := by decide +kernel
theorem dX13_isOrder_9 : decode cX13_isOrder 9 = .ok (.isub, 1) := by decide +kernel
theorem dX13_isOrder_10 : decode cX13_isOrder 10 = .ok (.invokestatic 97, 3) := by decide +kernel
theorem dX13_isOrder_13 : decode cX13_isOrder 13 = .ok (.ireturn, 1) := by decide +kernel
theorem dX13_isIn_0 : decode cX13_isIn 0 = .ok (.aload_n 0, 1) := by decide +kernel
theorem dX13_isIn_1 : decode cX13_isIn 1 = .ok (.iload_n 1, 1) := by decide +kernel
theorem dX13_isIn_2 : decode cX13_isIn 2 = .ok (.iconst 4, 1) := by decide +kernel
theorem dX13_isIn_3 : decode cX13_isIn 3 = .ok (.invokevirtual 101, 3) := by decide +kernel
theorem dX13_isIn_6 : decode cX13_isIn 6 = .ok (.iload_n 2, 1) := by decide +kernel
theorem dX13_isIn_7 : decode cX13_isIn 7 = .ok (.if_icmp .ne 7, 3) := by decide +kernel
theorem dX13_isIn_10 : decode cX13_isIn 10 = .ok (.iconst 1, 1) := by decide +kernel
theorem dX13_isIn_11 : decode cX13_isIn 11 = .ok (.goto 4, 3) := by decide +kernel
theorem dX13_isIn_14 : decode cX13_isIn 14 = .ok (.iconst 0, 1) := by decide +kernel
theorem dX13_isIn_15 : decode cX13_isIn 15 = .ok (.ireturn, 1) := by decide +kernel
theorem dX13_isInLock_0 : decode cX13_isInLock 0 = .ok (.aload_n 0, 1) := by decide +kernel
theorem dX13_isInLock_1 : decode cX13_isInLock 1 = .ok (.iload_n 1, 1) := by decide +kernel
theorem dX13_isInLock_2 : decode cX13_isInLock 2 = .ok (.bipush 6, 2) := by decide +kernel
theorem dX13_isInLock_4 : decode cX13_isInLock 4 = .ok (.invokevirtual 93, 3) := by decide +kernel
theorem dX13_isInLock_7 : decode cX13_isInLock 7 = .ok (.ifCond .le 7, 3) := by decide +kernel
theorem dX13_isInLock_10 : decode cX13_isInLock 10 = .ok (.iconst 1, 1) := by decide +kernel
theorem dX13_isInLock_11 : decode cX13_isInLock 11 = .ok (.goto 4, 3) := by decide +kernel
theorem dX13_isInLock_14 : decode cX13_isInLock 14 = .ok (.iconst 0, 1) := by decide +kernel
theorem dX13_isInLock_15 : decode cX13_isInLock 15 = .ok (.ireturn, 1) := by decide +kernel
theorem dX13_isFree_0 : decode cX13_isFree 0 = .ok (.aload_n 0, 1) := by decide +kernel
theorem dX13_isFree_1 : decode cX13_isFree 1 = .ok (.iload_n 1, 1) := by decide +kernel
theorem dX13_isFree_2 : decode cX13_isFree 2 = .ok (.invokevirtual 104, 3) := by decide +kernel
theorem dX13_isFree_5 : decode cX13_isFree 5 = .ok (.ifCond .ne 17, 3) := by decide +kernel
theorem dX13_isFree_8 : decode cX13_isFree 8 = .ok (.aload_n 0, 1) := by decide +kernel
theorem dX13_isFree_9 : decode cX13_isFree 9 = .ok (.iload_n 1, 1) := by decide +kernel
theorem dX13_isFree_10 : decode cX13_isFree 10 = .ok (.iconst 0, 1) := by decide +kernel
theorem dX13_isFree_11 : decode cX13_isFree 11 = .ok (.invokevirtual 93, 3) := by decide +kernel
theorem dX13_isFree_14 : decode cX13_isFree 14 = .ok (.iload_n 2, 1) := by decide +kernel
theorem dX13_isFree_15 : decode cX13_isFree 15 = .ok (.if_icmp .ne 7, 3) := by decide +kernel
theorem dX13_isFree_18 : decode cX13_isFree 18 = .ok (.iconst 1, 1) := by decide +kernel
theorem dX13_isFree_19 : decode cX13_isFree 19 = .ok (.goto 4, 3) := by decide +kernel
theorem dX13_isFree_22 : decode cX13_isFree 22 = .ok (.iconst 0, 1) := by decide +kernel
theorem dX13_isFree_23 : decode cX13_isFree 23 = .ok (.ireturn, 1) := by decide +kernel
theorem dX13_sails_0 : decode cX13_sails 0 = .ok (.aload_n 0, 1) := by decide +kernel
theorem dX13_sails_1 : decode cX13_sails 1 = .ok (.iload_n 1, 1) := by decide +kernel
theorem dX13_sails_2 : decode cX13_sails 2 = .ok (.iconst 1, 1) := by decide +kernel
theorem dX13_sails_3 : decode cX13_sails 3 = .ok (.invokevirtual 93, 3) := by decide +kernel
theorem dX13_sails_6 : decode cX13_sails 6 = .ok (.aload_n 0, 1) := by decide +kernel
theorem dX13_sails_7 : decode cX13_sails 7 = .ok (.iload_n 1, 1) := by decide +kernel
theorem dX13_sails_8 : decode cX13_sails 8 = .ok (.iconst 0, 1) := by decide +kernel
theorem dX13_sails_9 : decode cX13_sails 9 = .ok (.invokevirtual 93, 3) := by decide +kernel
theorem dX13_sails_12 : decode cX13_sails 12 = .ok (.if_icmp .eq 7, 3) := by decide +kernel
theorem dX13_sails_15 : decode cX13_sails 15 = .ok (.iconst 1, 1) := by decide +kernel
theorem dX13_sails_16 : decode cX13_sails 16 = .ok (.goto 4, 3) := by decide +kernel
theorem dX13_sails_19 : decode cX13_sails 19 = .ok (.iconst 0, 1) := by decide +kernel
theorem dX13_sails_20 : decode cX13_sails 20 = .ok (.ireturn, 1) := by decide +kernel
theorem dX13_sectionAhead_0 : decode cX13_sectionAhead 0 = .ok (.aload_n 0, 1) := by decide +kernel
theorem dX13_sectionAhead_1 : decode cX13_sectionAhead 1 = .ok (.iload_n 1, 1) := by decide +kernel
theorem dX13_sectionAhead_2 : decode cX13_sectionAhead 2 = .ok (.iconst 0, 1) := by decide +kernel
theorem dX13_sectionAhead_3 : decode cX13_sectionAhead 3 = .ok (.invokevirtual 93, 3) := by decide +kernel
theorem dX13_sectionAhead_6 : decode cX13_sectionAhead 6 = .ok (.istore_n 2, 1) := by decide +kernel
theorem dX13_sectionAhead_7 : decode cX13_sectionAhead 7 = .ok (.aload_n 0, 1) := by decide +kernel
theorem dX13_sectionAhead_8 : decode cX13_sectionAhead 8 = .ok (.iload_n 1, 1) := by decide +kernel
theorem dX13_sectionAhead_9 : decode cX13_sectionAhead 9 = .ok (.iconst 1, 1) := by decide +kernel
theorem dX13_sectionAhead_10 : decode cX13_sectionAhead 10 = .ok (.invokevirtual 93, 3) := by decide +kernel
theorem dX13_sectionAhead_13 : decode cX13_sectionAhead 13 = .ok (.iload_n 2, 1) := by decide +kernel
theorem dX13_sectionAhead_14 : decode cX13_sectionAhead 14 = .ok (.if_icmp .le 7, 3) := by decide +kernel
theorem dX13_sectionAhead_17 : decode cX13_sectionAhead 17 = .ok (.iload_n 2, 1) := by decide +kernel
theorem dX13_sectionAhead_18 : decode cX13_sectionAhead 18 = .ok (.goto 6, 3) := by decide +kernel
theorem dX13_sectionAhead_21 : decode cX13_sectionAhead 21 = .ok (.iload_n 2, 1) := by decide +kernel
theorem dX13_sectionAhead_22 : decode cX13_sectionAhead 22 = .ok (.iconst 1, 1) := by decide +kernel
theorem dX13_sectionAhead_23 : decode cX13_sectionAhead 23 = .ok (.isub, 1) := by decide +kernel
theorem dX13_sectionAhead_24 : decode cX13_sectionAhead 24 = .ok (.ireturn, 1) := by decide +kernel
theorem dX13_whoIsIn_0 : decode cX13_whoIsIn 0 = .ok (.iconst 0, 1) := by decide +kernel
theorem dX13_whoIsIn_1 : decode cX13_whoIsIn 1 = .ok (.istore_n 2, 1) := by decide +kernel
theorem dX13_whoIsIn_2 : decode cX13_whoIsIn 2 = .ok (.iload_n 2, 1) := by decide +kernel
theorem dX13_whoIsIn_3 : decode cX13_whoIsIn 3 = .ok (.aload_n 0, 1) := by decide +kernel
theorem dX13_whoIsIn_4 : decode cX13_whoIsIn 4 = .ok (.getfield 28, 3) := by decide +kernel
theorem dX13_whoIsIn_7 : decode cX13_whoIsIn 7 = .ok (.iconst 2, 1) := by decide +kernel
theorem dX13_whoIsIn_8 : decode cX13_whoIsIn 8 = .ok (.iaload, 1) := by decide +kernel
theorem dX13_whoIsIn_9 : decode cX13_whoIsIn 9 = .ok (.if_icmp .ge 28, 3) := by decide +kernel
theorem dX13_whoIsIn_12 : decode cX13_whoIsIn 12 = .ok (.aload_n 0, 1) := by decide +kernel
theorem dX13_whoIsIn_13 : decode cX13_whoIsIn 13 = .ok (.iload_n 2, 1) := by decide +kernel
theorem dX13_whoIsIn_14 : decode cX13_whoIsIn 14 = .ok (.invokevirtual 104, 3) := by decide +kernel
theorem dX13_whoIsIn_17 : decode cX13_whoIsIn 17 = .ok (.ifCond .eq 14, 3) := by decide +kernel
theorem dX13_whoIsIn_20 : decode cX13_whoIsIn 20 = .ok (.aload_n 0, 1) := by decide +kernel
theorem dX13_whoIsIn_21 : decode cX13_whoIsIn 21 = .ok (.iload_n 2, 1) := by decide +kernel
theorem dX13_whoIsIn_22 : decode cX13_whoIsIn 22 = .ok (.invokevirtual 108, 3) := by decide +kernel
theorem dX13_whoIsIn_25 : decode cX13_whoIsIn 25 = .ok (.iload_n 1, 1) := by decide +kernel
theorem dX13_whoIsIn_26 : decode cX13_whoIsIn 26 = .ok (.if_icmp .ne 5, 3) := by decide +kernel
theorem dX13_whoIsIn_29 : decode cX13_whoIsIn 29 = .ok (.iload_n 2, 1) := by decide +kernel
theorem dX13_whoIsIn_30 : decode cX13_whoIsIn 30 = .ok (.ireturn, 1) := by decide +kernel
theorem dX13_whoIsIn_31 : decode cX13_whoIsIn 31 = .ok (.iinc 2 1, 3) := by decide +kernel
theorem dX13_whoIsIn_34 : decode cX13_whoIsIn 34 = .ok (.goto (-32), 3) := by decide +kernel
theorem dX13_whoIsIn_37 : decode cX13_whoIsIn 37 = .ok (.iconst (-1), 1) := by decide +kernel
theorem dX13_whoIsIn_38 : decode cX13_whoIsIn 38 = .ok (.ireturn, 1) := by decide +kernel
theorem dX13_countAt_0 : decode cX13_countAt 0 = .ok (.iconst 0, 1) := by decide +kernel
theorem dX13_countAt_1 : decode cX13_countAt 1 = .ok (.istore_n 2, 1) := by decide +kernel
theorem dX13_countAt_2 : decode cX13_countAt 2 = .ok (.iconst 0, 1) := by decide +kernel
theorem dX13_countAt_3 : decode cX13_countAt 3 = .ok (.istore_n 3, 1) := by decide +kernel
theorem dX13_countAt_4 : decode cX13_countAt 4 = .ok (.iload_n 3, 1) := by decide +kernel
theorem dX13_countAt_5 : decode cX13_countAt 5 = .ok (.aload_n 0, 1) := by decide +kernel
theorem dX13_countAt_6 : decode cX13_countAt 6 = .ok (.getfield 28, 3) := by decide +kernel
theorem dX13_countAt_9 : decode cX13_countAt 9 = .ok (.iconst 2, 1) := by decide +kernel
theorem dX13_countAt_10 : decode cX13_countAt 10 = .ok (.iaload, 1) := by decide +kernel
theorem dX13_countAt_11 : decode cX13_countAt 11 = .ok (.if_icmp .ge 26, 3) := by decide +kernel
theorem dX13_countAt_14 : decode cX13_countAt 14 = .ok (.iload_n 2, 1) := by decide +kernel
theorem dX13_countAt_15 : decode cX13_countAt 15 = .ok (.aload_n 0, 1) := by decide +kernel
theorem dX13_countAt_16 : decode cX13_countAt 16 = .ok (.iload_n 3, 1) := by decide +kernel
theorem dX13_countAt_17 : decode cX13_countAt 17 = .ok (.iload_n 1, 1) := by decide +kernel
theorem dX13_countAt_18 : decode cX13_countAt 18 = .ok (.invokevirtual 112, 3) := by decide +kernel
theorem dX13_countAt_21 : decode cX13_countAt 21 = .ok (.ifCond .eq 7, 3) := by decide +kernel
theorem dX13_countAt_24 : decode cX13_countAt 24 = .ok (.iconst 1, 1) := by decide +kernel
theorem dX13_countAt_25 : decode cX13_countAt 25 = .ok (.goto 4, 3) := by decide +kernel
theorem dX13_countAt_28 : decode cX13_countAt 28 = .ok (.iconst 0, 1) := by decide +kernel
theorem dX13_countAt_29 : decode cX13_countAt 29 = .ok (.iadd, 1) := by decide +kernel
theorem dX13_countAt_30 : decode cX13_countAt 30 = .ok (.istore_n 2, 1) := by decide +kernel
theorem dX13_countAt_31 : decode cX13_countAt 31 = .ok (.iinc 3 1, 3) := by decide +kernel
theorem dX13_countAt_34 : decode cX13_countAt 34 = .ok (.goto (-30), 3) := by decide +kernel
theorem dX13_countAt_37 : decode cX13_countAt 37 = .ok (.iload_n 2, 1) := by decide +kernel
theorem dX13_countAt_38 : decode cX13_countAt 38 = .ok (.ireturn, 1) := by decide +kernel
theorem dX13_belongs_0 : decode cX13_belongs 0 = .ok (.aload_n 0, 1) := by decide +kernel
theorem dX13_belongs_1 : decode cX13_belongs 1 = .ok (.iload_n 1, 1) := by decide +kernel
theorem dX13_belongs_2 : decode cX13_belongs 2 = .ok (.iload_n 3, 1) := by decide +kernel
theorem dX13_belongs_3 : decode cX13_belongs 3 = .ok (.invokevirtual 116, 3) := by decide +kernel
theorem dX13_belongs_6 : decode cX13_belongs 6 = .ok (.ifCond .eq 17, 3) := by decide +kernel
theorem dX13_belongs_9 : decode cX13_belongs 9 = .ok (.aload_n 0, 1) := by decide +kernel
theorem dX13_belongs_10 : decode cX13_belongs 10 = .ok (.iload_n 1, 1) := by decide +kernel
theorem dX13_belongs_11 : decode cX13_belongs 11 = .ok (.iconst 5, 1) := by decide +kernel
theorem dX13_belongs_12 : decode cX13_belongs 12 = .ok (.invokevirtual 101, 3) := by decide +kernel
theorem dX13_belongs_15 : decode cX13_belongs 15 = .ok (.iload_n 2, 1) := by decide +kernel
theorem dX13_belongs_16 : decode cX13_belongs 16 = .ok (.if_icmp .ne 7, 3) := by decide +kernel
theorem dX13_belongs_19 : decode cX13_belongs 19 = .ok (.iconst 1, 1) := by decide +kernel
theorem dX13_belongs_20 : decode cX13_belongs 20 = .ok (.goto 4, 3) := by decide +kernel
theorem dX13_belongs_23 : decode cX13_belongs 23 = .ok (.iconst 0, 1) := by decide +kernel
theorem dX13_belongs_24 : decode cX13_belongs 24 = .ok (.ireturn, 1) := by decide +kernel
theorem dX13_countOf_0 : decode cX13_countOf 0 = .ok (.iconst 0, 1) := by decide +kernel
theorem dX13_countOf_1 : decode cX13_countOf 1 = .ok (.istore_n 3, 1) := by decide +kernel
theorem dX13_countOf_2 : decode cX13_countOf 2 = .ok (.iconst 0, 1) := by decide +kernel
theorem dX13_countOf_3 : decode cX13_countOf 3 = .ok (.istore 4, 2) := by decide +kernel
theorem dX13_countOf_5 : decode cX13_countOf 5 = .ok (.iload 4, 2) := by decide +kernel
theorem dX13_countOf_7 : decode cX13_countOf 7 = .ok (.aload_n 0, 1) := by decide +kernel
theorem dX13_countOf_8 : decode cX13_countOf 8 = .ok (.getfield 28, 3) := by decide +kernel
theorem dX13_countOf_11 : decode cX13_countOf 11 = .ok (.iconst 3, 1) := by decide +kernel
theorem dX13_countOf_12 : decode cX13_countOf 12 = .ok (.iaload, 1) := by decide +kernel
theorem dX13_countOf_13 : decode cX13_countOf 13 = .ok (.if_icmp .ge 28, 3) := by decide +kernel
theorem dX13_countOf_16 : decode cX13_countOf 16 = .ok (.iload_n 3, 1) := by decide +kernel
theorem dX13_countOf_17 : decode cX13_countOf 17 = .ok (.aload_n 0, 1) := by decide +kernel
theorem dX13_countOf_18 : decode cX13_countOf 18 = .ok (.iload 4, 2) := by decide +kernel
theorem dX13_countOf_20 : decode cX13_countOf 20 = .ok (.iload_n 1, 1) := by decide +kernel
theorem dX13_countOf_21 : decode cX13_countOf 21 = .ok (.iload_n 2, 1) := by decide +kernel
theorem dX13_countOf_22 : decode cX13_countOf 22 = .ok (.invokevirtual 119, 3) := by decide +kernel
theorem dX13_countOf_25 : decode cX13_countOf 25 = .ok (.ifCond .eq 7, 3) := by decide +kernel
theorem dX13_countOf_28 : decode cX13_countOf 28 = .ok (.iconst 1, 1) := by decide +kernel
theorem dX13_countOf_29 : decode cX13_countOf 29 = .ok (.goto 4, 3) := by decide +kernel
theorem dX13_countOf_32 : decode cX13_countOf 32 = .ok (.iconst 0, 1) := by decide +kernel
theorem dX13_countOf_33 : decode cX13_countOf 33 = .ok (.iadd, 1) := by decide +kernel
theorem dX13_countOf_34 : decode cX13_countOf 34 = .ok (.istore_n 3, 1) := by decide +kernel
theorem dX13_countOf_35 : decode cX13_countOf 35 = .ok (.iinc 4 1, 3) := by decide +kernel
theorem dX13_countOf_38 : decode cX13_countOf 38 = .ok (.goto (-33), 3) := by decide +kernel
theorem dX13_countOf_41 : decode cX13_countOf 41 = .ok (.iload_n 3, 1) := by decide +kernel
theorem dX13_countOf_42 : decode cX13_countOf 42 = .ok (.ireturn, 1) := by decide +kernel
theorem dX13_indexOf_0 : decode cX13_indexOf 0 = .ok (.iconst 0, 1) := by decide +kernel
theorem dX13_indexOf_1 : decode cX13_indexOf 1 = .ok (.istore_n 3, 1) := by decide +kernel
theorem dX13_indexOf_2 : decode cX13_indexOf 2 = .ok (.iconst 0, 1) := by decide +kernel
theorem dX13_indexOf_3 : decode cX13_indexOf 3 = .ok (.istore 4, 2) := by decide +kernel
theorem dX13_indexOf_5 : decode cX13_indexOf 5 = .ok (.iload 4, 2) := by decide +kernel
theorem dX13_indexOf_7 : decode cX13_indexOf 7 = .ok (.aload_n 0, 1) := by decide +kernel
theorem dX13_indexOf_8 : decode cX13_indexOf 8 = .ok (.getfield 28, 3) := by decide +kernel
theorem dX13_indexOf_11 : decode cX13_indexOf 11 = .ok (.iconst 3, 1) := by decide +kernel
theorem dX13_indexOf_12 : decode cX13_indexOf 12 = .ok (.iaload, 1) := by decide +kernel
theorem dX13_indexOf_13 : decode cX13_indexOf 13 = .ok (.if_icmp .ge 46, 3) := by decide +kernel
theorem dX13_indexOf_16 : decode cX13_indexOf 16 = .ok (.iload_n 3, 1) := by decide +kernel
theorem dX13_indexOf_17 : decode cX13_indexOf 17 = .ok (.aload_n 0, 1) := by decide +kernel
theorem dX13_indexOf_18 : decode cX13_indexOf 18 = .ok (.iload 4, 2) := by decide +kernel
theorem dX13_indexOf_20 : decode cX13_indexOf 20 = .ok (.iload_n 2, 1) := by decide +kernel
theorem dX13_indexOf_21 : decode cX13_indexOf 21 = .ok (.iconst 1, 1) := by decide +kernel
theorem dX13_indexOf_22 : decode cX13_indexOf 22 = .ok (.invokevirtual 119, 3) := by decide +kernel
theorem dX13_indexOf_25 : decode cX13_indexOf 25 = .ok (.ifCond .eq 25, 3) := by decide +kernel
theorem dX13_indexOf_28 : decode cX13_indexOf 28 = .ok (.aload_n 0, 1) := by decide +kernel
theorem dX13_indexOf_29 : decode cX13_indexOf 29 = .ok (.iload 4, 2) := by decide +kernel
theorem dX13_indexOf_31 : decode cX13_indexOf 31 = .ok (.bipush 8, 2) := by decide +kernel
theorem dX13_indexOf_33 : decode cX13_indexOf 33 = .ok (.invokevirtual 101, 3) := by decide +kernel
theorem dX13_indexOf_36 : decode cX13_indexOf 36 = .ok (.aload_n 0, 1) := by decide +kernel
theorem dX13_indexOf_37 : decode cX13_indexOf 37 = .ok (.iload_n 1, 1) := by decide +kernel
theorem dX13_indexOf_38 : decode cX13_indexOf 38 = .ok (.bipush 8, 2) := by decide +kernel
theorem dX13_indexOf_40 : decode cX13_indexOf 40 = .ok (.invokevirtual 101, 3) := by decide +kernel
theorem dX13_indexOf_43 : decode cX13_indexOf 43 = .ok (.if_icmp .ge 7, 3) := by decide +kernel
theorem dX13_indexOf_46 : decode cX13_indexOf 46 = .ok (.iconst 1, 1) := by decide +kernel
theorem dX13_indexOf_47 : decode cX13_indexOf 47 = .ok (.goto 4, 3) := by decide +kernel
theorem dX13_indexOf_50 : decode cX13_indexOf 50 = .ok (.iconst 0, 1) := by decide +kernel
theorem dX13_indexOf_51 : decode cX13_indexOf 51 = .ok (.iadd, 1) := by decide +kernel
theorem dX13_indexOf_52 : decode cX13_indexOf 52 = .ok (.istore_n 3, 1) := by decide +kernel
theorem dX13_indexOf_53 : decode cX13_indexOf 53 = .ok (.iinc 4 1, 3) := by decide +kernel
theorem dX13_indexOf_56 : decode cX13_indexOf 56 = .ok (.goto (-51), 3) := by decide +kernel
theorem dX13_indexOf_59 : decode cX13_indexOf 59 = .ok (.iload_n 3, 1) := by decide +kernel
theorem dX13_indexOf_60 : decode cX13_indexOf 60 = .ok (.ireturn, 1) := by decide +kernel
theorem dX13_queued_0 : decode cX13_queued 0 = .ok (.iconst 0, 1) := by decide +kernel
theorem dX13_queued_1 : decode cX13_queued 1 = .ok (.istore_n 3, 1) := by decide +kernel
theorem dX13_queued_2 : decode cX13_queued 2 = .ok (.iload_n 3, 1) := by decide +kernel
theorem dX13_queued_3 : decode cX13_queued 3 = .ok (.aload_n 0, 1) := by decide +kernel
theorem dX13_queued_4 : decode cX13_queued 4 = .ok (.getfield 28, 3) := by decide +kernel
theorem dX13_queued_7 : decode cX13_queued 7 = .ok (.iconst 3, 1) := by decide +kernel
theorem dX13_queued_8 : decode cX13_queued 8 = .ok (.iaload, 1) := by decide +kernel
theorem dX13_queued_9 : decode cX13_queued 9 = .ok (.if_icmp .ge 31, 3) := by decide +kernel
theorem dX13_queued_12 : decode cX13_queued 12 = .ok (.aload_n 0, 1) := by decide +kernel
theorem dX13_queued_13 : decode cX13_queued 13 = .ok (.iload_n 3, 1) := by decide +kernel
theorem dX13_queued_14 : decode cX13_queued 14 = .ok (.iload_n 1, 1) := by decide +kernel
theorem dX13_queued_15 : decode cX13_queued 15 = .ok (.iconst 1, 1) := by decide +kernel
theorem dX13_queued_16 : decode cX13_queued 16 = .ok (.invokevirtual 119, 3) := by decide +kernel
theorem dX13_queued_19 : decode cX13_queued 19 = .ok (.ifCond .eq 15, 3) := by decide +kernel
theorem dX13_queued_22 : decode cX13_queued 22 = .ok (.aload_n 0, 1) := by decide +kernel
theorem dX13_queued_23 : decode cX13_queued 23 = .ok (.iload_n 3, 1) := by decide +kernel
theorem dX13_queued_24 : decode cX13_queued 24 = .ok (.iload_n 1, 1) := by decide +kernel
theorem dX13_queued_25 : decode cX13_queued 25 = .ok (.invokevirtual 122, 3) := by decide +kernel
theorem dX13_queued_28 : decode cX13_queued 28 = .ok (.iload_n 2, 1) := by decide +kernel
theorem dX13_queued_29 : decode cX13_queued 29 = .ok (.if_icmp .ne 5, 3) := by decide +kernel
theorem dX13_queued_32 : decode cX13_queued 32 = .ok (.iload_n 3, 1) := by decide +kernel
theorem dX13_queued_33 : decode cX13_queued 33 = .ok (.ireturn, 1) := by decide +kernel
theorem dX13_queued_34 : decode cX13_queued 34 = .ok (.iinc 3 1, 3) := by decide +kernel
theorem dX13_queued_37 : decode cX13_queued 37 = .ok (.goto (-35), 3) := by decide +kernel
theorem dX13_queued_40 : decode cX13_queued 40 = .ok (.iconst (-1), 1) := by decide +kernel
theorem dX13_queued_41 : decode cX13_queued 41 = .ok (.ireturn, 1) := by decide +kernel
theorem dX13_priceOf_0 : decode cX13_priceOf 0 = .ok (.aload_n 0, 1) := by decide +kernel
theorem dX13_priceOf_1 : decode cX13_priceOf 1 = .ok (.iload_n 1, 1) := by decide +kernel
theorem dX13_priceOf_2 : decode cX13_priceOf 2 = .ok (.iconst 1, 1) := by decide +kernel
theorem dX13_priceOf_3 : decode cX13_priceOf 3 = .ok (.invokevirtual 101, 3) := by decide +kernel
theorem dX13_priceOf_6 : decode cX13_priceOf 6 = .ok (.iconst 3, 1) := by decide +kernel
theorem dX13_priceOf_7 : decode cX13_priceOf 7 = .ok (.aload_n 0, 1) := by decide +kernel
theorem dX13_priceOf_8 : decode cX13_priceOf 8 = .ok (.iload_n 1, 1) := by decide +kernel
theorem dX13_priceOf_9 : decode cX13_priceOf 9 = .ok (.iconst 2, 1) := by decide +kernel
theorem dX13_priceOf_10 : decode cX13_priceOf 10 = .ok (.invokevirtual 101, 3) := by decide +kernel
theorem dX13_priceOf_13 : decode cX13_priceOf 13 = .ok (.iadd, 1) := by decide +kernel
theorem dX13_priceOf_14 : decode cX13_priceOf 14 = .ok (.imul, 1) := by decide +kernel
theorem dX13_priceOf_15 : decode cX13_priceOf 15 = .ok (.ireturn, 1) := by decide +kernel
theorem dX13_isAlive_0 : decode cX13_isAlive 0 = .ok (.aload_n 0, 1) := by decide +kernel
theorem dX13_isAlive_1 : decode cX13_isAlive 1 = .ok (.iload_n 1, 1) := by decide +kernel
theorem dX13_isAlive_2 : decode cX13_isAlive 2 = .ok (.iconst 4, 1) := by decide +kernel
theorem dX13_isAlive_3 : decode cX13_isAlive 3 = .ok (.invokevirtual 101, 3) := by decide +kernel
theorem dX13_isAlive_6 : decode cX13_isAlive 6 = .ok (.iconst 2, 1) := by decide +kernel
theorem dX13_isAlive_7 : decode cX13_isAlive 7 = .ok (.if_icmp .gt 7, 3) := by decide +kernel
theorem dX13_isAlive_10 : decode cX13_isAlive 10 = .ok (.iconst 1, 1) := by decide +kernel
theorem dX13_isAlive_11 : decode cX13_isAlive 11 = .ok (.goto 4, 3) := by decide +kernel
theorem dX13_isAlive_14 : decode cX13_isAlive 14 = .ok (.iconst 0, 1) := by decide +kernel
theorem dX13_isAlive_15 : decode cX13_isAlive 15 = .ok (.ireturn, 1) := by decide +kernel
theorem dX13_minute_0 : decode cX13_minute 0 = .ok (.aload_n 0, 1) := by decide +kernel
theorem dX13_minute_1 : decode cX13_minute 1 = .ok (.iconst 0, 1) := by decide +kernel
theorem dX13_minute_2 : decode cX13_minute 2 = .ok (.putfield 79, 3) := by decide +kernel
theorem dX13_minute_5 : decode cX13_minute 5 = .ok (.aload_n 0, 1) := by decide +kernel
theorem dX13_minute_6 : decode cX13_minute 6 = .ok (.getfield 28, 3) := by decide +kernel
theorem dX13_minute_9 : decode cX13_minute 9 = .ok (.iconst 0, 1) := by decide +kernel
theorem dX13_minute_10 : decode cX13_minute 10 = .ok (.iaload, 1) := by decide +kernel
theorem dX13_minute_11 : decode cX13_minute 11 = .ok (.ireturn, 1) := by decide +kernel
theorem dX13_placeCount_0 : decode cX13_placeCount 0 = .ok (.aload_n 0, 1) := by decide +kernel
theorem dX13_placeCount_1 : decode cX13_placeCount 1 = .ok (.iconst 0, 1) := by decide +kernel
theorem dX13_placeCount_2 : decode cX13_placeCount 2 = .ok (.putfield 79, 3) := by decide +kernel
theorem dX13_placeCount_5 : decode cX13_placeCount 5 = .ok (.aload_n 0, 1) := by decide +kernel
theorem dX13_placeCount_6 : decode cX13_placeCount 6 = .ok (.getfield 28, 3) := by decide +kernel
theorem dX13_placeCount_9 : decode cX13_placeCount 9 = .ok (.iconst 1, 1) := by decide +kernel
theorem dX13_placeCount_10 : decode cX13_placeCount 10 = .ok (.iaload, 1) := by decide +kernel
theorem dX13_placeCount_11 : decode cX13_placeCount 11 = .ok (.ireturn, 1) := by decide +kernel
theorem dX13_lockWait_0 : decode cX13_lockWait 0 = .ok (.aload_n 0, 1) := by decide +kernel
theorem dX13_lockWait_1 : decode cX13_lockWait 1 = .ok (.aload_n 0, 1) := by decide +kernel
theorem dX13_lockWait_2 : decode cX13_lockWait 2 = .ok (.iload_n 1, 1) := by decide +kernel
theorem dX13_lockWait_3 : decode cX13_lockWait 3 = .ok (.invokevirtual 125, 3) := by decide +kernel
theorem dX13_lockWait_6 : decode cX13_lockWait 6 = .ok (.invokevirtual 82, 3) := by decide +kernel
theorem dX13_lockWait_9 : decode cX13_lockWait 9 = .ok (.ifCond .eq 7, 3) := by decide +kernel
theorem dX13_lockWait_12 : decode cX13_lockWait 12 = .ok (.iconst 0, 1) := by decide +kernel
theorem dX13_lockWait_13 : decode cX13_lockWait 13 = .ok (.goto 12, 3) := by decide +kernel
theorem dX13_lockWait_16 : decode cX13_lockWait 16 = .ok (.aload_n 0, 1) := by decide +kernel
theorem dX13_lockWait_17 : decode cX13_lockWait 17 = .ok (.getfield 28, 3) := by decide +kernel
theorem dX13_lockWait_20 : decode cX13_lockWait 20 = .ok (.bipush 10, 2) := by decide +kernel
theorem dX13_lockWait_22 : decode cX13_lockWait 22 = .ok (.iload_n 1, 1) := by decide +kernel
theorem dX13_lockWait_23 : decode cX13_lockWait 23 = .ok (.iadd, 1) := by decide +kernel
theorem dX13_lockWait_24 : decode cX13_lockWait 24 = .ok (.iaload, 1) := by decide +kernel
theorem dX13_lockWait_25 : decode cX13_lockWait 25 = .ok (.ireturn, 1) := by decide +kernel
theorem dX13_clearance_0 : decode cX13_clearance 0 = .ok (.aload_n 0, 1) := by decide +kernel
theorem dX13_clearance_1 : decode cX13_clearance 1 = .ok (.aload_n 0, 1) := by decide +kernel
theorem dX13_clearance_2 : decode cX13_clearance 2 = .ok (.iload_n 1, 1) := by decide +kernel
theorem dX13_clearance_3 : decode cX13_clearance 3 = .ok (.invokevirtual 125, 3) := by decide +kernel
theorem dX13_clearance_6 : decode cX13_clearance 6 = .ok (.invokevirtual 82, 3) := by decide +kernel
theorem dX13_clearance_9 : decode cX13_clearance 9 = .ok (.ifCond .eq 7, 3) := by decide +kernel
theorem dX13_clearance_12 : decode cX13_clearance 12 = .ok (.iconst 0, 1) := by decide +kernel
theorem dX13_clearance_13 : decode cX13_clearance 13 = .ok (.goto 12, 3) := by decide +kernel
theorem dX13_clearance_16 : decode cX13_clearance 16 = .ok (.aload_n 0, 1) := by decide +kernel
theorem dX13_clearance_17 : decode cX13_clearance 17 = .ok (.getfield 28, 3) := by decide +kernel
theorem dX13_clearance_20 : decode cX13_clearance 20 = .ok (.bipush 25, 2) := by decide +kernel
theorem dX13_clearance_22 : decode cX13_clearance 22 = .ok (.iload_n 1, 1) := by decide +kernel
theorem dX13_clearance_23 : decode cX13_clearance 23 = .ok (.iadd, 1) := by decide +kernel
theorem dX13_clearance_24 : decode cX13_clearance 24 = .ok (.iaload, 1) := by decide +kernel
theorem dX13_clearance_25 : decode cX13_clearance 25 = .ok (.ireturn, 1) := by decide +kernel
theorem dX13_bargeInLock_0 : decode cX13_bargeInLock 0 = .ok (.aload_n 0, 1) := by decide +kernel
theorem dX13_bargeInLock_1 : decode cX13_bargeInLock 1 = .ok (.aload_n 0, 1) := by decide +kernel
theorem dX13_bargeInLock_2 : decode cX13_bargeInLock 2 = .ok (.iload_n 1, 1) := by decide +kernel
theorem dX13_bargeInLock_3 : decode cX13_bargeInLock 3 = .ok (.invokevirtual 125, 3) := by decide +kernel
theorem dX13_bargeInLock_6 : decode cX13_bargeInLock 6 = .ok (.invokevirtual 82, 3) := by decide +kernel
theorem dX13_bargeInLock_9 : decode cX13_bargeInLock 9 = .ok (.ifCond .eq 7, 3) := by decide +kernel
theorem dX13_bargeInLock_12 : decode cX13_bargeInLock 12 = .ok (.iconst 0, 1) := by decide +kernel
theorem dX13_bargeInLock_13 : decode cX13_bargeInLock 13 = .ok (.goto 8, 3) := by decide +kernel
theorem dX13_bargeInLock_16 : decode cX13_bargeInLock 16 = .ok (.aload_n 0, 1) := by decide +kernel
theorem dX13_bargeInLock_17 : decode cX13_bargeInLock 17 = .ok (.iload_n 1, 1) := by decide +kernel
theorem dX13_bargeInLock_18 : decode cX13_bargeInLock 18 = .ok (.invokevirtual 128, 3) := by decide +kernel
theorem dX13_bargeInLock_21 : decode cX13_bargeInLock 21 = .ok (.ireturn, 1) := by decide +kernel
theorem dX13_usedPairs_0 : decode cX13_usedPairs 0 = .ok (.aload_n 0, 1) := by decide +kernel
theorem dX13_usedPairs_1 : decode cX13_usedPairs 1 = .ok (.aload_n 0, 1) := by decide +kernel
theorem dX13_usedPairs_2 : decode cX13_usedPairs 2 = .ok (.iload_n 1, 1) := by decide +kernel
theorem dX13_usedPairs_3 : decode cX13_usedPairs 3 = .ok (.invokevirtual 131, 3) := by decide +kernel
theorem dX13_usedPairs_6 : decode cX13_usedPairs 6 = .ok (.invokevirtual 82, 3) := by decide +kernel
theorem dX13_usedPairs_9 : decode cX13_usedPairs 9 = .ok (.ifCond .eq 7, 3) := by decide +kernel
theorem dX13_usedPairs_12 : decode cX13_usedPairs 12 = .ok (.iconst 0, 1) := by decide +kernel
theorem dX13_usedPairs_13 : decode cX13_usedPairs 13 = .ok (.goto 12, 3) := by decide +kernel
theorem dX13_usedPairs_16 : decode cX13_usedPairs 16 = .ok (.aload_n 0, 1) := by decide +kernel
theorem dX13_usedPairs_17 : decode cX13_usedPairs 17 = .ok (.getfield 28, 3) := by decide +kernel
theorem dX13_usedPairs_20 : decode cX13_usedPairs 20 = .ok (.bipush 40, 2) := by decide +kernel
theorem dX13_usedPairs_22 : decode cX13_usedPairs 22 = .ok (.iload_n 1, 1) := by decide +kernel
theorem dX13_usedPairs_23 : decode cX13_usedPairs 23 = .ok (.iadd, 1) := by decide +kernel
theorem dX13_usedPairs_24 : decode cX13_usedPairs 24 = .ok (.iaload, 1) := by decide +kernel
theorem dX13_usedPairs_25 : decode cX13_usedPairs 25 = .ok (.ireturn, 1) := by decide +kernel
theorem dX13_bargesAt_0 : decode cX13_bargesAt 0 = .ok (.aload_n 0, 1) := by decide +kernel
theorem dX13_bargesAt_1 : decode cX13_bargesAt 1 = .ok (.aload_n 0, 1) := by decide +kernel
theorem dX13_bargesAt_2 : decode cX13_bargesAt 2 = .ok (.iload_n 1, 1) := by decide +kernel
theorem dX13_bargesAt_3 : decode cX13_bargesAt 3 = .ok (.invokevirtual 131, 3) := by decide +kernel
theorem dX13_bargesAt_6 : decode cX13_bargesAt 6 = .ok (.invokevirtual 82, 3) := by decide +kernel
theorem dX13_bargesAt_9 : decode cX13_bargesAt 9 = .ok (.ifCond .eq 7, 3) := by decide +kernel
theorem dX13_bargesAt_12 : decode cX13_bargesAt 12 = .ok (.iconst 0, 1) := by decide +kernel
theorem dX13_bargesAt_13 : decode cX13_bargesAt 13 = .ok (.goto 8, 3) := by decide +kernel
theorem dX13_bargesAt_16 : decode cX13_bargesAt 16 = .ok (.aload_n 0, 1) := by decide +kernel
theorem dX13_bargesAt_17 : decode cX13_bargesAt 17 = .ok (.iload_n 1, 1) := by decide +kernel
theorem dX13_bargesAt_18 : decode cX13_bargesAt 18 = .ok (.invokevirtual 134, 3) := by decide +kernel
theorem dX13_bargesAt_21 : decode cX13_bargesAt 21 = .ok (.ireturn, 1) := by decide +kernel
theorem dX13_ordersAt_0 : decode cX13_ordersAt 0 = .ok (.aload_n 0, 1) := by decide +kernel
theorem dX13_ordersAt_1 : decode cX13_ordersAt 1 = .ok (.aload_n 0, 1) := by decide +kernel
theorem dX13_ordersAt_2 : decode cX13_ordersAt 2 = .ok (.iload_n 1, 1) := by decide +kernel
theorem dX13_ordersAt_3 : decode cX13_ordersAt 3 = .ok (.invokevirtual 131, 3) := by decide +kernel
theorem dX13_ordersAt_6 : decode cX13_ordersAt 6 = .ok (.invokevirtual 82, 3) := by decide +kernel
theorem dX13_ordersAt_9 : decode cX13_ordersAt 9 = .ok (.ifCond .eq 5, 3) := by decide +kernel
theorem dX13_ordersAt_12 : decode cX13_ordersAt 12 = .ok (.iconst 0, 1) := by decide +kernel
theorem dX13_ordersAt_13 : decode cX13_ordersAt 13 = .ok (.ireturn, 1) := by decide +kernel
theorem dX13_ordersAt_14 : decode cX13_ordersAt 14 = .ok (.iconst 0, 1) := by decide +kernel
theorem dX13_ordersAt_15 : decode cX13_ordersAt 15 = .ok (.istore_n 2, 1) := by decide +kernel
theorem dX13_ordersAt_16 : decode cX13_ordersAt 16 = .ok (.iconst 0, 1) := by decide +kernel
theorem dX13_ordersAt_17 : decode cX13_ordersAt 17 = .ok (.istore_n 3, 1) := by decide +kernel
theorem dX13_ordersAt_18 : decode cX13_ordersAt 18 = .ok (.iload_n 3, 1) := by decide +kernel
theorem dX13_ordersAt_19 : decode cX13_ordersAt 19 = .ok (.aload_n 0, 1) := by decide +kernel
theorem dX13_ordersAt_20 : decode cX13_ordersAt 20 = .ok (.getfield 28, 3) := by decide +kernel
theorem dX13_ordersAt_23 : decode cX13_ordersAt 23 = .ok (.iconst 3, 1) := by decide +kernel
theorem dX13_ordersAt_24 : decode cX13_ordersAt 24 = .ok (.iaload, 1) := by decide +kernel
theorem dX13_ordersAt_25 : decode cX13_ordersAt 25 = .ok (.if_icmp .ge 35, 3) := by decide +kernel
theorem dX13_ordersAt_28 : decode cX13_ordersAt 28 = .ok (.iload_n 2, 1) := by decide +kernel
theorem dX13_ordersAt_29 : decode cX13_ordersAt 29 = .ok (.aload_n 0, 1) := by decide +kernel
theorem dX13_ordersAt_30 : decode cX13_ordersAt 30 = .ok (.iload_n 3, 1) := by decide +kernel
theorem dX13_ordersAt_31 : decode cX13_ordersAt 31 = .ok (.iconst 0, 1) := by decide +kernel
theorem dX13_ordersAt_32 : decode cX13_ordersAt 32 = .ok (.invokevirtual 101, 3) := by decide +kernel
theorem dX13_ordersAt_35 : decode cX13_ordersAt 35 = .ok (.iload_n 1, 1) := by decide +kernel
theorem dX13_ordersAt_36 : decode cX13_ordersAt 36 = .ok (.if_icmp .ne 15, 3) := by decide +kernel
theorem dX13_ordersAt_39 : decode cX13_ordersAt 39 = .ok (.aload_n 0, 1) := by decide +kernel
theorem dX13_ordersAt_40 : decode cX13_ordersAt 40 = .ok (.iload_n 3, 1) := by decide +kernel
theorem dX13_ordersAt_41 : decode cX13_ordersAt 41 = .ok (.invokevirtual 137, 3) := by decide +kernel
theorem dX13_ordersAt_44 : decode cX13_ordersAt 44 = .ok (.ifCond .eq 7, 3) := by decide +kernel
theorem dX13_ordersAt_47 : decode cX13_ordersAt 47 = .ok (.iconst 1, 1) := by decide +kernel
theorem dX13_ordersAt_48 : decode cX13_ordersAt 48 = .ok (.goto 4, 3) := by decide +kernel
theorem dX13_ordersAt_51 : decode cX13_ordersAt 51 = .ok (.iconst 0, 1) := by decide +kernel
theorem dX13_ordersAt_52 : decode cX13_ordersAt 52 = .ok (.iadd, 1) := by decide +kernel
theorem dX13_ordersAt_53 : decode cX13_ordersAt 53 = .ok (.istore_n 2, 1) := by decide +kernel
theorem dX13_ordersAt_54 : decode cX13_ordersAt 54 = .ok (.iinc 3 1, 3) := by decide +kernel
theorem dX13_ordersAt_57 : decode cX13_ordersAt 57 = .ok (.goto (-39), 3) := by decide +kernel
theorem dX13_ordersAt_60 : decode cX13_ordersAt 60 = .ok (.iload_n 2, 1) := by decide +kernel
theorem dX13_ordersAt_61 : decode cX13_ordersAt 61 = .ok (.ireturn, 1) := by decide +kernel
theorem dX13_told_0 : decode cX13_told 0 = .ok (.aload_n 0, 1) := by decide +kernel
theorem dX13_told_1 : decode cX13_told 1 = .ok (.aload_n 0, 1) := by decide +kernel
theorem dX13_told_2 : decode cX13_told 2 = .ok (.iload_n 1, 1) := by decide +kernel
theorem dX13_told_3 : decode cX13_told 3 = .ok (.invokevirtual 140, 3) := by decide +kernel
theorem dX13_told_6 : decode cX13_told 6 = .ok (.invokevirtual 82, 3) := by decide +kernel
theorem dX13_told_9 : decode cX13_told 9 = .ok (.ifCond .eq 7, 3) := by decide +kernel
theorem dX13_told_12 : decode cX13_told 12 = .ok (.iconst 0, 1) := by decide +kernel
theorem dX13_told_13 : decode cX13_told 13 = .ok (.goto 9, 3) := by decide +kernel
theorem dX13_told_16 : decode cX13_told 16 = .ok (.aload_n 0, 1) := by decide +kernel
theorem dX13_told_17 : decode cX13_told 17 = .ok (.iload_n 1, 1) := by decide +kernel
theorem dX13_told_18 : decode cX13_told 18 = .ok (.iload_n 2, 1) := by decide +kernel
theorem dX13_told_19 : decode cX13_told 19 = .ok (.invokevirtual 93, 3) := by decide +kernel
theorem dX13_told_22 : decode cX13_told 22 = .ok (.ireturn, 1) := by decide +kernel
theorem dX13_bargeCount_0 : decode cX13_bargeCount 0 = .ok (.aload_n 0, 1) := by decide +kernel
theorem dX13_bargeCount_1 : decode cX13_bargeCount 1 = .ok (.iconst 0, 1) := by decide +kernel
theorem dX13_bargeCount_2 : decode cX13_bargeCount 2 = .ok (.putfield 79, 3) := by decide +kernel
theorem dX13_bargeCount_5 : decode cX13_bargeCount 5 = .ok (.aload_n 0, 1) := by decide +kernel
theorem dX13_bargeCount_6 : decode cX13_bargeCount 6 = .ok (.getfield 28, 3) := by decide +kernel
theorem dX13_bargeCount_9 : decode cX13_bargeCount 9 = .ok (.iconst 2, 1) := by decide +kernel
theorem dX13_bargeCount_10 : decode cX13_bargeCount 10 = .ok (.iaload, 1) := by decide +kernel
theorem dX13_bargeCount_11 : decode cX13_bargeCount 11 = .ok (.ireturn, 1) := by decide +kernel
theorem dX13_placeOf_0 : decode cX13_placeOf 0 = .ok (.aload_n 0, 1) := by decide +kernel
theorem dX13_placeOf_1 : decode cX13_placeOf 1 = .ok (.iload_n 1, 1) := by decide +kernel
theorem dX13_placeOf_2 : decode cX13_placeOf 2 = .ok (.iconst 0, 1) := by decide +kernel
theorem dX13_placeOf_3 : decode cX13_placeOf 3 = .ok (.invokevirtual 143, 3) := by decide +kernel
theorem dX13_placeOf_6 : decode cX13_placeOf 6 = .ok (.ireturn, 1) := by decide +kernel
theorem dX13_targetOf_0 : decode cX13_targetOf 0 = .ok (.aload_n 0, 1) := by decide +kernel
theorem dX13_targetOf_1 : decode cX13_targetOf 1 = .ok (.iload_n 1, 1) := by decide +kernel
theorem dX13_targetOf_2 : decode cX13_targetOf 2 = .ok (.iconst 1, 1) := by decide +kernel
theorem dX13_targetOf_3 : decode cX13_targetOf 3 = .ok (.invokevirtual 143, 3) := by decide +kernel
theorem dX13_targetOf_6 : decode cX13_targetOf 6 = .ok (.ireturn, 1) := by decide +kernel
theorem dX13_heightOf_0 : decode cX13_heightOf 0 = .ok (.aload_n 0, 1) := by decide +kernel
theorem dX13_heightOf_1 : decode cX13_heightOf 1 = .ok (.iload_n 1, 1) := by decide +kernel
theorem dX13_heightOf_2 : decode cX13_heightOf 2 = .ok (.iconst 2, 1) := by decide +kernel
theorem dX13_heightOf_3 : decode cX13_heightOf 3 = .ok (.invokevirtual 143, 3) := by decide +kernel
theorem dX13_heightOf_6 : decode cX13_heightOf 6 = .ok (.ireturn, 1) := by decide +kernel
theorem dX13_timeInLock_0 : decode cX13_timeInLock 0 = .ok (.aload_n 0, 1) := by decide +kernel
theorem dX13_timeInLock_1 : decode cX13_timeInLock 1 = .ok (.iload_n 1, 1) := by decide +kernel
theorem dX13_timeInLock_2 : decode cX13_timeInLock 2 = .ok (.bipush 6, 2) := by decide +kernel
theorem dX13_timeInLock_4 : decode cX13_timeInLock 4 = .ok (.invokevirtual 143, 3) := by decide +kernel
theorem dX13_timeInLock_7 : decode cX13_timeInLock 7 = .ok (.ireturn, 1) := by decide +kernel
theorem dX13_flour_0 : decode cX13_flour 0 = .ok (.aload_n 0, 1) := by decide +kernel
theorem dX13_flour_1 : decode cX13_flour 1 = .ok (.iload_n 1, 1) := by decide +kernel
theorem dX13_flour_2 : decode cX13_flour 2 = .ok (.iconst 3, 1) := by decide +kernel
theorem dX13_flour_3 : decode cX13_flour 3 = .ok (.invokevirtual 143, 3) := by decide +kernel
theorem dX13_flour_6 : decode cX13_flour 6 = .ok (.ireturn, 1) := by decide +kernel
theorem dX13_cleanPairs_0 : decode cX13_cleanPairs 0 = .ok (.aload_n 0, 1) := by decide +kernel
theorem dX13_cleanPairs_1 : decode cX13_cleanPairs 1 = .ok (.iload_n 1, 1) := by decide +kernel
theorem dX13_cleanPairs_2 : decode cX13_cleanPairs 2 = .ok (.iconst 4, 1) := by decide +kernel
theorem dX13_cleanPairs_3 : decode cX13_cleanPairs 3 = .ok (.invokevirtual 143, 3) := by decide +kernel
theorem dX13_cleanPairs_6 : decode cX13_cleanPairs 6 = .ok (.ireturn, 1) := by decide +kernel
theorem dX13_dirtyPairs_0 : decode cX13_dirtyPairs 0 = .ok (.aload_n 0, 1) := by decide +kernel
theorem dX13_dirtyPairs_1 : decode cX13_dirtyPairs 1 = .ok (.iload_n 1, 1) := by decide +kernel
theorem dX13_dirtyPairs_2 : decode cX13_dirtyPairs 2 = .ok (.iconst 5, 1) := by decide +kernel
theorem dX13_dirtyPairs_3 : decode cX13_dirtyPairs 3 = .ok (.invokevirtual 143, 3) := by decide +kernel
theorem dX13_dirtyPairs_6 : decode cX13_dirtyPairs 6 = .ok (.ireturn, 1) := by decide +kernel
theorem dX13_queueLength_0 : decode cX13_queueLength 0 = .ok (.aload_n 0, 1) := by decide +kernel
theorem dX13_queueLength_1 : decode cX13_queueLength 1 = .ok (.aload_n 0, 1) := by decide +kernel
theorem dX13_queueLength_2 : decode cX13_queueLength 2 = .ok (.iload_n 1, 1) := by decide +kernel
theorem dX13_queueLength_3 : decode cX13_queueLength 3 = .ok (.invokevirtual 140, 3) := by decide +kernel
theorem dX13_queueLength_6 : decode cX13_queueLength 6 = .ok (.invokevirtual 82, 3) := by decide +kernel
theorem dX13_queueLength_9 : decode cX13_queueLength 9 = .ok (.ifCond .eq 7, 3) := by decide +kernel
theorem dX13_queueLength_12 : decode cX13_queueLength 12 = .ok (.iconst 0, 1) := by decide +kernel
theorem dX13_queueLength_13 : decode cX13_queueLength 13 = .ok (.goto 9, 3) := by decide +kernel
theorem dX13_queueLength_16 : decode cX13_queueLength 16 = .ok (.aload_n 0, 1) := by decide +kernel
theorem dX13_queueLength_17 : decode cX13_queueLength 17 = .ok (.iload_n 1, 1) := by decide +kernel
theorem dX13_queueLength_18 : decode cX13_queueLength 18 = .ok (.iconst 1, 1) := by decide +kernel
theorem dX13_queueLength_19 : decode cX13_queueLength 19 = .ok (.invokevirtual 146, 3) := by decide +kernel
theorem dX13_queueLength_22 : decode cX13_queueLength 22 = .ok (.ireturn, 1) := by decide +kernel
theorem dX13_queuedOrder_0 : decode cX13_queuedOrder 0 = .ok (.aload_n 0, 1) := by decide +kernel
theorem dX13_queuedOrder_1 : decode cX13_queuedOrder 1 = .ok (.aload_n 0, 1) := by decide +kernel
theorem dX13_queuedOrder_2 : decode cX13_queuedOrder 2 = .ok (.iload_n 1, 1) := by decide +kernel
theorem dX13_queuedOrder_3 : decode cX13_queuedOrder 3 = .ok (.invokevirtual 140, 3) := by decide +kernel
theorem dX13_queuedOrder_6 : decode cX13_queuedOrder 6 = .ok (.invokevirtual 82, 3) := by decide +kernel
theorem dX13_queuedOrder_9 : decode cX13_queuedOrder 9 = .ok (.ifCond .eq 7, 3) := by decide +kernel
theorem dX13_queuedOrder_12 : decode cX13_queuedOrder 12 = .ok (.iconst 0, 1) := by decide +kernel
theorem dX13_queuedOrder_13 : decode cX13_queuedOrder 13 = .ok (.goto 9, 3) := by decide +kernel
theorem dX13_queuedOrder_16 : decode cX13_queuedOrder 16 = .ok (.aload_n 0, 1) := by decide +kernel
theorem dX13_queuedOrder_17 : decode cX13_queuedOrder 17 = .ok (.iload_n 1, 1) := by decide +kernel
theorem dX13_queuedOrder_18 : decode cX13_queuedOrder 18 = .ok (.iload_n 2, 1) := by decide +kernel
theorem dX13_queuedOrder_19 : decode cX13_queuedOrder 19 = .ok (.invokevirtual 149, 3) := by decide +kernel
theorem dX13_queuedOrder_22 : decode cX13_queuedOrder 22 = .ok (.ireturn, 1) := by decide +kernel
theorem dX13_readyCount_0 : decode cX13_readyCount 0 = .ok (.aload_n 0, 1) := by decide +kernel
theorem dX13_readyCount_1 : decode cX13_readyCount 1 = .ok (.aload_n 0, 1) := by decide +kernel
theorem dX13_readyCount_2 : decode cX13_readyCount 2 = .ok (.iload_n 1, 1) := by decide +kernel
theorem dX13_readyCount_3 : decode cX13_readyCount 3 = .ok (.invokevirtual 140, 3) := by decide +kernel
theorem dX13_readyCount_6 : decode cX13_readyCount 6 = .ok (.invokevirtual 82, 3) := by decide +kernel
theorem dX13_readyCount_9 : decode cX13_readyCount 9 = .ok (.ifCond .eq 7, 3) := by decide +kernel
theorem dX13_readyCount_12 : decode cX13_readyCount 12 = .ok (.iconst 0, 1) := by decide +kernel
theorem dX13_readyCount_13 : decode cX13_readyCount 13 = .ok (.goto 9, 3) := by decide +kernel
theorem dX13_readyCount_16 : decode cX13_readyCount 16 = .ok (.aload_n 0, 1) := by decide +kernel
theorem dX13_readyCount_17 : decode cX13_readyCount 17 = .ok (.iload_n 1, 1) := by decide +kernel
theorem dX13_readyCount_18 : decode cX13_readyCount 18 = .ok (.iconst 2, 1) := by decide +kernel
theorem dX13_readyCount_19 : decode cX13_readyCount 19 = .ok (.invokevirtual 146, 3) := by decide +kernel
theorem dX13_readyCount_22 : decode cX13_readyCount 22 = .ok (.ireturn, 1) := by decide +kernel
theorem dX13_flourNeeded_0 : decode cX13_flourNeeded 0 = .ok (.aload_n 0, 1) := by decide +kernel
theorem dX13_flourNeeded_1 : decode cX13_flourNeeded 1 = .ok (.aload_n 0, 1) := by decide +kernel
theorem dX13_flourNeeded_2 : decode cX13_flourNeeded 2 = .ok (.iload_n 1, 1) := by decide +kernel
theorem dX13_flourNeeded_3 : decode cX13_flourNeeded 3 = .ok (.invokevirtual 140, 3) := by decide +kernel
theorem dX13_flourNeeded_6 : decode cX13_flourNeeded 6 = .ok (.invokevirtual 82, 3) := by decide +kernel
theorem dX13_flourNeeded_9 : decode cX13_flourNeeded 9 = .ok (.ifCond .eq 5, 3) := by decide +kernel
theorem dX13_flourNeeded_12 : decode cX13_flourNeeded 12 = .ok (.iconst 0, 1) := by decide +kernel
theorem dX13_flourNeeded_13 : decode cX13_flourNeeded 13 = .ok (.ireturn, 1) := by decide +kernel
theorem dX13_flourNeeded_14 : decode cX13_flourNeeded 14 = .ok (.iconst 0, 1) := by decide +kernel
theorem dX13_flourNeeded_15 : decode cX13_flourNeeded 15 = .ok (.istore_n 2, 1) := by decide +kernel
theorem dX13_flourNeeded_16 : decode cX13_flourNeeded 16 = .ok (.iconst 0, 1) := by decide +kernel
theorem dX13_flourNeeded_17 : decode cX13_flourNeeded 17 = .ok (.istore_n 3, 1) := by decide +kernel
theorem dX13_flourNeeded_18 : decode cX13_flourNeeded 18 = .ok (.iload_n 3, 1) := by decide +kernel
theorem dX13_flourNeeded_19 : decode cX13_flourNeeded 19 = .ok (.aload_n 0, 1) := by decide +kernel
theorem dX13_flourNeeded_20 : decode cX13_flourNeeded 20 = .ok (.getfield 28, 3) := by decide +kernel
theorem dX13_flourNeeded_23 : decode cX13_flourNeeded 23 = .ok (.iconst 3, 1) := by decide +kernel
theorem dX13_flourNeeded_24 : decode cX13_flourNeeded 24 = .ok (.iaload, 1) := by decide +kernel
theorem dX13_flourNeeded_25 : decode cX13_flourNeeded 25 = .ok (.if_icmp .ge 54, 3) := by decide +kernel
theorem dX13_flourNeeded_28 : decode cX13_flourNeeded 28 = .ok (.aload_n 0, 1) := by decide +kernel
theorem dX13_flourNeeded_29 : decode cX13_flourNeeded 29 = .ok (.iload_n 3, 1) := by decide +kernel
theorem dX13_flourNeeded_30 : decode cX13_flourNeeded 30 = .ok (.iload_n 1, 1) := by decide +kernel
theorem dX13_flourNeeded_31 : decode cX13_flourNeeded 31 = .ok (.iconst 1, 1) := by decide +kernel
theorem dX13_flourNeeded_32 : decode cX13_flourNeeded 32 = .ok (.invokevirtual 119, 3) := by decide +kernel
theorem dX13_flourNeeded_35 : decode cX13_flourNeeded 35 = .ok (.ifCond .eq 17, 3) := by decide +kernel
theorem dX13_flourNeeded_38 : decode cX13_flourNeeded 38 = .ok (.aload_n 0, 1) := by decide +kernel
theorem dX13_flourNeeded_39 : decode cX13_flourNeeded 39 = .ok (.iload_n 3, 1) := by decide +kernel
theorem dX13_flourNeeded_40 : decode cX13_flourNeeded 40 = .ok (.bipush 6, 2) := by decide +kernel
theorem dX13_flourNeeded_42 : decode cX13_flourNeeded 42 = .ok (.invokevirtual 101, 3) := by decide +kernel
theorem dX13_flourNeeded_45 : decode cX13_flourNeeded 45 = .ok (.ifCond .ne 7, 3) := by decide +kernel
theorem dX13_flourNeeded_48 : decode cX13_flourNeeded 48 = .ok (.iconst 1, 1) := by decide +kernel
theorem dX13_flourNeeded_49 : decode cX13_flourNeeded 49 = .ok (.goto 4, 3) := by decide +kernel
theorem dX13_flourNeeded_52 : decode cX13_flourNeeded 52 = .ok (.iconst 0, 1) := by decide +kernel
theorem dX13_flourNeeded_53 : decode cX13_flourNeeded 53 = .ok (.istore 4, 2) := by decide +kernel
theorem dX13_flourNeeded_55 : decode cX13_flourNeeded 55 = .ok (.iload_n 2, 1) := by decide +kernel
theorem dX13_flourNeeded_56 : decode cX13_flourNeeded 56 = .ok (.iload 4, 2) := by decide +kernel
theorem dX13_flourNeeded_58 : decode cX13_flourNeeded 58 = .ok (.ifCond .eq 12, 3) := by decide +kernel
theorem dX13_flourNeeded_61 : decode cX13_flourNeeded 61 = .ok (.aload_n 0, 1) := by decide +kernel
theorem dX13_flourNeeded_62 : decode cX13_flourNeeded 62 = .ok (.iload_n 3, 1) := by decide +kernel
theorem dX13_flourNeeded_63 : decode cX13_flourNeeded 63 = .ok (.iconst 1, 1) := by decide +kernel
theorem dX13_flourNeeded_64 : decode cX13_flourNeeded 64 = .ok (.invokevirtual 101, 3) := by decide +kernel
theorem dX13_flourNeeded_67 : decode cX13_flourNeeded 67 = .ok (.goto 4, 3) := by decide +kernel
theorem dX13_flourNeeded_70 : decode cX13_flourNeeded 70 = .ok (.iconst 0, 1) := by decide +kernel
theorem dX13_flourNeeded_71 : decode cX13_flourNeeded 71 = .ok (.iadd, 1) := by decide +kernel
theorem dX13_flourNeeded_72 : decode cX13_flourNeeded 72 = .ok (.istore_n 2, 1) := by decide +kernel
theorem dX13_flourNeeded_73 : decode cX13_flourNeeded 73 = .ok (.iinc 3 1, 3) := by decide +kernel
theorem dX13_flourNeeded_76 : decode cX13_flourNeeded 76 = .ok (.goto (-58), 3) := by decide +kernel
theorem dX13_flourNeeded_79 : decode cX13_flourNeeded 79 = .ok (.iload_n 2, 1) := by decide +kernel
theorem dX13_flourNeeded_80 : decode cX13_flourNeeded 80 = .ok (.ireturn, 1) := by decide +kernel
theorem dX13_toldOrder_0 : decode cX13_toldOrder 0 = .ok (.aload_n 0, 1) := by decide +kernel
theorem dX13_toldOrder_1 : decode cX13_toldOrder 1 = .ok (.aload_n 0, 1) := by decide +kernel
theorem dX13_toldOrder_2 : decode cX13_toldOrder 2 = .ok (.iload_n 1, 1) := by decide +kernel
theorem dX13_toldOrder_3 : decode cX13_toldOrder 3 = .ok (.invokevirtual 152, 3) := by decide +kernel
theorem dX13_toldOrder_6 : decode cX13_toldOrder 6 = .ok (.invokevirtual 82, 3) := by decide +kernel
theorem dX13_toldOrder_9 : decode cX13_toldOrder 9 = .ok (.ifCond .eq 7, 3) := by decide +kernel
theorem dX13_toldOrder_12 : decode cX13_toldOrder 12 = .ok (.iconst 0, 1) := by decide +kernel
theorem dX13_toldOrder_13 : decode cX13_toldOrder 13 = .ok (.goto 9, 3) := by decide +kernel
theorem dX13_toldOrder_16 : decode cX13_toldOrder 16 = .ok (.aload_n 0, 1) := by decide +kernel
theorem dX13_toldOrder_17 : decode cX13_toldOrder 17 = .ok (.iload_n 1, 1) := by decide +kernel
theorem dX13_toldOrder_18 : decode cX13_toldOrder 18 = .ok (.iload_n 2, 1) := by decide +kernel
theorem dX13_toldOrder_19 : decode cX13_toldOrder 19 = .ok (.invokevirtual 101, 3) := by decide +kernel
theorem dX13_toldOrder_22 : decode cX13_toldOrder 22 = .ok (.ireturn, 1) := by decide +kernel
theorem dX13_toldIn_0 : decode cX13_toldIn 0 = .ok (.aload_n 0, 1) := by decide +kernel
theorem dX13_toldIn_1 : decode cX13_toldIn 1 = .ok (.aload_n 0, 1) := by decide +kernel
theorem dX13_toldIn_2 : decode cX13_toldIn 2 = .ok (.iload_n 1, 1) := by decide +kernel
theorem dX13_toldIn_3 : decode cX13_toldIn 3 = .ok (.invokevirtual 152, 3) := by decide +kernel
theorem dX13_toldIn_6 : decode cX13_toldIn 6 = .ok (.invokevirtual 82, 3) := by decide +kernel
theorem dX13_toldIn_9 : decode cX13_toldIn 9 = .ok (.ifCond .ne 16, 3) := by decide +kernel
theorem dX13_toldIn_12 : decode cX13_toldIn 12 = .ok (.aload_n 0, 1) := by decide +kernel
theorem dX13_toldIn_13 : decode cX13_toldIn 13 = .ok (.iload_n 1, 1) := by decide +kernel
theorem dX13_toldIn_14 : decode cX13_toldIn 14 = .ok (.iload_n 2, 1) := by decide +kernel
theorem dX13_toldIn_15 : decode cX13_toldIn 15 = .ok (.invokevirtual 116, 3) := by decide +kernel
theorem dX13_toldIn_18 : decode cX13_toldIn 18 = .ok (.ifCond .eq 7, 3) := by decide +kernel
theorem dX13_toldIn_21 : decode cX13_toldIn 21 = .ok (.iconst 1, 1) := by decide +kernel
theorem dX13_toldIn_22 : decode cX13_toldIn 22 = .ok (.goto 4, 3) := by decide +kernel
theorem dX13_toldIn_25 : decode cX13_toldIn 25 = .ok (.iconst 0, 1) := by decide +kernel
theorem dX13_toldIn_26 : decode cX13_toldIn 26 = .ok (.ireturn, 1) := by decide +kernel
theorem dX13_orderCount_0 : decode cX13_orderCount 0 = .ok (.aload_n 0, 1) := by decide +kernel
theorem dX13_orderCount_1 : decode cX13_orderCount 1 = .ok (.iconst 0, 1) := by decide +kernel
theorem dX13_orderCount_2 : decode cX13_orderCount 2 = .ok (.putfield 79, 3) := by decide +kernel
theorem dX13_orderCount_5 : decode cX13_orderCount 5 = .ok (.aload_n 0, 1) := by decide +kernel
theorem dX13_orderCount_6 : decode cX13_orderCount 6 = .ok (.getfield 28, 3) := by decide +kernel
theorem dX13_orderCount_9 : decode cX13_orderCount 9 = .ok (.iconst 3, 1) := by decide +kernel
theorem dX13_orderCount_10 : decode cX13_orderCount 10 = .ok (.iaload, 1) := by decide +kernel
theorem dX13_orderCount_11 : decode cX13_orderCount 11 = .ok (.ireturn, 1) := by decide +kernel
theorem dX13_orderPlace_0 : decode cX13_orderPlace 0 = .ok (.aload_n 0, 1) := by decide +kernel
theorem dX13_orderPlace_1 : decode cX13_orderPlace 1 = .ok (.iload_n 1, 1) := by decide +kernel
theorem dX13_orderPlace_2 : decode cX13_orderPlace 2 = .ok (.iconst 0, 1) := by decide +kernel
theorem dX13_orderPlace_3 : decode cX13_orderPlace 3 = .ok (.invokevirtual 155, 3) := by decide +kernel
theorem dX13_orderPlace_6 : decode cX13_orderPlace 6 = .ok (.ireturn, 1) := by decide +kernel
theorem dX13_bowls_0 : decode cX13_bowls 0 = .ok (.aload_n 0, 1) := by decide +kernel
theorem dX13_bowls_1 : decode cX13_bowls 1 = .ok (.iload_n 1, 1) := by decide +kernel
theorem dX13_bowls_2 : decode cX13_bowls 2 = .ok (.iconst 1, 1) := by decide +kernel
theorem dX13_bowls_3 : decode cX13_bowls 3 = .ok (.invokevirtual 155, 3) := by decide +kernel
theorem dX13_bowls_6 : decode cX13_bowls 6 = .ok (.ireturn, 1) := by decide +kernel
theorem dX13_pullsLeft_0 : decode cX13_pullsLeft 0 = .ok (.aload_n 0, 1) := by decide +kernel
theorem dX13_pullsLeft_1 : decode cX13_pullsLeft 1 = .ok (.iload_n 1, 1) := by decide +kernel
theorem dX13_pullsLeft_2 : decode cX13_pullsLeft 2 = .ok (.bipush 7, 2) := by decide +kernel
theorem dX13_pullsLeft_4 : decode cX13_pullsLeft 4 = .ok (.invokevirtual 155, 3) := by decide +kernel
theorem dX13_pullsLeft_7 : decode cX13_pullsLeft 7 = .ok (.ireturn, 1) := by decide +kernel
theorem dX13_deadline_0 : decode cX13_deadline 0 = .ok (.aload_n 0, 1) := by decide +kernel
theorem dX13_deadline_1 : decode cX13_deadline 1 = .ok (.iload_n 1, 1) := by decide +kernel
theorem dX13_deadline_2 : decode cX13_deadline 2 = .ok (.iconst 3, 1) := by decide +kernel
theorem dX13_deadline_3 : decode cX13_deadline 3 = .ok (.invokevirtual 155, 3) := by decide +kernel
theorem dX13_deadline_6 : decode cX13_deadline 6 = .ok (.ireturn, 1) := by decide +kernel
theorem dX13_price_0 : decode cX13_price 0 = .ok (.aload_n 0, 1) := by decide +kernel
theorem dX13_price_1 : decode cX13_price 1 = .ok (.aload_n 0, 1) := by decide +kernel
theorem dX13_price_2 : decode cX13_price 2 = .ok (.iload_n 1, 1) := by decide +kernel
theorem dX13_price_3 : decode cX13_price 3 = .ok (.invokevirtual 152, 3) := by decide +kernel
theorem dX13_price_6 : decode cX13_price 6 = .ok (.invokevirtual 82, 3) := by decide +kernel
theorem dX13_price_9 : decode cX13_price 9 = .ok (.ifCond .eq 7, 3) := by decide +kernel
theorem dX13_price_12 : decode cX13_price 12 = .ok (.iconst 0, 1) := by decide +kernel
theorem dX13_price_13 : decode cX13_price 13 = .ok (.goto 8, 3) := by decide +kernel
theorem dX13_price_16 : decode cX13_price 16 = .ok (.aload_n 0, 1) := by decide +kernel
theorem dX13_price_17 : decode cX13_price 17 = .ok (.iload_n 1, 1) := by decide +kernel
theorem dX13_price_18 : decode cX13_price 18 = .ok (.invokevirtual 158, 3) := by decide +kernel
theorem dX13_price_21 : decode cX13_price 21 = .ok (.ireturn, 1) := by decide +kernel
theorem dX13_bargeOf_0 : decode cX13_bargeOf 0 = .ok (.aload_n 0, 1) := by decide +kernel
theorem dX13_bargeOf_1 : decode cX13_bargeOf 1 = .ok (.iload_n 1, 1) := by decide +kernel
theorem dX13_bargeOf_2 : decode cX13_bargeOf 2 = .ok (.iconst 5, 1) := by decide +kernel
theorem dX13_bargeOf_3 : decode cX13_bargeOf 3 = .ok (.invokevirtual 155, 3) := by decide +kernel
theorem dX13_bargeOf_6 : decode cX13_bargeOf 6 = .ok (.ireturn, 1) := by decide +kernel
theorem dX13_isOpen_0 : decode cX13_isOpen 0 = .ok (.aload_n 0, 1) := by decide +kernel
theorem dX13_isOpen_1 : decode cX13_isOpen 1 = .ok (.iload_n 1, 1) := by decide +kernel
theorem dX13_isOpen_2 : decode cX13_isOpen 2 = .ok (.iconst 0, 1) := by decide +kernel
theorem dX13_isOpen_3 : decode cX13_isOpen 3 = .ok (.invokevirtual 161, 3) := by decide +kernel
theorem dX13_isOpen_6 : decode cX13_isOpen 6 = .ok (.ireturn, 1) := by decide +kernel
theorem dX13_isReady_0 : decode cX13_isReady 0 = .ok (.aload_n 0, 1) := by decide +kernel
theorem dX13_isReady_1 : decode cX13_isReady 1 = .ok (.iload_n 1, 1) := by decide +kernel
theorem dX13_isReady_2 : decode cX13_isReady 2 = .ok (.iconst 2, 1) := by decide +kernel
theorem dX13_isReady_3 : decode cX13_isReady 3 = .ok (.invokevirtual 161, 3) := by decide +kernel
theorem dX13_isReady_6 : decode cX13_isReady 6 = .ok (.ireturn, 1) := by decide +kernel
theorem dX13_isEaten_0 : decode cX13_isEaten 0 = .ok (.aload_n 0, 1) := by decide +kernel
theorem dX13_isEaten_1 : decode cX13_isEaten 1 = .ok (.iload_n 1, 1) := by decide +kernel
theorem dX13_isEaten_2 : decode cX13_isEaten 2 = .ok (.iconst 3, 1) := by decide +kernel
theorem dX13_isEaten_3 : decode cX13_isEaten 3 = .ok (.invokevirtual 161, 3) := by decide +kernel
theorem dX13_isEaten_6 : decode cX13_isEaten 6 = .ok (.ireturn, 1) := by decide +kernel
theorem dX13_mostUrgentOrder_0 : decode cX13_mostUrgentOrder 0 = .ok (.aload_n 0, 1) := by decide +kernel
theorem dX13_mostUrgentOrder_1 : decode cX13_mostUrgentOrder 1 = .ok (.iconst 0, 1) := by decide +kernel
theorem dX13_mostUrgentOrder_2 : decode cX13_mostUrgentOrder 2 = .ok (.putfield 79, 3) := by decide +kernel
theorem dX13_mostUrgentOrder_5 : decode cX13_mostUrgentOrder 5 = .ok (.iconst (-1), 1) := by decide +kernel
theorem dX13_mostUrgentOrder_6 : decode cX13_mostUrgentOrder 6 = .ok (.istore_n 1, 1) := by decide +kernel
theorem dX13_mostUrgentOrder_7 : decode cX13_mostUrgentOrder 7 = .ok (.iconst 0, 1) := by decide +kernel
theorem dX13_mostUrgentOrder_8 : decode cX13_mostUrgentOrder 8 = .ok (.istore_n 2, 1) := by decide +kernel
theorem dX13_mostUrgentOrder_9 : decode cX13_mostUrgentOrder 9 = .ok (.iload_n 2, 1) := by decide +kernel
theorem dX13_mostUrgentOrder_10 : decode cX13_mostUrgentOrder 10 = .ok (.aload_n 0, 1) := by decide +kernel
theorem dX13_mostUrgentOrder_11 : decode cX13_mostUrgentOrder 11 = .ok (.getfield 28, 3) := by decide +kernel
theorem dX13_mostUrgentOrder_14 : decode cX13_mostUrgentOrder 14 = .ok (.iconst 3, 1) := by decide +kernel
theorem dX13_mostUrgentOrder_15 : decode cX13_mostUrgentOrder 15 = .ok (.iaload, 1) := by decide +kernel
theorem dX13_mostUrgentOrder_16 : decode cX13_mostUrgentOrder 16 = .ok (.if_icmp .ge 54, 3) := by decide +kernel
theorem dX13_mostUrgentOrder_19 : decode cX13_mostUrgentOrder 19 = .ok (.aload_n 0, 1) := by decide +kernel
theorem dX13_mostUrgentOrder_20 : decode cX13_mostUrgentOrder 20 = .ok (.iload_n 2, 1) := by decide +kernel
theorem dX13_mostUrgentOrder_21 : decode cX13_mostUrgentOrder 21 = .ok (.iconst 0, 1) := by decide +kernel
theorem dX13_mostUrgentOrder_22 : decode cX13_mostUrgentOrder 22 = .ok (.invokevirtual 116, 3) := by decide +kernel
theorem dX13_mostUrgentOrder_25 : decode cX13_mostUrgentOrder 25 = .ok (.ifCond .eq 27, 3) := by decide +kernel
theorem dX13_mostUrgentOrder_28 : decode cX13_mostUrgentOrder 28 = .ok (.iload_n 1, 1) := by decide +kernel
theorem dX13_mostUrgentOrder_29 : decode cX13_mostUrgentOrder 29 = .ok (.iconst (-1), 1) := by decide +kernel
theorem dX13_mostUrgentOrder_30 : decode cX13_mostUrgentOrder 30 = .ok (.if_icmp .eq 18, 3) := by decide +kernel
theorem dX13_mostUrgentOrder_33 : decode cX13_mostUrgentOrder 33 = .ok (.aload_n 0, 1) := by decide +kernel
theorem dX13_mostUrgentOrder_34 : decode cX13_mostUrgentOrder 34 = .ok (.iload_n 2, 1) := by decide +kernel
theorem dX13_mostUrgentOrder_35 : decode cX13_mostUrgentOrder 35 = .ok (.iconst 3, 1) := by decide +kernel
theorem dX13_mostUrgentOrder_36 : decode cX13_mostUrgentOrder 36 = .ok (.invokevirtual 101, 3) := by decide +kernel
theorem dX13_mostUrgentOrder_39 : decode cX13_mostUrgentOrder 39 = .ok (.aload_n 0, 1) := by decide +kernel
theorem dX13_mostUrgentOrder_40 : decode cX13_mostUrgentOrder 40 = .ok (.iload_n 1, 1) := by decide +kernel
theorem dX13_mostUrgentOrder_41 : decode cX13_mostUrgentOrder 41 = .ok (.iconst 3, 1) := by decide +kernel
theorem dX13_mostUrgentOrder_42 : decode cX13_mostUrgentOrder 42 = .ok (.invokevirtual 101, 3) := by decide +kernel
theorem dX13_mostUrgentOrder_45 : decode cX13_mostUrgentOrder 45 = .ok (.if_icmp .ge 7, 3) := by decide +kernel
theorem dX13_mostUrgentOrder_48 : decode cX13_mostUrgentOrder 48 = .ok (.iconst 1, 1) := by decide +kernel
theorem dX13_mostUrgentOrder_49 : decode cX13_mostUrgentOrder 49 = .ok (.goto 4, 3) := by decide +kernel
theorem dX13_mostUrgentOrder_52 : decode cX13_mostUrgentOrder 52 = .ok (.iconst 0, 1) := by decide +kernel
theorem dX13_mostUrgentOrder_53 : decode cX13_mostUrgentOrder 53 = .ok (.istore_n 3, 1) := by decide +kernel
theorem dX13_mostUrgentOrder_54 : decode cX13_mostUrgentOrder 54 = .ok (.iload_n 3, 1) := by decide +kernel
theorem dX13_mostUrgentOrder_55 : decode cX13_mostUrgentOrder 55 = .ok (.ifCond .eq 7, 3) := by decide +kernel
theorem dX13_mostUrgentOrder_58 : decode cX13_mostUrgentOrder 58 = .ok (.iload_n 2, 1) := by decide +kernel
theorem dX13_mostUrgentOrder_59 : decode cX13_mostUrgentOrder 59 = .ok (.goto 4, 3) := by decide +kernel
theorem dX13_mostUrgentOrder_62 : decode cX13_mostUrgentOrder 62 = .ok (.iload_n 1, 1) := by decide +kernel
theorem dX13_mostUrgentOrder_63 : decode cX13_mostUrgentOrder 63 = .ok (.istore_n 1, 1) := by decide +kernel
theorem dX13_mostUrgentOrder_64 : decode cX13_mostUrgentOrder 64 = .ok (.iinc 2 1, 3) := by decide +kernel
theorem dX13_mostUrgentOrder_67 : decode cX13_mostUrgentOrder 67 = .ok (.goto (-58), 3) := by decide +kernel
theorem dX13_mostUrgentOrder_70 : decode cX13_mostUrgentOrder 70 = .ok (.iload_n 1, 1) := by decide +kernel
theorem dX13_mostUrgentOrder_71 : decode cX13_mostUrgentOrder 71 = .ok (.ireturn, 1) := by decide +kernel
theorem dX13_coins_0 : decode cX13_coins 0 = .ok (.aload_n 0, 1) := by decide +kernel
theorem dX13_coins_1 : decode cX13_coins 1 = .ok (.iconst 0, 1) := by decide +kernel
theorem dX13_coins_2 : decode cX13_coins 2 = .ok (.putfield 79, 3) := by decide +kernel
theorem dX13_coins_5 : decode cX13_coins 5 = .ok (.aload_n 0, 1) := by decide +kernel
theorem dX13_coins_6 : decode cX13_coins 6 = .ok (.getfield 28, 3) := by decide +kernel
theorem dX13_coins_9 : decode cX13_coins 9 = .ok (.iconst 4, 1) := by decide +kernel
theorem dX13_coins_10 : decode cX13_coins 10 = .ok (.iaload, 1) := by decide +kernel
theorem dX13_coins_11 : decode cX13_coins 11 = .ok (.ireturn, 1) := by decide +kernel
theorem dX13_eatenBowls_0 : decode cX13_eatenBowls 0 = .ok (.aload_n 0, 1) := by decide +kernel
theorem dX13_eatenBowls_1 : decode cX13_eatenBowls 1 = .ok (.iconst 0, 1) := by decide +kernel
theorem dX13_eatenBowls_2 : decode cX13_eatenBowls 2 = .ok (.putfield 79, 3) := by decide +kernel
theorem dX13_eatenBowls_5 : decode cX13_eatenBowls 5 = .ok (.aload_n 0, 1) := by decide +kernel
theorem dX13_eatenBowls_6 : decode cX13_eatenBowls 6 = .ok (.getfield 28, 3) := by decide +kernel
theorem dX13_eatenBowls_9 : decode cX13_eatenBowls 9 = .ok (.iconst 5, 1) := by decide +kernel
theorem dX13_eatenBowls_10 : decode cX13_eatenBowls 10 = .ok (.iaload, 1) := by decide +kernel
theorem dX13_eatenBowls_11 : decode cX13_eatenBowls 11 = .ok (.ireturn, 1) := by decide +kernel
theorem dX13_expiredOrders_0 : decode cX13_expiredOrders 0 = .ok (.aload_n 0, 1) := by decide +kernel
theorem dX13_expiredOrders_1 : decode cX13_expiredOrders 1 = .ok (.iconst 0, 1) := by decide +kernel
theorem dX13_expiredOrders_2 : decode cX13_expiredOrders 2 = .ok (.putfield 79, 3) := by decide +kernel
theorem dX13_expiredOrders_5 : decode cX13_expiredOrders 5 = .ok (.aload_n 0, 1) := by decide +kernel
theorem dX13_expiredOrders_6 : decode cX13_expiredOrders 6 = .ok (.getfield 28, 3) := by decide +kernel
theorem dX13_expiredOrders_9 : decode cX13_expiredOrders 9 = .ok (.bipush 6, 2) := by decide +kernel
theorem dX13_expiredOrders_11 : decode cX13_expiredOrders 11 = .ok (.iaload, 1) := by decide +kernel
theorem dX13_expiredOrders_12 : decode cX13_expiredOrders 12 = .ok (.ireturn, 1) := by decide +kernel
theorem dX13_sumOf_0 : decode cX13_sumOf 0 = .ok (.iconst 0, 1) := by decide +kernel
theorem dX13_sumOf_1 : decode cX13_sumOf 1 = .ok (.istore_n 2, 1) := by decide +kernel
theorem dX13_sumOf_2 : decode cX13_sumOf 2 = .ok (.iconst 0, 1) := by decide +kernel
theorem dX13_sumOf_3 : decode cX13_sumOf 3 = .ok (.istore_n 3, 1) := by decide +kernel
theorem dX13_sumOf_4 : decode cX13_sumOf 4 = .ok (.iload_n 3, 1) := by decide +kernel
theorem dX13_sumOf_5 : decode cX13_sumOf 5 = .ok (.aload_n 0, 1) := by decide +kernel
theorem dX13_sumOf_6 : decode cX13_sumOf 6 = .ok (.getfield 28, 3) := by decide +kernel
theorem dX13_sumOf_9 : decode cX13_sumOf 9 = .ok (.iconst 2, 1) := by decide +kernel
theorem dX13_sumOf_10 : decode cX13_sumOf 10 = .ok (.iaload, 1) := by decide +kernel
theorem dX13_sumOf_11 : decode cX13_sumOf 11 = .ok (.if_icmp .ge 18, 3) := by decide +kernel
theorem dX13_sumOf_14 : decode cX13_sumOf 14 = .ok (.iload_n 2, 1) := by decide +kernel
theorem dX13_sumOf_15 : decode cX13_sumOf 15 = .ok (.aload_n 0, 1) := by decide +kernel
theorem dX13_sumOf_16 : decode cX13_sumOf 16 = .ok (.iload_n 3, 1) := by decide +kernel
theorem dX13_sumOf_17 : decode cX13_sumOf 17 = .ok (.iload_n 1, 1) := by decide +kernel
theorem dX13_sumOf_18 : decode cX13_sumOf 18 = .ok (.invokevirtual 93, 3) := by decide +kernel
theorem dX13_sumOf_21 : decode cX13_sumOf 21 = .ok (.iadd, 1) := by decide +kernel
theorem dX13_sumOf_22 : decode cX13_sumOf 22 = .ok (.istore_n 2, 1) := by decide +kernel
theorem dX13_sumOf_23 : decode cX13_sumOf 23 = .ok (.iinc 3 1, 3) := by decide +kernel
theorem dX13_sumOf_26 : decode cX13_sumOf 26 = .ok (.goto (-22), 3) := by decide +kernel
theorem dX13_sumOf_29 : decode cX13_sumOf 29 = .ok (.iload_n 2, 1) := by decide +kernel
theorem dX13_sumOf_30 : decode cX13_sumOf 30 = .ok (.ireturn, 1) := by decide +kernel
theorem dX13_sumAt_0 : decode cX13_sumAt 0 = .ok (.iconst 0, 1) := by decide +kernel
theorem dX13_sumAt_1 : decode cX13_sumAt 1 = .ok (.istore_n 2, 1) := by decide +kernel
theorem dX13_sumAt_2 : decode cX13_sumAt 2 = .ok (.iconst 0, 1) := by decide +kernel
theorem dX13_sumAt_3 : decode cX13_sumAt 3 = .ok (.istore_n 3, 1) := by decide +kernel
theorem dX13_sumAt_4 : decode cX13_sumAt 4 = .ok (.iload_n 3, 1) := by decide +kernel
theorem dX13_sumAt_5 : decode cX13_sumAt 5 = .ok (.aload_n 0, 1) := by decide +kernel
theorem dX13_sumAt_6 : decode cX13_sumAt 6 = .ok (.getfield 28, 3) := by decide +kernel
theorem dX13_sumAt_9 : decode cX13_sumAt 9 = .ok (.iconst 1, 1) := by decide +kernel
theorem dX13_sumAt_10 : decode cX13_sumAt 10 = .ok (.iaload, 1) := by decide +kernel
theorem dX13_sumAt_11 : decode cX13_sumAt 11 = .ok (.if_icmp .ge 20, 3) := by decide +kernel
theorem dX13_sumAt_14 : decode cX13_sumAt 14 = .ok (.iload_n 2, 1) := by decide +kernel
theorem dX13_sumAt_15 : decode cX13_sumAt 15 = .ok (.aload_n 0, 1) := by decide +kernel
theorem dX13_sumAt_16 : decode cX13_sumAt 16 = .ok (.getfield 28, 3) := by decide +kernel
theorem dX13_sumAt_19 : decode cX13_sumAt 19 = .ok (.iload_n 1, 1) := by decide +kernel
theorem dX13_sumAt_20 : decode cX13_sumAt 20 = .ok (.iload_n 3, 1) := by decide +kernel
theorem dX13_sumAt_21 : decode cX13_sumAt 21 = .ok (.iadd, 1) := by decide +kernel
theorem dX13_sumAt_22 : decode cX13_sumAt 22 = .ok (.iaload, 1) := by decide +kernel
theorem dX13_sumAt_23 : decode cX13_sumAt 23 = .ok (.iadd, 1) := by decide +kernel
theorem dX13_sumAt_24 : decode cX13_sumAt 24 = .ok (.istore_n 2, 1) := by decide +kernel
theorem dX13_sumAt_25 : decode cX13_sumAt 25 = .ok (.iinc 3 1, 3) := by decide +kernel
theorem dX13_sumAt_28 : decode cX13_sumAt 28 = .ok (.goto (-24), 3) := by decide +kernel
theorem dX13_sumAt_31 : decode cX13_sumAt 31 = .ok (.iload_n 2, 1) := by decide +kernel
theorem dX13_sumAt_32 : decode cX13_sumAt 32 = .ok (.ireturn, 1) := by decide +kernel
theorem dX13_meanCleanPairs_0 : decode cX13_meanCleanPairs 0 = .ok (.aload_n 0, 1) := by decide +kernel
theorem dX13_meanCleanPairs_1 : decode cX13_meanCleanPairs 1 = .ok (.iconst 0, 1) := by decide +kernel
theorem dX13_meanCleanPairs_2 : decode cX13_meanCleanPairs 2 = .ok (.putfield 79, 3) := by decide +kernel
theorem dX13_meanCleanPairs_5 : decode cX13_meanCleanPairs 5 = .ok (.aload_n 0, 1) := by decide +kernel
theorem dX13_meanCleanPairs_6 : decode cX13_meanCleanPairs 6 = .ok (.iconst 4, 1) := by decide +kernel
theorem dX13_meanCleanPairs_7 : decode cX13_meanCleanPairs 7 = .ok (.invokevirtual 164, 3) := by decide +kernel
theorem dX13_meanCleanPairs_10 : decode cX13_meanCleanPairs 10 = .ok (.i2d, 1) := by decide +kernel
theorem dX13_meanCleanPairs_11 : decode cX13_meanCleanPairs 11 = .ok (.aload_n 0, 1) := by decide +kernel
theorem dX13_meanCleanPairs_12 : decode cX13_meanCleanPairs 12 = .ok (.getfield 28, 3) := by decide +kernel
theorem dX13_meanCleanPairs_15 : decode cX13_meanCleanPairs 15 = .ok (.iconst 2, 1) := by decide +kernel
theorem dX13_meanCleanPairs_16 : decode cX13_meanCleanPairs 16 = .ok (.iaload, 1) := by decide +kernel
theorem dX13_meanCleanPairs_17 : decode cX13_meanCleanPairs 17 = .ok (.i2d, 1) := by decide +kernel
theorem dX13_meanCleanPairs_18 : decode cX13_meanCleanPairs 18 = .ok (.ddiv, 1) := by decide +kernel
theorem dX13_meanCleanPairs_19 : decode cX13_meanCleanPairs 19 = .ok (.dreturn, 1) := by decide +kernel
theorem dX13_countIn_0 : decode cX13_countIn 0 = .ok (.iconst 0, 1) := by decide +kernel
theorem dX13_countIn_1 : decode cX13_countIn 1 = .ok (.istore_n 2, 1) := by decide +kernel
theorem dX13_countIn_2 : decode cX13_countIn 2 = .ok (.iconst 0, 1) := by decide +kernel
theorem dX13_countIn_3 : decode cX13_countIn 3 = .ok (.istore_n 3, 1) := by decide +kernel
theorem dX13_countIn_4 : decode cX13_countIn 4 = .ok (.iload_n 3, 1) := by decide +kernel
theorem dX13_countIn_5 : decode cX13_countIn 5 = .ok (.aload_n 0, 1) := by decide +kernel
theorem dX13_countIn_6 : decode cX13_countIn 6 = .ok (.getfield 28, 3) := by decide +kernel
theorem dX13_countIn_9 : decode cX13_countIn 9 = .ok (.iconst 3, 1) := by decide +kernel
theorem dX13_countIn_10 : decode cX13_countIn 10 = .ok (.iaload, 1) := by decide +kernel
theorem dX13_countIn_11 : decode cX13_countIn 11 = .ok (.if_icmp .ge 26, 3) := by decide +kernel
theorem dX13_countIn_14 : decode cX13_countIn 14 = .ok (.iload_n 2, 1) := by decide +kernel
theorem dX13_countIn_15 : decode cX13_countIn 15 = .ok (.aload_n 0, 1) := by decide +kernel
theorem dX13_countIn_16 : decode cX13_countIn 16 = .ok (.iload_n 3, 1) := by decide +kernel
theorem dX13_countIn_17 : decode cX13_countIn 17 = .ok (.iload_n 1, 1) := by decide +kernel
theorem dX13_countIn_18 : decode cX13_countIn 18 = .ok (.invokevirtual 116, 3) := by decide +kernel
theorem dX13_countIn_21 : decode cX13_countIn 21 = .ok (.ifCond .eq 7, 3) := by decide +kernel
theorem dX13_countIn_24 : decode cX13_countIn 24 = .ok (.iconst 1, 1) := by decide +kernel
theorem dX13_countIn_25 : decode cX13_countIn 25 = .ok (.goto 4, 3) := by decide +kernel
theorem dX13_countIn_28 : decode cX13_countIn 28 = .ok (.iconst 0, 1) := by decide +kernel
theorem dX13_countIn_29 : decode cX13_countIn 29 = .ok (.iadd, 1) := by decide +kernel
theorem dX13_countIn_30 : decode cX13_countIn 30 = .ok (.istore_n 2, 1) := by decide +kernel
theorem dX13_countIn_31 : decode cX13_countIn 31 = .ok (.iinc 3 1, 3) := by decide +kernel
theorem dX13_countIn_34 : decode cX13_countIn 34 = .ok (.goto (-30), 3) := by decide +kernel
theorem dX13_countIn_37 : decode cX13_countIn 37 = .ok (.iload_n 2, 1) := by decide +kernel
theorem dX13_countIn_38 : decode cX13_countIn 38 = .ok (.ireturn, 1) := by decide +kernel
theorem dX13_eatenShare_0 : decode cX13_eatenShare 0 = .ok (.aload_n 0, 1) := by decide +kernel
theorem dX13_eatenShare_1 : decode cX13_eatenShare 1 = .ok (.iconst 0, 1) := by decide +kernel
theorem dX13_eatenShare_2 : decode cX13_eatenShare 2 = .ok (.putfield 79, 3) := by decide +kernel
theorem dX13_eatenShare_5 : decode cX13_eatenShare 5 = .ok (.aload_n 0, 1) := by decide +kernel
theorem dX13_eatenShare_6 : decode cX13_eatenShare 6 = .ok (.iconst 3, 1) := by decide +kernel
theorem dX13_eatenShare_7 : decode cX13_eatenShare 7 = .ok (.invokevirtual 167, 3) := by decide +kernel
theorem dX13_eatenShare_10 : decode cX13_eatenShare 10 = .ok (.istore_n 1, 1) := by decide +kernel
theorem dX13_eatenShare_11 : decode cX13_eatenShare 11 = .ok (.iload_n 1, 1) := by decide +kernel
theorem dX13_eatenShare_12 : decode cX13_eatenShare 12 = .ok (.aload_n 0, 1) := by decide +kernel
theorem dX13_eatenShare_13 : decode cX13_eatenShare 13 = .ok (.iconst 4, 1) := by decide +kernel
theorem dX13_eatenShare_14 : decode cX13_eatenShare 14 = .ok (.invokevirtual 167, 3) := by decide +kernel
theorem dX13_eatenShare_17 : decode cX13_eatenShare 17 = .ok (.iadd, 1) := by decide +kernel
theorem dX13_eatenShare_18 : decode cX13_eatenShare 18 = .ok (.istore_n 2, 1) := by decide +kernel
theorem dX13_eatenShare_19 : decode cX13_eatenShare 19 = .ok (.iload_n 2, 1) := by decide +kernel
theorem dX13_eatenShare_20 : decode cX13_eatenShare 20 = .ok (.ifCond .ne 7, 3) := by decide +kernel
theorem dX13_eatenShare_23 : decode cX13_eatenShare 23 = .ok (.fconst 0, 1) := by decide +kernel
theorem dX13_eatenShare_24 : decode cX13_eatenShare 24 = .ok (.goto 8, 3) := by decide +kernel
theorem dX13_eatenShare_27 : decode cX13_eatenShare 27 = .ok (.iload_n 1, 1) := by decide +kernel
theorem dX13_eatenShare_28 : decode cX13_eatenShare 28 = .ok (.i2f, 1) := by decide +kernel
theorem dX13_eatenShare_29 : decode cX13_eatenShare 29 = .ok (.iload_n 2, 1) := by decide +kernel
theorem dX13_eatenShare_30 : decode cX13_eatenShare 30 = .ok (.i2f, 1) := by decide +kernel
theorem dX13_eatenShare_31 : decode cX13_eatenShare 31 = .ok (.fdiv, 1) := by decide +kernel
theorem dX13_eatenShare_32 : decode cX13_eatenShare 32 = .ok (.freturn, 1) := by decide +kernel
theorem dX13_gap_0 : decode cX13_gap 0 = .ok (.aload_n 0, 1) := by decide +kernel
theorem dX13_gap_1 : decode cX13_gap 1 = .ok (.iconst 0, 1) := by decide +kernel
theorem dX13_gap_2 : decode cX13_gap 2 = .ok (.putfield 79, 3) := by decide +kernel
theorem dX13_gap_5 : decode cX13_gap 5 = .ok (.aload_n 0, 1) := by decide +kernel
theorem dX13_gap_6 : decode cX13_gap 6 = .ok (.iconst 4, 1) := by decide +kernel
theorem dX13_gap_7 : decode cX13_gap 7 = .ok (.invokevirtual 164, 3) := by decide +kernel
theorem dX13_gap_10 : decode cX13_gap 10 = .ok (.aload_n 0, 1) := by decide +kernel
theorem dX13_gap_11 : decode cX13_gap 11 = .ok (.iconst 5, 1) := by decide +kernel
theorem dX13_gap_12 : decode cX13_gap 12 = .ok (.invokevirtual 164, 3) := by decide +kernel
theorem dX13_gap_15 : decode cX13_gap 15 = .ok (.iadd, 1) := by decide +kernel
theorem dX13_gap_16 : decode cX13_gap 16 = .ok (.aload_n 0, 1) := by decide +kernel
theorem dX13_gap_17 : decode cX13_gap 17 = .ok (.bipush 40, 2) := by decide +kernel
theorem dX13_gap_19 : decode cX13_gap 19 = .ok (.invokevirtual 170, 3) := by decide +kernel
theorem dX13_gap_22 : decode cX13_gap 22 = .ok (.iadd, 1) := by decide +kernel
theorem dX13_gap_23 : decode cX13_gap 23 = .ok (.istore_n 1, 1) := by decide +kernel
theorem dX13_gap_24 : decode cX13_gap 24 = .ok (.aload_n 0, 1) := by decide +kernel
theorem dX13_gap_25 : decode cX13_gap 25 = .ok (.getfield 28, 3) := by decide +kernel
theorem dX13_gap_28 : decode cX13_gap 28 = .ok (.bipush 7, 2) := by decide +kernel
theorem dX13_gap_30 : decode cX13_gap 30 = .ok (.iaload, 1) := by decide +kernel
theorem dX13_gap_31 : decode cX13_gap 31 = .ok (.iload_n 1, 1) := by decide +kernel
theorem dX13_gap_32 : decode cX13_gap 32 = .ok (.isub, 1) := by decide +kernel
theorem dX13_gap_33 : decode cX13_gap 33 = .ok (.invokestatic 173, 3) := by decide +kernel
theorem dX13_gap_36 : decode cX13_gap 36 = .ok (.aload_n 0, 1) := by decide +kernel
theorem dX13_gap_37 : decode cX13_gap 37 = .ok (.getfield 28, 3) := by decide +kernel
theorem dX13_gap_40 : decode cX13_gap 40 = .ok (.iconst 5, 1) := by decide +kernel
theorem dX13_gap_41 : decode cX13_gap 41 = .ok (.iaload, 1) := by decide +kernel
theorem dX13_gap_42 : decode cX13_gap 42 = .ok (.aload_n 0, 1) := by decide +kernel
theorem dX13_gap_43 : decode cX13_gap 43 = .ok (.bipush 56, 2) := by decide +kernel
theorem dX13_gap_45 : decode cX13_gap 45 = .ok (.invokevirtual 170, 3) := by decide +kernel
theorem dX13_gap_48 : decode cX13_gap 48 = .ok (.isub, 1) := by decide +kernel
theorem dX13_gap_49 : decode cX13_gap 49 = .ok (.invokestatic 173, 3) := by decide +kernel
theorem dX13_gap_52 : decode cX13_gap 52 = .ok (.iadd, 1) := by decide +kernel
theorem dX13_gap_53 : decode cX13_gap 53 = .ok (.ireturn, 1) := by decide +kernel
theorem dX13_goOn_0 : decode cX13_goOn 0 = .ok (.aload_n 0, 1) := by decide +kernel
theorem dX13_goOn_1 : decode cX13_goOn 1 = .ok (.iload_n 1, 1) := by decide +kernel
theorem dX13_goOn_2 : decode cX13_goOn 2 = .ok (.iconst 0, 1) := by decide +kernel
theorem dX13_goOn_3 : decode cX13_goOn 3 = .ok (.aload_n 0, 1) := by decide +kernel
theorem dX13_goOn_4 : decode cX13_goOn 4 = .ok (.iload_n 1, 1) := by decide +kernel
theorem dX13_goOn_5 : decode cX13_goOn 5 = .ok (.iconst 1, 1) := by decide +kernel
theorem dX13_goOn_6 : decode cX13_goOn 6 = .ok (.invokevirtual 93, 3) := by decide +kernel
theorem dX13_goOn_9 : decode cX13_goOn 9 = .ok (.aload_n 0, 1) := by decide +kernel
theorem dX13_goOn_10 : decode cX13_goOn 10 = .ok (.iload_n 1, 1) := by decide +kernel
theorem dX13_goOn_11 : decode cX13_goOn 11 = .ok (.iconst 0, 1) := by decide +kernel
theorem dX13_goOn_12 : decode cX13_goOn 12 = .ok (.invokevirtual 93, 3) := by decide +kernel
theorem dX13_goOn_15 : decode cX13_goOn 15 = .ok (.if_icmp .le 7, 3) := by decide +kernel
theorem dX13_goOn_18 : decode cX13_goOn 18 = .ok (.iconst 1, 1) := by decide +kernel
theorem dX13_goOn_19 : decode cX13_goOn 19 = .ok (.goto 4, 3) := by decide +kernel
theorem dX13_goOn_22 : decode cX13_goOn 22 = .ok (.iconst (-1), 1) := by decide +kernel
theorem dX13_goOn_23 : decode cX13_goOn 23 = .ok (.invokevirtual 176, 3) := by decide +kernel
theorem dX13_goOn_26 : decode cX13_goOn 26 = .ok (.return_, 1) := by decide +kernel
theorem dX13_moveBarge_0 : decode cX13_moveBarge 0 = .ok (.aload_n 0, 1) := by decide +kernel
theorem dX13_moveBarge_1 : decode cX13_moveBarge 1 = .ok (.iload_n 1, 1) := by decide +kernel
theorem dX13_moveBarge_2 : decode cX13_moveBarge 2 = .ok (.invokevirtual 108, 3) := by decide +kernel
theorem dX13_moveBarge_5 : decode cX13_moveBarge 5 = .ok (.istore_n 2, 1) := by decide +kernel
theorem dX13_moveBarge_6 : decode cX13_moveBarge 6 = .ok (.aload_n 0, 1) := by decide +kernel
theorem dX13_moveBarge_7 : decode cX13_moveBarge 7 = .ok (.iload_n 1, 1) := by decide +kernel
theorem dX13_moveBarge_8 : decode cX13_moveBarge 8 = .ok (.invokevirtual 104, 3) := by decide +kernel
theorem dX13_moveBarge_11 : decode cX13_moveBarge 11 = .ok (.ifCond .eq 27, 3) := by decide +kernel
theorem dX13_moveBarge_14 : decode cX13_moveBarge 14 = .ok (.aload_n 0, 1) := by decide +kernel
theorem dX13_moveBarge_15 : decode cX13_moveBarge 15 = .ok (.iload_n 1, 1) := by decide +kernel
theorem dX13_moveBarge_16 : decode cX13_moveBarge 16 = .ok (.bipush 6, 2) := by decide +kernel
theorem dX13_moveBarge_18 : decode cX13_moveBarge 18 = .ok (.iconst (-1), 1) := by decide +kernel
theorem dX13_moveBarge_19 : decode cX13_moveBarge 19 = .ok (.invokevirtual 176, 3) := by decide +kernel
theorem dX13_moveBarge_22 : decode cX13_moveBarge 22 = .ok (.aload_n 0, 1) := by decide +kernel
theorem dX13_moveBarge_23 : decode cX13_moveBarge 23 = .ok (.iload_n 1, 1) := by decide +kernel
theorem dX13_moveBarge_24 : decode cX13_moveBarge 24 = .ok (.invokevirtual 104, 3) := by decide +kernel
theorem dX13_moveBarge_27 : decode cX13_moveBarge 27 = .ok (.ifCond .ne 56, 3) := by decide +kernel
theorem dX13_moveBarge_30 : decode cX13_moveBarge 30 = .ok (.aload_n 0, 1) := by decide +kernel
theorem dX13_moveBarge_31 : decode cX13_moveBarge 31 = .ok (.iload_n 1, 1) := by decide +kernel
theorem dX13_moveBarge_32 : decode cX13_moveBarge 32 = .ok (.invokevirtual 179, 3) := by decide +kernel
theorem dX13_moveBarge_35 : decode cX13_moveBarge 35 = .ok (.goto 48, 3) := by decide +kernel
theorem dX13_moveBarge_38 : decode cX13_moveBarge 38 = .ok (.aload_n 0, 1) := by decide +kernel
theorem dX13_moveBarge_39 : decode cX13_moveBarge 39 = .ok (.getfield 28, 3) := by decide +kernel
theorem dX13_moveBarge_42 : decode cX13_moveBarge 42 = .ok (.bipush 10, 2) := by decide +kernel
theorem dX13_moveBarge_44 : decode cX13_moveBarge 44 = .ok (.iload_n 2, 1) := by decide +kernel
theorem dX13_moveBarge_45 : decode cX13_moveBarge 45 = .ok (.iadd, 1) := by decide +kernel
theorem dX13_moveBarge_46 : decode cX13_moveBarge 46 = .ok (.iaload, 1) := by decide +kernel
theorem dX13_moveBarge_47 : decode cX13_moveBarge 47 = .ok (.ifCond .ne 11, 3) := by decide +kernel
theorem dX13_moveBarge_50 : decode cX13_moveBarge 50 = .ok (.aload_n 0, 1) := by decide +kernel
theorem dX13_moveBarge_51 : decode cX13_moveBarge 51 = .ok (.iload_n 1, 1) := by decide +kernel
theorem dX13_moveBarge_52 : decode cX13_moveBarge 52 = .ok (.invokevirtual 179, 3) := by decide +kernel
theorem dX13_moveBarge_55 : decode cX13_moveBarge 55 = .ok (.goto 28, 3) := by decide +kernel
theorem dX13_moveBarge_58 : decode cX13_moveBarge 58 = .ok (.aload_n 0, 1) := by decide +kernel
theorem dX13_moveBarge_59 : decode cX13_moveBarge 59 = .ok (.iload_n 2, 1) := by decide +kernel
theorem dX13_moveBarge_60 : decode cX13_moveBarge 60 = .ok (.invokevirtual 128, 3) := by decide +kernel
theorem dX13_moveBarge_63 : decode cX13_moveBarge 63 = .ok (.iconst (-1), 1) := by decide +kernel
theorem dX13_moveBarge_64 : decode cX13_moveBarge 64 = .ok (.if_icmp .ne 19, 3) := by decide +kernel
theorem dX13_moveBarge_67 : decode cX13_moveBarge 67 = .ok (.aload_n 0, 1) := by decide +kernel
theorem dX13_moveBarge_68 : decode cX13_moveBarge 68 = .ok (.iload_n 1, 1) := by decide +kernel
theorem dX13_moveBarge_69 : decode cX13_moveBarge 69 = .ok (.bipush 6, 2) := by decide +kernel
theorem dX13_moveBarge_71 : decode cX13_moveBarge 71 = .ok (.aload_n 0, 1) := by decide +kernel
theorem dX13_moveBarge_72 : decode cX13_moveBarge 72 = .ok (.getfield 28, 3) := by decide +kernel
theorem dX13_moveBarge_75 : decode cX13_moveBarge 75 = .ok (.bipush 10, 2) := by decide +kernel
theorem dX13_moveBarge_77 : decode cX13_moveBarge 77 = .ok (.iload_n 2, 1) := by decide +kernel
theorem dX13_moveBarge_78 : decode cX13_moveBarge 78 = .ok (.iadd, 1) := by decide +kernel
theorem dX13_moveBarge_79 : decode cX13_moveBarge 79 = .ok (.iaload, 1) := by decide +kernel
theorem dX13_moveBarge_80 : decode cX13_moveBarge 80 = .ok (.invokevirtual 86, 3) := by decide +kernel
theorem dX13_moveBarge_83 : decode cX13_moveBarge 83 = .ok (.return_, 1) := by decide +kernel
theorem dX13_pull_0 : decode cX13_pull 0 = .ok (.aload_n 0, 1) := by decide +kernel
theorem dX13_pull_1 : decode cX13_pull 1 = .ok (.iload_n 1, 1) := by decide +kernel
theorem dX13_pull_2 : decode cX13_pull 2 = .ok (.iconst 0, 1) := by decide +kernel
theorem dX13_pull_3 : decode cX13_pull 3 = .ok (.invokevirtual 149, 3) := by decide +kernel
theorem dX13_pull_6 : decode cX13_pull 6 = .ok (.istore_n 2, 1) := by decide +kernel
theorem dX13_pull_7 : decode cX13_pull 7 = .ok (.iload_n 2, 1) := by decide +kernel
theorem dX13_pull_8 : decode cX13_pull 8 = .ok (.iconst (-1), 1) := by decide +kernel
theorem dX13_pull_9 : decode cX13_pull 9 = .ok (.if_icmp .ne 4, 3) := by decide +kernel
theorem dX13_pull_12 : decode cX13_pull 12 = .ok (.return_, 1) := by decide +kernel
theorem dX13_pull_13 : decode cX13_pull 13 = .ok (.aload_n 0, 1) := by decide +kernel
theorem dX13_pull_14 : decode cX13_pull 14 = .ok (.iload_n 2, 1) := by decide +kernel
theorem dX13_pull_15 : decode cX13_pull 15 = .ok (.iconst 1, 1) := by decide +kernel
theorem dX13_pull_16 : decode cX13_pull 16 = .ok (.invokevirtual 101, 3) := by decide +kernel
theorem dX13_pull_19 : decode cX13_pull 19 = .ok (.istore_n 3, 1) := by decide +kernel
theorem dX13_pull_20 : decode cX13_pull 20 = .ok (.aload_n 0, 1) := by decide +kernel
theorem dX13_pull_21 : decode cX13_pull 21 = .ok (.iload_n 2, 1) := by decide +kernel
theorem dX13_pull_22 : decode cX13_pull 22 = .ok (.bipush 6, 2) := by decide +kernel
theorem dX13_pull_24 : decode cX13_pull 24 = .ok (.invokevirtual 101, 3) := by decide +kernel
theorem dX13_pull_27 : decode cX13_pull 27 = .ok (.ifCond .ne 29, 3) := by decide +kernel
theorem dX13_pull_30 : decode cX13_pull 30 = .ok (.aload_n 0, 1) := by decide +kernel
theorem dX13_pull_31 : decode cX13_pull 31 = .ok (.iload_n 1, 1) := by decide +kernel
theorem dX13_pull_32 : decode cX13_pull 32 = .ok (.iconst 3, 1) := by decide +kernel
theorem dX13_pull_33 : decode cX13_pull 33 = .ok (.invokevirtual 93, 3) := by decide +kernel
theorem dX13_pull_36 : decode cX13_pull 36 = .ok (.iload_n 3, 1) := by decide +kernel
theorem dX13_pull_37 : decode cX13_pull 37 = .ok (.if_icmp .lt 19, 3) := by decide +kernel
theorem dX13_pull_40 : decode cX13_pull 40 = .ok (.aload_n 0, 1) := by decide +kernel
theorem dX13_pull_41 : decode cX13_pull 41 = .ok (.iload_n 1, 1) := by decide +kernel
theorem dX13_pull_42 : decode cX13_pull 42 = .ok (.iconst 3, 1) := by decide +kernel
theorem dX13_pull_43 : decode cX13_pull 43 = .ok (.iload_n 3, 1) := by decide +kernel
theorem dX13_pull_44 : decode cX13_pull 44 = .ok (.ineg, 1) := by decide +kernel
theorem dX13_pull_45 : decode cX13_pull 45 = .ok (.invokevirtual 176, 3) := by decide +kernel
theorem dX13_pull_48 : decode cX13_pull 48 = .ok (.aload_n 0, 1) := by decide +kernel
theorem dX13_pull_49 : decode cX13_pull 49 = .ok (.iload_n 2, 1) := by decide +kernel
theorem dX13_pull_50 : decode cX13_pull 50 = .ok (.bipush 6, 2) := by decide +kernel
theorem dX13_pull_52 : decode cX13_pull 52 = .ok (.iconst 1, 1) := by decide +kernel
theorem dX13_pull_53 : decode cX13_pull 53 = .ok (.invokevirtual 90, 3) := by decide +kernel
theorem dX13_pull_56 : decode cX13_pull 56 = .ok (.aload_n 0, 1) := by decide +kernel
theorem dX13_pull_57 : decode cX13_pull 57 = .ok (.iload_n 2, 1) := by decide +kernel
theorem dX13_pull_58 : decode cX13_pull 58 = .ok (.bipush 6, 2) := by decide +kernel
theorem dX13_pull_60 : decode cX13_pull 60 = .ok (.invokevirtual 101, 3) := by decide +kernel
theorem dX13_pull_63 : decode cX13_pull 63 = .ok (.iconst 1, 1) := by decide +kernel
theorem dX13_pull_64 : decode cX13_pull 64 = .ok (.if_icmp .ne 40, 3) := by decide +kernel
theorem dX13_pull_67 : decode cX13_pull 67 = .ok (.aload_n 0, 1) := by decide +kernel
theorem dX13_pull_68 : decode cX13_pull 68 = .ok (.iload_n 2, 1) := by decide +kernel
theorem dX13_pull_69 : decode cX13_pull 69 = .ok (.bipush 7, 2) := by decide +kernel
theorem dX13_pull_71 : decode cX13_pull 71 = .ok (.aload_n 0, 1) := by decide +kernel
theorem dX13_pull_72 : decode cX13_pull 72 = .ok (.iload_n 2, 1) := by decide +kernel
theorem dX13_pull_73 : decode cX13_pull 73 = .ok (.bipush 7, 2) := by decide +kernel
theorem dX13_pull_75 : decode cX13_pull 75 = .ok (.invokevirtual 101, 3) := by decide +kernel
theorem dX13_pull_78 : decode cX13_pull 78 = .ok (.iconst 1, 1) := by decide +kernel
theorem dX13_pull_79 : decode cX13_pull 79 = .ok (.isub, 1) := by decide +kernel
theorem dX13_pull_80 : decode cX13_pull 80 = .ok (.invokevirtual 90, 3) := by decide +kernel
theorem dX13_pull_83 : decode cX13_pull 83 = .ok (.aload_n 0, 1) := by decide +kernel
theorem dX13_pull_84 : decode cX13_pull 84 = .ok (.iload_n 2, 1) := by decide +kernel
theorem dX13_pull_85 : decode cX13_pull 85 = .ok (.iconst 4, 1) := by decide +kernel
theorem dX13_pull_86 : decode cX13_pull 86 = .ok (.aload_n 0, 1) := by decide +kernel
theorem dX13_pull_87 : decode cX13_pull 87 = .ok (.iload_n 2, 1) := by decide +kernel
theorem dX13_pull_88 : decode cX13_pull 88 = .ok (.bipush 7, 2) := by decide +kernel
theorem dX13_pull_90 : decode cX13_pull 90 = .ok (.invokevirtual 101, 3) := by decide +kernel
theorem dX13_pull_93 : decode cX13_pull 93 = .ok (.ifCond .ne 7, 3) := by decide +kernel
theorem dX13_pull_96 : decode cX13_pull 96 = .ok (.iconst 2, 1) := by decide +kernel
theorem dX13_pull_97 : decode cX13_pull 97 = .ok (.goto 4, 3) := by decide +kernel
theorem dX13_pull_100 : decode cX13_pull 100 = .ok (.iconst 1, 1) := by decide +kernel
theorem dX13_pull_101 : decode cX13_pull 101 = .ok (.invokevirtual 90, 3) := by decide +kernel
theorem dX13_pull_104 : decode cX13_pull 104 = .ok (.return_, 1) := by decide +kernel
theorem dX13_canServe_0 : decode cX13_canServe 0 = .ok (.aload_n 0, 1) := by decide +kernel
theorem dX13_canServe_1 : decode cX13_canServe 1 = .ok (.iload_n 2, 1) := by decide +kernel
theorem dX13_canServe_2 : decode cX13_canServe 2 = .ok (.iload_n 1, 1) := by decide +kernel
theorem dX13_canServe_3 : decode cX13_canServe 3 = .ok (.iconst 2, 1) := by decide +kernel
theorem dX13_canServe_4 : decode cX13_canServe 4 = .ok (.invokevirtual 119, 3) := by decide +kernel
theorem dX13_canServe_7 : decode cX13_canServe 7 = .ok (.ifCond .eq 37, 3) := by decide +kernel
theorem dX13_canServe_10 : decode cX13_canServe 10 = .ok (.aload_n 0, 1) := by decide +kernel
theorem dX13_canServe_11 : decode cX13_canServe 11 = .ok (.iload_n 2, 1) := by decide +kernel
theorem dX13_canServe_12 : decode cX13_canServe 12 = .ok (.iconst 0, 1) := by decide +kernel
theorem dX13_canServe_13 : decode cX13_canServe 13 = .ok (.invokevirtual 101, 3) := by decide +kernel
theorem dX13_canServe_16 : decode cX13_canServe 16 = .ok (.aload_n 0, 1) := by decide +kernel
theorem dX13_canServe_17 : decode cX13_canServe 17 = .ok (.iload_n 1, 1) := by decide +kernel
theorem dX13_canServe_18 : decode cX13_canServe 18 = .ok (.iconst 0, 1) := by decide +kernel
theorem dX13_canServe_19 : decode cX13_canServe 19 = .ok (.invokevirtual 93, 3) := by decide +kernel
theorem dX13_canServe_22 : decode cX13_canServe 22 = .ok (.if_icmp .ne 22, 3) := by decide +kernel
theorem dX13_canServe_25 : decode cX13_canServe 25 = .ok (.aload_n 0, 1) := by decide +kernel
theorem dX13_canServe_26 : decode cX13_canServe 26 = .ok (.iload_n 1, 1) := by decide +kernel
theorem dX13_canServe_27 : decode cX13_canServe 27 = .ok (.iconst 4, 1) := by decide +kernel
theorem dX13_canServe_28 : decode cX13_canServe 28 = .ok (.invokevirtual 93, 3) := by decide +kernel
theorem dX13_canServe_31 : decode cX13_canServe 31 = .ok (.aload_n 0, 1) := by decide +kernel
theorem dX13_canServe_32 : decode cX13_canServe 32 = .ok (.iload_n 2, 1) := by decide +kernel
theorem dX13_canServe_33 : decode cX13_canServe 33 = .ok (.iconst 1, 1) := by decide +kernel
theorem dX13_canServe_34 : decode cX13_canServe 34 = .ok (.invokevirtual 101, 3) := by decide +kernel
theorem dX13_canServe_37 : decode cX13_canServe 37 = .ok (.if_icmp .lt 7, 3) := by decide +kernel
theorem dX13_canServe_40 : decode cX13_canServe 40 = .ok (.iconst 1, 1) := by decide +kernel
theorem dX13_canServe_41 : decode cX13_canServe 41 = .ok (.goto 4, 3) := by decide +kernel
theorem dX13_canServe_44 : decode cX13_canServe 44 = .ok (.iconst 0, 1) := by decide +kernel
theorem dX13_canServe_45 : decode cX13_canServe 45 = .ok (.ireturn, 1) := by decide +kernel
theorem dX13_eat_0 : decode cX13_eat 0 = .ok (.aload_n 0, 1) := by decide +kernel
theorem dX13_eat_1 : decode cX13_eat 1 = .ok (.iload_n 2, 1) := by decide +kernel
theorem dX13_eat_2 : decode cX13_eat 2 = .ok (.iconst 1, 1) := by decide +kernel
theorem dX13_eat_3 : decode cX13_eat 3 = .ok (.invokevirtual 101, 3) := by decide +kernel
theorem dX13_eat_6 : decode cX13_eat 6 = .ok (.istore_n 3, 1) := by decide +kernel
theorem dX13_eat_7 : decode cX13_eat 7 = .ok (.aload_n 0, 1) := by decide +kernel
theorem dX13_eat_8 : decode cX13_eat 8 = .ok (.iload_n 1, 1) := by decide +kernel
theorem dX13_eat_9 : decode cX13_eat 9 = .ok (.iconst 4, 1) := by decide +kernel
theorem dX13_eat_10 : decode cX13_eat 10 = .ok (.iload_n 3, 1) := by decide +kernel
theorem dX13_eat_11 : decode cX13_eat 11 = .ok (.ineg, 1) := by decide +kernel
theorem dX13_eat_12 : decode cX13_eat 12 = .ok (.invokevirtual 176, 3) := by decide +kernel
theorem dX13_eat_15 : decode cX13_eat 15 = .ok (.aload_n 0, 1) := by decide +kernel
theorem dX13_eat_16 : decode cX13_eat 16 = .ok (.getfield 28, 3) := by decide +kernel
theorem dX13_eat_19 : decode cX13_eat 19 = .ok (.bipush 40, 2) := by decide +kernel
theorem dX13_eat_21 : decode cX13_eat 21 = .ok (.aload_n 0, 1) := by decide +kernel
theorem dX13_eat_22 : decode cX13_eat 22 = .ok (.iload_n 1, 1) := by decide +kernel
theorem dX13_eat_23 : decode cX13_eat 23 = .ok (.iconst 0, 1) := by decide +kernel
theorem dX13_eat_24 : decode cX13_eat 24 = .ok (.invokevirtual 93, 3) := by decide +kernel
theorem dX13_eat_27 : decode cX13_eat 27 = .ok (.iadd, 1) := by decide +kernel
theorem dX13_eat_28 : decode cX13_eat 28 = .ok (.dup2, 1) := by decide +kernel
theorem dX13_eat_29 : decode cX13_eat 29 = .ok (.iaload, 1) := by decide +kernel
theorem dX13_eat_30 : decode cX13_eat 30 = .ok (.iload_n 3, 1) := by decide +kernel
theorem dX13_eat_31 : decode cX13_eat 31 = .ok (.iadd, 1) := by decide +kernel
theorem dX13_eat_32 : decode cX13_eat 32 = .ok (.iastore, 1) := by decide +kernel
theorem dX13_eat_33 : decode cX13_eat 33 = .ok (.aload_n 0, 1) := by decide +kernel
theorem dX13_eat_34 : decode cX13_eat 34 = .ok (.getfield 28, 3) := by decide +kernel
theorem dX13_eat_37 : decode cX13_eat 37 = .ok (.bipush 56, 2) := by decide +kernel
theorem dX13_eat_39 : decode cX13_eat 39 = .ok (.aload_n 0, 1) := by decide +kernel
theorem dX13_eat_40 : decode cX13_eat 40 = .ok (.iload_n 1, 1) := by decide +kernel
theorem dX13_eat_41 : decode cX13_eat 41 = .ok (.iconst 0, 1) := by decide +kernel
theorem dX13_eat_42 : decode cX13_eat 42 = .ok (.invokevirtual 93, 3) := by decide +kernel
theorem dX13_eat_45 : decode cX13_eat 45 = .ok (.iadd, 1) := by decide +kernel
theorem dX13_eat_46 : decode cX13_eat 46 = .ok (.dup2, 1) := by decide +kernel
theorem dX13_eat_47 : decode cX13_eat 47 = .ok (.iaload, 1) := by decide +kernel
theorem dX13_eat_48 : decode cX13_eat 48 = .ok (.iload_n 3, 1) := by decide +kernel
theorem dX13_eat_49 : decode cX13_eat 49 = .ok (.iadd, 1) := by decide +kernel
theorem dX13_eat_50 : decode cX13_eat 50 = .ok (.iastore, 1) := by decide +kernel
theorem dX13_eat_51 : decode cX13_eat 51 = .ok (.aload_n 0, 1) := by decide +kernel
theorem dX13_eat_52 : decode cX13_eat 52 = .ok (.getfield 28, 3) := by decide +kernel
theorem dX13_eat_55 : decode cX13_eat 55 = .ok (.iconst 5, 1) := by decide +kernel
theorem dX13_eat_56 : decode cX13_eat 56 = .ok (.dup2, 1) := by decide +kernel
theorem dX13_eat_57 : decode cX13_eat 57 = .ok (.iaload, 1) := by decide +kernel
theorem dX13_eat_58 : decode cX13_eat 58 = .ok (.iload_n 3, 1) := by decide +kernel
theorem dX13_eat_59 : decode cX13_eat 59 = .ok (.iadd, 1) := by decide +kernel
theorem dX13_eat_60 : decode cX13_eat 60 = .ok (.iastore, 1) := by decide +kernel
theorem dX13_eat_61 : decode cX13_eat 61 = .ok (.aload_n 0, 1) := by decide +kernel
theorem dX13_eat_62 : decode cX13_eat 62 = .ok (.getfield 28, 3) := by decide +kernel
theorem dX13_eat_65 : decode cX13_eat 65 = .ok (.iconst 4, 1) := by decide +kernel
theorem dX13_eat_66 : decode cX13_eat 66 = .ok (.dup2, 1) := by decide +kernel
theorem dX13_eat_67 : decode cX13_eat 67 = .ok (.iaload, 1) := by decide +kernel
theorem dX13_eat_68 : decode cX13_eat 68 = .ok (.aload_n 0, 1) := by decide +kernel
theorem dX13_eat_69 : decode cX13_eat 69 = .ok (.iload_n 2, 1) := by decide +kernel
theorem dX13_eat_70 : decode cX13_eat 70 = .ok (.invokevirtual 158, 3) := by decide +kernel
theorem dX13_eat_73 : decode cX13_eat 73 = .ok (.iadd, 1) := by decide +kernel
theorem dX13_eat_74 : decode cX13_eat 74 = .ok (.iastore, 1) := by decide +kernel
theorem dX13_eat_75 : decode cX13_eat 75 = .ok (.aload_n 0, 1) := by decide +kernel
theorem dX13_eat_76 : decode cX13_eat 76 = .ok (.iload_n 2, 1) := by decide +kernel
theorem dX13_eat_77 : decode cX13_eat 77 = .ok (.iconst 4, 1) := by decide +kernel
theorem dX13_eat_78 : decode cX13_eat 78 = .ok (.iconst 3, 1) := by decide +kernel
theorem dX13_eat_79 : decode cX13_eat 79 = .ok (.invokevirtual 90, 3) := by decide +kernel
theorem dX13_eat_82 : decode cX13_eat 82 = .ok (.aload_n 0, 1) := by decide +kernel
theorem dX13_eat_83 : decode cX13_eat 83 = .ok (.iload_n 2, 1) := by decide +kernel
theorem dX13_eat_84 : decode cX13_eat 84 = .ok (.iconst 5, 1) := by decide +kernel
theorem dX13_eat_85 : decode cX13_eat 85 = .ok (.iconst (-1), 1) := by decide +kernel
theorem dX13_eat_86 : decode cX13_eat 86 = .ok (.invokevirtual 90, 3) := by decide +kernel
theorem dX13_eat_89 : decode cX13_eat 89 = .ok (.return_, 1) := by decide +kernel
theorem dX13_serve_0 : decode cX13_serve 0 = .ok (.iconst 0, 1) := by decide +kernel
theorem dX13_serve_1 : decode cX13_serve 1 = .ok (.istore_n 2, 1) := by decide +kernel
theorem dX13_serve_2 : decode cX13_serve 2 = .ok (.iconst 0, 1) := by decide +kernel
theorem dX13_serve_3 : decode cX13_serve 3 = .ok (.istore_n 3, 1) := by decide +kernel
theorem dX13_serve_4 : decode cX13_serve 4 = .ok (.iload_n 3, 1) := by decide +kernel
theorem dX13_serve_5 : decode cX13_serve 5 = .ok (.aload_n 0, 1) := by decide +kernel
theorem dX13_serve_6 : decode cX13_serve 6 = .ok (.getfield 28, 3) := by decide +kernel
theorem dX13_serve_9 : decode cX13_serve 9 = .ok (.iconst 3, 1) := by decide +kernel
theorem dX13_serve_10 : decode cX13_serve 10 = .ok (.iaload, 1) := by decide +kernel
theorem dX13_serve_11 : decode cX13_serve 11 = .ok (.if_icmp .ge 27, 3) := by decide +kernel
theorem dX13_serve_14 : decode cX13_serve 14 = .ok (.aload_n 0, 1) := by decide +kernel
theorem dX13_serve_15 : decode cX13_serve 15 = .ok (.iload_n 1, 1) := by decide +kernel
theorem dX13_serve_16 : decode cX13_serve 16 = .ok (.iload_n 3, 1) := by decide +kernel
theorem dX13_serve_17 : decode cX13_serve 17 = .ok (.invokevirtual 182, 3) := by decide +kernel
theorem dX13_serve_20 : decode cX13_serve 20 = .ok (.ifCond .eq 12, 3) := by decide +kernel
theorem dX13_serve_23 : decode cX13_serve 23 = .ok (.aload_n 0, 1) := by decide +kernel
theorem dX13_serve_24 : decode cX13_serve 24 = .ok (.iload_n 1, 1) := by decide +kernel
theorem dX13_serve_25 : decode cX13_serve 25 = .ok (.iload_n 3, 1) := by decide +kernel
theorem dX13_serve_26 : decode cX13_serve 26 = .ok (.invokevirtual 185, 3) := by decide +kernel
theorem dX13_serve_29 : decode cX13_serve 29 = .ok (.iinc 2 1, 3) := by decide +kernel
theorem dX13_serve_32 : decode cX13_serve 32 = .ok (.iinc 3 1, 3) := by decide +kernel
theorem dX13_serve_35 : decode cX13_serve 35 = .ok (.goto (-31), 3) := by decide +kernel
theorem dX13_serve_38 : decode cX13_serve 38 = .ok (.iload_n 2, 1) := by decide +kernel
theorem dX13_serve_39 : decode cX13_serve 39 = .ok (.ireturn, 1) := by decide +kernel
theorem dX13_expire_0 : decode cX13_expire 0 = .ok (.iconst 0, 1) := by decide +kernel
theorem dX13_expire_1 : decode cX13_expire 1 = .ok (.istore_n 1, 1) := by decide +kernel
theorem dX13_expire_2 : decode cX13_expire 2 = .ok (.iload_n 1, 1) := by decide +kernel
theorem dX13_expire_3 : decode cX13_expire 3 = .ok (.aload_n 0, 1) := by decide +kernel
theorem dX13_expire_4 : decode cX13_expire 4 = .ok (.getfield 28, 3) := by decide +kernel
theorem dX13_expire_7 : decode cX13_expire 7 = .ok (.iconst 3, 1) := by decide +kernel
theorem dX13_expire_8 : decode cX13_expire 8 = .ok (.iaload, 1) := by decide +kernel
theorem dX13_expire_9 : decode cX13_expire 9 = .ok (.if_icmp .ge 67, 3) := by decide +kernel
theorem dX13_expire_12 : decode cX13_expire 12 = .ok (.aload_n 0, 1) := by decide +kernel
theorem dX13_expire_13 : decode cX13_expire 13 = .ok (.iload_n 1, 1) := by decide +kernel
theorem dX13_expire_14 : decode cX13_expire 14 = .ok (.invokevirtual 137, 3) := by decide +kernel
theorem dX13_expire_17 : decode cX13_expire 17 = .ok (.ifCond .eq 53, 3) := by decide +kernel
theorem dX13_expire_20 : decode cX13_expire 20 = .ok (.aload_n 0, 1) := by decide +kernel
theorem dX13_expire_21 : decode cX13_expire 21 = .ok (.iload_n 1, 1) := by decide +kernel
theorem dX13_expire_22 : decode cX13_expire 22 = .ok (.iconst 3, 1) := by decide +kernel
theorem dX13_expire_23 : decode cX13_expire 23 = .ok (.invokevirtual 101, 3) := by decide +kernel
theorem dX13_expire_26 : decode cX13_expire 26 = .ok (.aload_n 0, 1) := by decide +kernel
theorem dX13_expire_27 : decode cX13_expire 27 = .ok (.getfield 28, 3) := by decide +kernel
theorem dX13_expire_30 : decode cX13_expire 30 = .ok (.iconst 0, 1) := by decide +kernel
theorem dX13_expire_31 : decode cX13_expire 31 = .ok (.iaload, 1) := by decide +kernel
theorem dX13_expire_32 : decode cX13_expire 32 = .ok (.if_icmp .ne 38, 3) := by decide +kernel
theorem dX13_expire_35 : decode cX13_expire 35 = .ok (.aload_n 0, 1) := by decide +kernel
theorem dX13_expire_36 : decode cX13_expire 36 = .ok (.iload_n 1, 1) := by decide +kernel
theorem dX13_expire_37 : decode cX13_expire 37 = .ok (.iconst 4, 1) := by decide +kernel
theorem dX13_expire_38 : decode cX13_expire 38 = .ok (.iconst 4, 1) := by decide +kernel
theorem dX13_expire_39 : decode cX13_expire 39 = .ok (.invokevirtual 90, 3) := by decide +kernel
theorem dX13_expire_42 : decode cX13_expire 42 = .ok (.aload_n 0, 1) := by decide +kernel
theorem dX13_expire_43 : decode cX13_expire 43 = .ok (.iload_n 1, 1) := by decide +kernel
theorem dX13_expire_44 : decode cX13_expire 44 = .ok (.iconst 5, 1) := by decide +kernel
theorem dX13_expire_45 : decode cX13_expire 45 = .ok (.iconst (-1), 1) := by decide +kernel
theorem dX13_expire_46 : decode cX13_expire 46 = .ok (.invokevirtual 90, 3) := by decide +kernel
theorem dX13_expire_49 : decode cX13_expire 49 = .ok (.aload_n 0, 1) := by decide +kernel
theorem dX13_expire_50 : decode cX13_expire 50 = .ok (.getfield 28, 3) := by decide +kernel
theorem dX13_expire_53 : decode cX13_expire 53 = .ok (.iconst 4, 1) := by decide +kernel
theorem dX13_expire_54 : decode cX13_expire 54 = .ok (.dup2, 1) := by decide +kernel
theorem dX13_expire_55 : decode cX13_expire 55 = .ok (.iaload, 1) := by decide +kernel
theorem dX13_expire_56 : decode cX13_expire 56 = .ok (.iconst 2, 1) := by decide +kernel
theorem dX13_expire_57 : decode cX13_expire 57 = .ok (.isub, 1) := by decide +kernel
theorem dX13_expire_58 : decode cX13_expire 58 = .ok (.iastore, 1) := by decide +kernel
theorem dX13_expire_59 : decode cX13_expire 59 = .ok (.aload_n 0, 1) := by decide +kernel
theorem dX13_expire_60 : decode cX13_expire 60 = .ok (.getfield 28, 3) := by decide +kernel
theorem dX13_expire_63 : decode cX13_expire 63 = .ok (.bipush 6, 2) := by decide +kernel
theorem dX13_expire_65 : decode cX13_expire 65 = .ok (.dup2, 1) := by decide +kernel
theorem dX13_expire_66 : decode cX13_expire 66 = .ok (.iaload, 1) := by decide +kernel
theorem dX13_expire_67 : decode cX13_expire 67 = .ok (.iconst 1, 1) := by decide +kernel
theorem dX13_expire_68 : decode cX13_expire 68 = .ok (.iadd, 1) := by decide +kernel
theorem dX13_expire_69 : decode cX13_expire 69 = .ok (.iastore, 1) := by decide +kernel
theorem dX13_expire_70 : decode cX13_expire 70 = .ok (.iinc 1 1, 3) := by decide +kernel
theorem dX13_expire_73 : decode cX13_expire 73 = .ok (.goto (-71), 3) := by decide +kernel
theorem dX13_expire_76 : decode cX13_expire 76 = .ok (.return_, 1) := by decide +kernel
theorem dX13_passMinute_0 : decode cX13_passMinute 0 = .ok (.aload_n 0, 1) := by decide +kernel
theorem dX13_passMinute_1 : decode cX13_passMinute 1 = .ok (.getfield 28, 3) := by decide +kernel
theorem dX13_passMinute_4 : decode cX13_passMinute 4 = .ok (.iconst 0, 1) := by decide +kernel
theorem dX13_passMinute_5 : decode cX13_passMinute 5 = .ok (.iaload, 1) := by decide +kernel
theorem dX13_passMinute_6 : decode cX13_passMinute 6 = .ok (.sipush 10000, 3) := by decide +kernel
theorem dX13_passMinute_9 : decode cX13_passMinute 9 = .ok (.if_icmp .ne 5, 3) := by decide +kernel
theorem dX13_passMinute_12 : decode cX13_passMinute 12 = .ok (.iconst 0, 1) := by decide +kernel
theorem dX13_passMinute_13 : decode cX13_passMinute 13 = .ok (.ireturn, 1) := by decide +kernel
theorem dX13_passMinute_14 : decode cX13_passMinute 14 = .ok (.iconst 0, 1) := by decide +kernel
theorem dX13_passMinute_15 : decode cX13_passMinute 15 = .ok (.istore_n 1, 1) := by decide +kernel
theorem dX13_passMinute_16 : decode cX13_passMinute 16 = .ok (.iload_n 1, 1) := by decide +kernel
theorem dX13_passMinute_17 : decode cX13_passMinute 17 = .ok (.aload_n 0, 1) := by decide +kernel
theorem dX13_passMinute_18 : decode cX13_passMinute 18 = .ok (.getfield 28, 3) := by decide +kernel
theorem dX13_passMinute_21 : decode cX13_passMinute 21 = .ok (.iconst 2, 1) := by decide +kernel
theorem dX13_passMinute_22 : decode cX13_passMinute 22 = .ok (.iaload, 1) := by decide +kernel
theorem dX13_passMinute_23 : decode cX13_passMinute 23 = .ok (.if_icmp .ge 22, 3) := by decide +kernel
theorem dX13_passMinute_26 : decode cX13_passMinute 26 = .ok (.aload_n 0, 1) := by decide +kernel
theorem dX13_passMinute_27 : decode cX13_passMinute 27 = .ok (.iload_n 1, 1) := by decide +kernel
theorem dX13_passMinute_28 : decode cX13_passMinute 28 = .ok (.invokevirtual 189, 3) := by decide +kernel
theorem dX13_passMinute_31 : decode cX13_passMinute 31 = .ok (.ifCond .eq 8, 3) := by decide +kernel
theorem dX13_passMinute_34 : decode cX13_passMinute 34 = .ok (.aload_n 0, 1) := by decide +kernel
theorem dX13_passMinute_35 : decode cX13_passMinute 35 = .ok (.iload_n 1, 1) := by decide +kernel
theorem dX13_passMinute_36 : decode cX13_passMinute 36 = .ok (.invokevirtual 192, 3) := by decide +kernel
theorem dX13_passMinute_39 : decode cX13_passMinute 39 = .ok (.iinc 1 1, 3) := by decide +kernel
theorem dX13_passMinute_42 : decode cX13_passMinute 42 = .ok (.goto (-26), 3) := by decide +kernel
theorem dX13_passMinute_45 : decode cX13_passMinute 45 = .ok (.iconst 0, 1) := by decide +kernel
theorem dX13_passMinute_46 : decode cX13_passMinute 46 = .ok (.istore_n 1, 1) := by decide +kernel
theorem dX13_passMinute_47 : decode cX13_passMinute 47 = .ok (.iload_n 1, 1) := by decide +kernel
theorem dX13_passMinute_48 : decode cX13_passMinute 48 = .ok (.aload_n 0, 1) := by decide +kernel
theorem dX13_passMinute_49 : decode cX13_passMinute 49 = .ok (.getfield 28, 3) := by decide +kernel
theorem dX13_passMinute_52 : decode cX13_passMinute 52 = .ok (.iconst 2, 1) := by decide +kernel
theorem dX13_passMinute_53 : decode cX13_passMinute 53 = .ok (.iaload, 1) := by decide +kernel
theorem dX13_passMinute_54 : decode cX13_passMinute 54 = .ok (.if_icmp .ge 14, 3) := by decide +kernel
theorem dX13_passMinute_57 : decode cX13_passMinute 57 = .ok (.aload_n 0, 1) := by decide +kernel
theorem dX13_passMinute_58 : decode cX13_passMinute 58 = .ok (.iload_n 1, 1) := by decide +kernel
theorem dX13_passMinute_59 : decode cX13_passMinute 59 = .ok (.invokevirtual 195, 3) := by decide +kernel
theorem dX13_passMinute_62 : decode cX13_passMinute 62 = .ok (.iinc 1 1, 3) := by decide +kernel
theorem dX13_passMinute_65 : decode cX13_passMinute 65 = .ok (.goto (-18), 3) := by decide +kernel
theorem dX13_passMinute_68 : decode cX13_passMinute 68 = .ok (.iconst 0, 1) := by decide +kernel
theorem dX13_passMinute_69 : decode cX13_passMinute 69 = .ok (.istore_n 1, 1) := by decide +kernel
theorem dX13_passMinute_70 : decode cX13_passMinute 70 = .ok (.iconst 0, 1) := by decide +kernel
theorem dX13_passMinute_71 : decode cX13_passMinute 71 = .ok (.istore_n 2, 1) := by decide +kernel
theorem dX13_passMinute_72 : decode cX13_passMinute 72 = .ok (.iload_n 2, 1) := by decide +kernel
theorem dX13_passMinute_73 : decode cX13_passMinute 73 = .ok (.aload_n 0, 1) := by decide +kernel
theorem dX13_passMinute_74 : decode cX13_passMinute 74 = .ok (.getfield 28, 3) := by decide +kernel
theorem dX13_passMinute_77 : decode cX13_passMinute 77 = .ok (.iconst 2, 1) := by decide +kernel
theorem dX13_passMinute_78 : decode cX13_passMinute 78 = .ok (.iaload, 1) := by decide +kernel
theorem dX13_passMinute_79 : decode cX13_passMinute 79 = .ok (.if_icmp .ge 29, 3) := by decide +kernel
theorem dX13_passMinute_82 : decode cX13_passMinute 82 = .ok (.iload_n 1, 1) := by decide +kernel
theorem dX13_passMinute_83 : decode cX13_passMinute 83 = .ok (.aload_n 0, 1) := by decide +kernel
theorem dX13_passMinute_84 : decode cX13_passMinute 84 = .ok (.iload_n 2, 1) := by decide +kernel
theorem dX13_passMinute_85 : decode cX13_passMinute 85 = .ok (.invokevirtual 104, 3) := by decide +kernel
theorem dX13_passMinute_88 : decode cX13_passMinute 88 = .ok (.ifCond .eq 7, 3) := by decide +kernel
theorem dX13_passMinute_91 : decode cX13_passMinute 91 = .ok (.iconst 0, 1) := by decide +kernel
theorem dX13_passMinute_92 : decode cX13_passMinute 92 = .ok (.goto 8, 3) := by decide +kernel
theorem dX13_passMinute_95 : decode cX13_passMinute 95 = .ok (.aload_n 0, 1) := by decide +kernel
theorem dX13_passMinute_96 : decode cX13_passMinute 96 = .ok (.iload_n 2, 1) := by decide +kernel
theorem dX13_passMinute_97 : decode cX13_passMinute 97 = .ok (.invokevirtual 198, 3) := by decide +kernel
theorem dX13_passMinute_100 : decode cX13_passMinute 100 = .ok (.iadd, 1) := by decide +kernel
theorem dX13_passMinute_101 : decode cX13_passMinute 101 = .ok (.istore_n 1, 1) := by decide +kernel
theorem dX13_passMinute_102 : decode cX13_passMinute 102 = .ok (.iinc 2 1, 3) := by decide +kernel
theorem dX13_passMinute_105 : decode cX13_passMinute 105 = .ok (.goto (-33), 3) := by decide +kernel
theorem dX13_passMinute_108 : decode cX13_passMinute 108 = .ok (.aload_n 0, 1) := by decide +kernel
theorem dX13_passMinute_109 : decode cX13_passMinute 109 = .ok (.invokevirtual 201, 3) := by decide +kernel
theorem dX13_passMinute_112 : decode cX13_passMinute 112 = .ok (.aload_n 0, 1) := by decide +kernel
theorem dX13_passMinute_113 : decode cX13_passMinute 113 = .ok (.getfield 28, 3) := by decide +kernel
theorem dX13_passMinute_116 : decode cX13_passMinute 116 = .ok (.iconst 0, 1) := by decide +kernel
theorem dX13_passMinute_117 : decode cX13_passMinute 117 = .ok (.dup2, 1) := by decide +kernel
theorem dX13_passMinute_118 : decode cX13_passMinute 118 = .ok (.iaload, 1) := by decide +kernel
theorem dX13_passMinute_119 : decode cX13_passMinute 119 = .ok (.iconst 1, 1) := by decide +kernel
theorem dX13_passMinute_120 : decode cX13_passMinute 120 = .ok (.iadd, 1) := by decide +kernel
theorem dX13_passMinute_121 : decode cX13_passMinute 121 = .ok (.iastore, 1) := by decide +kernel
theorem dX13_passMinute_122 : decode cX13_passMinute 122 = .ok (.iload_n 1, 1) := by decide +kernel
theorem dX13_passMinute_123 : decode cX13_passMinute 123 = .ok (.ireturn, 1) := by decide +kernel
theorem dX13_pass_0 : decode cX13_pass 0 = .ok (.iconst 0, 1) := by decide +kernel
theorem dX13_pass_1 : decode cX13_pass 1 = .ok (.istore_n 2, 1) := by decide +kernel
theorem dX13_pass_2 : decode cX13_pass 2 = .ok (.iconst 0, 1) := by decide +kernel
theorem dX13_pass_3 : decode cX13_pass 3 = .ok (.istore_n 3, 1) := by decide +kernel
theorem dX13_pass_4 : decode cX13_pass 4 = .ok (.iload_n 3, 1) := by decide +kernel
theorem dX13_pass_5 : decode cX13_pass 5 = .ok (.iload_n 1, 1) := by decide +kernel
theorem dX13_pass_6 : decode cX13_pass 6 = .ok (.if_icmp .ge 16, 3) := by decide +kernel
theorem dX13_pass_9 : decode cX13_pass 9 = .ok (.iload_n 2, 1) := by decide +kernel
theorem dX13_pass_10 : decode cX13_pass 10 = .ok (.aload_n 0, 1) := by decide +kernel
theorem dX13_pass_11 : decode cX13_pass 11 = .ok (.invokevirtual 204, 3) := by decide +kernel
theorem dX13_pass_14 : decode cX13_pass 14 = .ok (.iadd, 1) := by decide +kernel
theorem dX13_pass_15 : decode cX13_pass 15 = .ok (.istore_n 2, 1) := by decide +kernel
theorem dX13_pass_16 : decode cX13_pass 16 = .ok (.iinc 3 1, 3) := by decide +kernel
theorem dX13_pass_19 : decode cX13_pass 19 = .ok (.goto (-15), 3) := by decide +kernel
theorem dX13_pass_22 : decode cX13_pass 22 = .ok (.iload_n 2, 1) := by decide +kernel
theorem dX13_pass_23 : decode cX13_pass 23 = .ok (.ireturn, 1) := by decide +kernel
theorem dX13_isTooHigh_0 : decode cX13_isTooHigh 0 = .ok (.aload_n 0, 1) := by decide +kernel
theorem dX13_isTooHigh_1 : decode cX13_isTooHigh 1 = .ok (.iload_n 1, 1) := by decide +kernel
theorem dX13_isTooHigh_2 : decode cX13_isTooHigh 2 = .ok (.iconst 0, 1) := by decide +kernel
theorem dX13_isTooHigh_3 : decode cX13_isTooHigh 3 = .ok (.invokevirtual 93, 3) := by decide +kernel
theorem dX13_isTooHigh_6 : decode cX13_isTooHigh 6 = .ok (.iload_n 2, 1) := by decide +kernel
theorem dX13_isTooHigh_7 : decode cX13_isTooHigh 7 = .ok (.invokestatic 208, 3) := by decide +kernel
theorem dX13_isTooHigh_10 : decode cX13_isTooHigh 10 = .ok (.istore_n 3, 1) := by decide +kernel
theorem dX13_isTooHigh_11 : decode cX13_isTooHigh 11 = .ok (.aload_n 0, 1) := by decide +kernel
theorem dX13_isTooHigh_12 : decode cX13_isTooHigh 12 = .ok (.iload_n 1, 1) := by decide +kernel
theorem dX13_isTooHigh_13 : decode cX13_isTooHigh 13 = .ok (.iconst 0, 1) := by decide +kernel
theorem dX13_isTooHigh_14 : decode cX13_isTooHigh 14 = .ok (.invokevirtual 93, 3) := by decide +kernel
theorem dX13_isTooHigh_17 : decode cX13_isTooHigh 17 = .ok (.iload_n 2, 1) := by decide +kernel
theorem dX13_isTooHigh_18 : decode cX13_isTooHigh 18 = .ok (.invokestatic 211, 3) := by decide +kernel
theorem dX13_isTooHigh_21 : decode cX13_isTooHigh 21 = .ok (.istore 4, 2) := by decide +kernel
theorem dX13_isTooHigh_23 : decode cX13_isTooHigh 23 = .ok (.iload_n 3, 1) := by decide +kernel
theorem dX13_isTooHigh_24 : decode cX13_isTooHigh 24 = .ok (.istore 5, 2) := by decide +kernel
theorem dX13_isTooHigh_26 : decode cX13_isTooHigh 26 = .ok (.iload 5, 2) := by decide +kernel
theorem dX13_isTooHigh_28 : decode cX13_isTooHigh 28 = .ok (.iload 4, 2) := by decide +kernel
theorem dX13_isTooHigh_30 : decode cX13_isTooHigh 30 = .ok (.if_icmp .ge 43, 3) := by decide +kernel
theorem dX13_isTooHigh_33 : decode cX13_isTooHigh 33 = .ok (.aload_n 0, 1) := by decide +kernel
theorem dX13_isTooHigh_34 : decode cX13_isTooHigh 34 = .ok (.getfield 28, 3) := by decide +kernel
theorem dX13_isTooHigh_37 : decode cX13_isTooHigh 37 = .ok (.bipush 25, 2) := by decide +kernel
theorem dX13_isTooHigh_39 : decode cX13_isTooHigh 39 = .ok (.iload 5, 2) := by decide +kernel
theorem dX13_isTooHigh_41 : decode cX13_isTooHigh 41 = .ok (.iadd, 1) := by decide +kernel
theorem dX13_isTooHigh_42 : decode cX13_isTooHigh 42 = .ok (.iaload, 1) := by decide +kernel
theorem dX13_isTooHigh_43 : decode cX13_isTooHigh 43 = .ok (.ifCond .le 24, 3) := by decide +kernel
theorem dX13_isTooHigh_46 : decode cX13_isTooHigh 46 = .ok (.aload_n 0, 1) := by decide +kernel
theorem dX13_isTooHigh_47 : decode cX13_isTooHigh 47 = .ok (.getfield 28, 3) := by decide +kernel
theorem dX13_isTooHigh_50 : decode cX13_isTooHigh 50 = .ok (.bipush 25, 2) := by decide +kernel
theorem dX13_isTooHigh_52 : decode cX13_isTooHigh 52 = .ok (.iload 5, 2) := by decide +kernel
theorem dX13_isTooHigh_54 : decode cX13_isTooHigh 54 = .ok (.iadd, 1) := by decide +kernel
theorem dX13_isTooHigh_55 : decode cX13_isTooHigh 55 = .ok (.iaload, 1) := by decide +kernel
theorem dX13_isTooHigh_56 : decode cX13_isTooHigh 56 = .ok (.aload_n 0, 1) := by decide +kernel
theorem dX13_isTooHigh_57 : decode cX13_isTooHigh 57 = .ok (.iload_n 1, 1) := by decide +kernel
theorem dX13_isTooHigh_58 : decode cX13_isTooHigh 58 = .ok (.iconst 2, 1) := by decide +kernel
theorem dX13_isTooHigh_59 : decode cX13_isTooHigh 59 = .ok (.invokevirtual 93, 3) := by decide +kernel
theorem dX13_isTooHigh_62 : decode cX13_isTooHigh 62 = .ok (.if_icmp .ge 5, 3) := by decide +kernel
theorem dX13_isTooHigh_65 : decode cX13_isTooHigh 65 = .ok (.iconst 1, 1) := by decide +kernel
theorem dX13_isTooHigh_66 : decode cX13_isTooHigh 66 = .ok (.ireturn, 1) := by decide +kernel
theorem dX13_isTooHigh_67 : decode cX13_isTooHigh 67 = .ok (.iinc 5 1, 3) := by decide +kernel
theorem dX13_isTooHigh_70 : decode cX13_isTooHigh 70 = .ok (.goto (-44), 3) := by decide +kernel
theorem dX13_isTooHigh_73 : decode cX13_isTooHigh 73 = .ok (.iconst 0, 1) := by decide +kernel
theorem dX13_isTooHigh_74 : decode cX13_isTooHigh 74 = .ok (.ireturn, 1) := by decide +kernel
theorem dX13_whyNotSail_0 : decode cX13_whyNotSail 0 = .ok (.aload_n 0, 1) := by decide +kernel
theorem dX13_whyNotSail_1 : decode cX13_whyNotSail 1 = .ok (.iload_n 1, 1) := by decide +kernel
theorem dX13_whyNotSail_2 : decode cX13_whyNotSail 2 = .ok (.invokevirtual 104, 3) := by decide +kernel
theorem dX13_whyNotSail_5 : decode cX13_whyNotSail 5 = .ok (.ifCond .eq 7, 3) := by decide +kernel
theorem dX13_whyNotSail_8 : decode cX13_whyNotSail 8 = .ok (.iconst 1, 1) := by decide +kernel
theorem dX13_whyNotSail_9 : decode cX13_whyNotSail 9 = .ok (.goto 31, 3) := by decide +kernel
theorem dX13_whyNotSail_12 : decode cX13_whyNotSail 12 = .ok (.aload_n 0, 1) := by decide +kernel
theorem dX13_whyNotSail_13 : decode cX13_whyNotSail 13 = .ok (.iload_n 1, 1) := by decide +kernel
theorem dX13_whyNotSail_14 : decode cX13_whyNotSail 14 = .ok (.iconst 1, 1) := by decide +kernel
theorem dX13_whyNotSail_15 : decode cX13_whyNotSail 15 = .ok (.invokevirtual 93, 3) := by decide +kernel
theorem dX13_whyNotSail_18 : decode cX13_whyNotSail 18 = .ok (.iload_n 2, 1) := by decide +kernel
theorem dX13_whyNotSail_19 : decode cX13_whyNotSail 19 = .ok (.if_icmp .ne 7, 3) := by decide +kernel
theorem dX13_whyNotSail_22 : decode cX13_whyNotSail 22 = .ok (.iconst 2, 1) := by decide +kernel
theorem dX13_whyNotSail_23 : decode cX13_whyNotSail 23 = .ok (.goto 17, 3) := by decide +kernel
theorem dX13_whyNotSail_26 : decode cX13_whyNotSail 26 = .ok (.aload_n 0, 1) := by decide +kernel
theorem dX13_whyNotSail_27 : decode cX13_whyNotSail 27 = .ok (.iload_n 1, 1) := by decide +kernel
theorem dX13_whyNotSail_28 : decode cX13_whyNotSail 28 = .ok (.iload_n 2, 1) := by decide +kernel
theorem dX13_whyNotSail_29 : decode cX13_whyNotSail 29 = .ok (.invokevirtual 214, 3) := by decide +kernel
theorem dX13_whyNotSail_32 : decode cX13_whyNotSail 32 = .ok (.ifCond .eq 7, 3) := by decide +kernel
theorem dX13_whyNotSail_35 : decode cX13_whyNotSail 35 = .ok (.iconst 3, 1) := by decide +kernel
theorem dX13_whyNotSail_36 : decode cX13_whyNotSail 36 = .ok (.goto 4, 3) := by decide +kernel
theorem dX13_whyNotSail_39 : decode cX13_whyNotSail 39 = .ok (.iconst 0, 1) := by decide +kernel
theorem dX13_whyNotSail_40 : decode cX13_whyNotSail 40 = .ok (.ireturn, 1) := by decide +kernel
theorem dX13_sailObstacle_0 : decode cX13_sailObstacle 0 = .ok (.aload_n 0, 1) := by decide +kernel
theorem dX13_sailObstacle_1 : decode cX13_sailObstacle 1 = .ok (.aload_n 0, 1) := by decide +kernel
theorem dX13_sailObstacle_2 : decode cX13_sailObstacle 2 = .ok (.iload_n 1, 1) := by decide +kernel
theorem dX13_sailObstacle_3 : decode cX13_sailObstacle 3 = .ok (.invokevirtual 140, 3) := by decide +kernel
theorem dX13_sailObstacle_6 : decode cX13_sailObstacle 6 = .ok (.ifCond .eq 15, 3) := by decide +kernel
theorem dX13_sailObstacle_9 : decode cX13_sailObstacle 9 = .ok (.aload_n 0, 1) := by decide +kernel
theorem dX13_sailObstacle_10 : decode cX13_sailObstacle 10 = .ok (.iload_n 2, 1) := by decide +kernel
theorem dX13_sailObstacle_11 : decode cX13_sailObstacle 11 = .ok (.invokevirtual 131, 3) := by decide +kernel
theorem dX13_sailObstacle_14 : decode cX13_sailObstacle 14 = .ok (.ifCond .eq 7, 3) := by decide +kernel
theorem dX13_sailObstacle_17 : decode cX13_sailObstacle 17 = .ok (.iconst 1, 1) := by decide +kernel
theorem dX13_sailObstacle_18 : decode cX13_sailObstacle 18 = .ok (.goto 4, 3) := by decide +kernel
theorem dX13_sailObstacle_21 : decode cX13_sailObstacle 21 = .ok (.iconst 0, 1) := by decide +kernel
theorem dX13_sailObstacle_22 : decode cX13_sailObstacle 22 = .ok (.invokevirtual 82, 3) := by decide +kernel
theorem dX13_sailObstacle_25 : decode cX13_sailObstacle 25 = .ok (.ifCond .eq 7, 3) := by decide +kernel
theorem dX13_sailObstacle_28 : decode cX13_sailObstacle 28 = .ok (.iconst 0, 1) := by decide +kernel
theorem dX13_sailObstacle_29 : decode cX13_sailObstacle 29 = .ok (.goto 9, 3) := by decide +kernel
theorem dX13_sailObstacle_32 : decode cX13_sailObstacle 32 = .ok (.aload_n 0, 1) := by decide +kernel
theorem dX13_sailObstacle_33 : decode cX13_sailObstacle 33 = .ok (.iload_n 1, 1) := by decide +kernel
theorem dX13_sailObstacle_34 : decode cX13_sailObstacle 34 = .ok (.iload_n 2, 1) := by decide +kernel
theorem dX13_sailObstacle_35 : decode cX13_sailObstacle 35 = .ok (.invokevirtual 217, 3) := by decide +kernel
theorem dX13_sailObstacle_38 : decode cX13_sailObstacle 38 = .ok (.ireturn, 1) := by decide +kernel
theorem dX13_timeFor_0 : decode cX13_timeFor 0 = .ok (.iconst 0, 1) := by decide +kernel
theorem dX13_timeFor_1 : decode cX13_timeFor 1 = .ok (.istore_n 3, 1) := by decide +kernel
theorem dX13_timeFor_2 : decode cX13_timeFor 2 = .ok (.iload_n 1, 1) := by decide +kernel
theorem dX13_timeFor_3 : decode cX13_timeFor 3 = .ok (.iload_n 2, 1) := by decide +kernel
theorem dX13_timeFor_4 : decode cX13_timeFor 4 = .ok (.invokestatic 208, 3) := by decide +kernel
theorem dX13_timeFor_7 : decode cX13_timeFor 7 = .ok (.istore 4, 2) := by decide +kernel
theorem dX13_timeFor_9 : decode cX13_timeFor 9 = .ok (.iload 4, 2) := by decide +kernel
theorem dX13_timeFor_11 : decode cX13_timeFor 11 = .ok (.iload_n 1, 1) := by decide +kernel
theorem dX13_timeFor_12 : decode cX13_timeFor 12 = .ok (.iload_n 2, 1) := by decide +kernel
theorem dX13_timeFor_13 : decode cX13_timeFor 13 = .ok (.invokestatic 211, 3) := by decide +kernel
theorem dX13_timeFor_16 : decode cX13_timeFor 16 = .ok (.if_icmp .ge 24, 3) := by decide +kernel
theorem dX13_timeFor_19 : decode cX13_timeFor 19 = .ok (.iload_n 3, 1) := by decide +kernel
theorem dX13_timeFor_20 : decode cX13_timeFor 20 = .ok (.iconst 1, 1) := by decide +kernel
theorem dX13_timeFor_21 : decode cX13_timeFor 21 = .ok (.aload_n 0, 1) := by decide +kernel
theorem dX13_timeFor_22 : decode cX13_timeFor 22 = .ok (.getfield 28, 3) := by decide +kernel
theorem dX13_timeFor_25 : decode cX13_timeFor 25 = .ok (.bipush 10, 2) := by decide +kernel
theorem dX13_timeFor_27 : decode cX13_timeFor 27 = .ok (.iload 4, 2) := by decide +kernel
theorem dX13_timeFor_29 : decode cX13_timeFor 29 = .ok (.iadd, 1) := by decide +kernel
theorem dX13_timeFor_30 : decode cX13_timeFor 30 = .ok (.iaload, 1) := by decide +kernel
theorem dX13_timeFor_31 : decode cX13_timeFor 31 = .ok (.iadd, 1) := by decide +kernel
theorem dX13_timeFor_32 : decode cX13_timeFor 32 = .ok (.iadd, 1) := by decide +kernel
theorem dX13_timeFor_33 : decode cX13_timeFor 33 = .ok (.istore_n 3, 1) := by decide +kernel
theorem dX13_timeFor_34 : decode cX13_timeFor 34 = .ok (.iinc 4 1, 3) := by decide +kernel
theorem dX13_timeFor_37 : decode cX13_timeFor 37 = .ok (.goto (-28), 3) := by decide +kernel
theorem dX13_timeFor_40 : decode cX13_timeFor 40 = .ok (.iload_n 3, 1) := by decide +kernel
theorem dX13_timeFor_41 : decode cX13_timeFor 41 = .ok (.ireturn, 1) := by decide +kernel
theorem dX13_journeyTime_0 : decode cX13_journeyTime 0 = .ok (.aload_n 0, 1) := by decide +kernel
theorem dX13_journeyTime_1 : decode cX13_journeyTime 1 = .ok (.aload_n 0, 1) := by decide +kernel
theorem dX13_journeyTime_2 : decode cX13_journeyTime 2 = .ok (.iload_n 1, 1) := by decide +kernel
theorem dX13_journeyTime_3 : decode cX13_journeyTime 3 = .ok (.invokevirtual 131, 3) := by decide +kernel
theorem dX13_journeyTime_6 : decode cX13_journeyTime 6 = .ok (.ifCond .eq 15, 3) := by decide +kernel
theorem dX13_journeyTime_9 : decode cX13_journeyTime 9 = .ok (.aload_n 0, 1) := by decide +kernel
theorem dX13_journeyTime_10 : decode cX13_journeyTime 10 = .ok (.iload_n 2, 1) := by decide +kernel
theorem dX13_journeyTime_11 : decode cX13_journeyTime 11 = .ok (.invokevirtual 131, 3) := by decide +kernel
theorem dX13_journeyTime_14 : decode cX13_journeyTime 14 = .ok (.ifCond .eq 7, 3) := by decide +kernel
theorem dX13_journeyTime_17 : decode cX13_journeyTime 17 = .ok (.iconst 1, 1) := by decide +kernel
theorem dX13_journeyTime_18 : decode cX13_journeyTime 18 = .ok (.goto 4, 3) := by decide +kernel
theorem dX13_journeyTime_21 : decode cX13_journeyTime 21 = .ok (.iconst 0, 1) := by decide +kernel
theorem dX13_journeyTime_22 : decode cX13_journeyTime 22 = .ok (.invokevirtual 82, 3) := by decide +kernel
theorem dX13_journeyTime_25 : decode cX13_journeyTime 25 = .ok (.ifCond .eq 7, 3) := by decide +kernel
theorem dX13_journeyTime_28 : decode cX13_journeyTime 28 = .ok (.iconst 0, 1) := by decide +kernel
theorem dX13_journeyTime_29 : decode cX13_journeyTime 29 = .ok (.goto 9, 3) := by decide +kernel
theorem dX13_journeyTime_32 : decode cX13_journeyTime 32 = .ok (.aload_n 0, 1) := by decide +kernel
theorem dX13_journeyTime_33 : decode cX13_journeyTime 33 = .ok (.iload_n 1, 1) := by decide +kernel
theorem dX13_journeyTime_34 : decode cX13_journeyTime 34 = .ok (.iload_n 2, 1) := by decide +kernel
theorem dX13_journeyTime_35 : decode cX13_journeyTime 35 = .ok (.invokevirtual 220, 3) := by decide +kernel
theorem dX13_journeyTime_38 : decode cX13_journeyTime 38 = .ok (.ireturn, 1) := by decide +kernel
theorem dX13_copy_0 : decode cX13_copy 0 = .ok (.aload_n 0, 1) := by decide +kernel
theorem dX13_copy_1 : decode cX13_copy 1 = .ok (.sipush 377, 3) := by decide +kernel
theorem dX13_copy_4 : decode cX13_copy 4 = .ok (.iload_n 1, 1) := by decide +kernel
theorem dX13_copy_5 : decode cX13_copy 5 = .ok (.imul, 1) := by decide +kernel
theorem dX13_copy_6 : decode cX13_copy 6 = .ok (.aload_n 2, 1) := by decide +kernel
theorem dX13_copy_7 : decode cX13_copy 7 = .ok (.sipush 377, 3) := by decide +kernel
theorem dX13_copy_10 : decode cX13_copy 10 = .ok (.iload_n 3, 1) := by decide +kernel
theorem dX13_copy_11 : decode cX13_copy 11 = .ok (.imul, 1) := by decide +kernel
theorem dX13_copy_12 : decode cX13_copy 12 = .ok (.sipush 377, 3) := by decide +kernel
theorem dX13_copy_15 : decode cX13_copy 15 = .ok (.invokestatic 223, 3) := by decide +kernel
theorem dX13_copy_18 : decode cX13_copy 18 = .ok (.return_, 1) := by decide +kernel
theorem dX13_foresee_0 : decode cX13_foresee 0 = .ok (.aload_n 0, 1) := by decide +kernel
theorem dX13_foresee_1 : decode cX13_foresee 1 = .ok (.getfield 28, 3) := by decide +kernel
theorem dX13_foresee_4 : decode cX13_foresee 4 = .ok (.iconst 0, 1) := by decide +kernel
theorem dX13_foresee_5 : decode cX13_foresee 5 = .ok (.aload_n 0, 1) := by decide +kernel
theorem dX13_foresee_6 : decode cX13_foresee 6 = .ok (.getfield 16, 3) := by decide +kernel
theorem dX13_foresee_9 : decode cX13_foresee 9 = .ok (.iconst 0, 1) := by decide +kernel
theorem dX13_foresee_10 : decode cX13_foresee 10 = .ok (.invokestatic 229, 3) := by decide +kernel
theorem dX13_foresee_13 : decode cX13_foresee 13 = .ok (.aload_n 0, 1) := by decide +kernel
theorem dX13_foresee_14 : decode cX13_foresee 14 = .ok (.iload_n 1, 1) := by decide +kernel
theorem dX13_foresee_15 : decode cX13_foresee 15 = .ok (.invokevirtual 233, 3) := by decide +kernel
theorem dX13_foresee_18 : decode cX13_foresee 18 = .ok (.istore_n 2, 1) := by decide +kernel
theorem dX13_foresee_19 : decode cX13_foresee 19 = .ok (.return_, 1) := by decide +kernel
theorem dX13_laidBack_0 : decode cX13_laidBack 0 = .ok (.aload_n 0, 1) := by decide +kernel
theorem dX13_laidBack_1 : decode cX13_laidBack 1 = .ok (.getfield 16, 3) := by decide +kernel
theorem dX13_laidBack_4 : decode cX13_laidBack 4 = .ok (.iconst 0, 1) := by decide +kernel
theorem dX13_laidBack_5 : decode cX13_laidBack 5 = .ok (.aload_n 0, 1) := by decide +kernel
theorem dX13_laidBack_6 : decode cX13_laidBack 6 = .ok (.getfield 28, 3) := by decide +kernel
theorem dX13_laidBack_9 : decode cX13_laidBack 9 = .ok (.iconst 0, 1) := by decide +kernel
theorem dX13_laidBack_10 : decode cX13_laidBack 10 = .ok (.invokestatic 229, 3) := by decide +kernel
theorem dX13_laidBack_13 : decode cX13_laidBack 13 = .ok (.iload_n 1, 1) := by decide +kernel
theorem dX13_laidBack_14 : decode cX13_laidBack 14 = .ok (.ireturn, 1) := by decide +kernel
theorem dX13_untilThere_0 : decode cX13_untilThere 0 = .ok (.iconst 0, 1) := by decide +kernel
theorem dX13_untilThere_1 : decode cX13_untilThere 1 = .ok (.istore_n 2, 1) := by decide +kernel
theorem dX13_untilThere_2 : decode cX13_untilThere 2 = .ok (.iload_n 2, 1) := by decide +kernel
theorem dX13_untilThere_3 : decode cX13_untilThere 3 = .ok (.sipush 200, 3) := by decide +kernel
theorem dX13_untilThere_6 : decode cX13_untilThere 6 = .ok (.if_icmp .gt 24, 3) := by decide +kernel
theorem dX13_untilThere_9 : decode cX13_untilThere 9 = .ok (.aload_n 0, 1) := by decide +kernel
theorem dX13_untilThere_10 : decode cX13_untilThere 10 = .ok (.iload_n 1, 1) := by decide +kernel
theorem dX13_untilThere_11 : decode cX13_untilThere 11 = .ok (.invokevirtual 189, 3) := by decide +kernel
theorem dX13_untilThere_14 : decode cX13_untilThere 14 = .ok (.ifCond .ne 5, 3) := by decide +kernel
theorem dX13_untilThere_17 : decode cX13_untilThere 17 = .ok (.iload_n 2, 1) := by decide +kernel
theorem dX13_untilThere_18 : decode cX13_untilThere 18 = .ok (.ireturn, 1) := by decide +kernel
theorem dX13_untilThere_19 : decode cX13_untilThere 19 = .ok (.aload_n 0, 1) := by decide +kernel
theorem dX13_untilThere_20 : decode cX13_untilThere 20 = .ok (.invokevirtual 204, 3) := by decide +kernel
theorem dX13_untilThere_23 : decode cX13_untilThere 23 = .ok (.istore_n 3, 1) := by decide +kernel
theorem dX13_untilThere_24 : decode cX13_untilThere 24 = .ok (.iinc 2 1, 3) := by decide +kernel
theorem dX13_untilThere_27 : decode cX13_untilThere 27 = .ok (.goto (-25), 3) := by decide +kernel
theorem dX13_untilThere_30 : decode cX13_untilThere 30 = .ok (.iconst (-1), 1) := by decide +kernel
theorem dX13_untilThere_31 : decode cX13_untilThere 31 = .ok (.ireturn, 1) := by decide +kernel
theorem dX13_minutesToTarget_0 : decode cX13_minutesToTarget 0 = .ok (.aload_n 0, 1) := by decide +kernel
theorem dX13_minutesToTarget_1 : decode cX13_minutesToTarget 1 = .ok (.aload_n 0, 1) := by decide +kernel
theorem dX13_minutesToTarget_2 : decode cX13_minutesToTarget 2 = .ok (.iload_n 1, 1) := by decide +kernel
theorem dX13_minutesToTarget_3 : decode cX13_minutesToTarget 3 = .ok (.invokevirtual 140, 3) := by decide +kernel
theorem dX13_minutesToTarget_6 : decode cX13_minutesToTarget 6 = .ok (.invokevirtual 82, 3) := by decide +kernel
theorem dX13_minutesToTarget_9 : decode cX13_minutesToTarget 9 = .ok (.ifCond .eq 5, 3) := by decide +kernel
theorem dX13_minutesToTarget_12 : decode cX13_minutesToTarget 12 = .ok (.iconst 0, 1) := by decide +kernel
theorem dX13_minutesToTarget_13 : decode cX13_minutesToTarget 13 = .ok (.ireturn, 1) := by decide +kernel
theorem dX13_minutesToTarget_14 : decode cX13_minutesToTarget 14 = .ok (.aload_n 0, 1) := by decide +kernel
theorem dX13_minutesToTarget_15 : decode cX13_minutesToTarget 15 = .ok (.iconst 0, 1) := by decide +kernel
theorem dX13_minutesToTarget_16 : decode cX13_minutesToTarget 16 = .ok (.invokevirtual 236, 3) := by decide +kernel
theorem dX13_minutesToTarget_19 : decode cX13_minutesToTarget 19 = .ok (.aload_n 0, 1) := by decide +kernel
theorem dX13_minutesToTarget_20 : decode cX13_minutesToTarget 20 = .ok (.aload_n 0, 1) := by decide +kernel
theorem dX13_minutesToTarget_21 : decode cX13_minutesToTarget 21 = .ok (.iload_n 1, 1) := by decide +kernel
theorem dX13_minutesToTarget_22 : decode cX13_minutesToTarget 22 = .ok (.invokevirtual 239, 3) := by decide +kernel
theorem dX13_minutesToTarget_25 : decode cX13_minutesToTarget 25 = .ok (.invokevirtual 242, 3) := by decide +kernel
theorem dX13_minutesToTarget_28 : decode cX13_minutesToTarget 28 = .ok (.ireturn, 1) := by decide +kernel
theorem dX13_willBeEaten_0 : decode cX13_willBeEaten 0 = .ok (.aload_n 0, 1) := by decide +kernel
theorem dX13_willBeEaten_1 : decode cX13_willBeEaten 1 = .ok (.aload_n 0, 1) := by decide +kernel
theorem dX13_willBeEaten_2 : decode cX13_willBeEaten 2 = .ok (.iload_n 1, 1) := by decide +kernel
theorem dX13_willBeEaten_3 : decode cX13_willBeEaten 3 = .ok (.invokevirtual 152, 3) := by decide +kernel
theorem dX13_willBeEaten_6 : decode cX13_willBeEaten 6 = .ok (.invokevirtual 82, 3) := by decide +kernel
theorem dX13_willBeEaten_9 : decode cX13_willBeEaten 9 = .ok (.ifCond .eq 5, 3) := by decide +kernel
theorem dX13_willBeEaten_12 : decode cX13_willBeEaten 12 = .ok (.iconst 0, 1) := by decide +kernel
theorem dX13_willBeEaten_13 : decode cX13_willBeEaten 13 = .ok (.ireturn, 1) := by decide +kernel
theorem dX13_willBeEaten_14 : decode cX13_willBeEaten 14 = .ok (.aload_n 0, 1) := by decide +kernel
theorem dX13_willBeEaten_15 : decode cX13_willBeEaten 15 = .ok (.sipush 200, 3) := by decide +kernel
theorem dX13_willBeEaten_18 : decode cX13_willBeEaten 18 = .ok (.invokevirtual 236, 3) := by decide +kernel
theorem dX13_willBeEaten_21 : decode cX13_willBeEaten 21 = .ok (.aload_n 0, 1) := by decide +kernel
theorem dX13_willBeEaten_22 : decode cX13_willBeEaten 22 = .ok (.aload_n 0, 1) := by decide +kernel
theorem dX13_willBeEaten_23 : decode cX13_willBeEaten 23 = .ok (.iload_n 1, 1) := by decide +kernel
theorem dX13_willBeEaten_24 : decode cX13_willBeEaten 24 = .ok (.iconst 3, 1) := by decide +kernel
theorem dX13_willBeEaten_25 : decode cX13_willBeEaten 25 = .ok (.invokevirtual 116, 3) := by decide +kernel
theorem dX13_willBeEaten_28 : decode cX13_willBeEaten 28 = .ok (.ifCond .eq 7, 3) := by decide +kernel
theorem dX13_willBeEaten_31 : decode cX13_willBeEaten 31 = .ok (.iconst 1, 1) := by decide +kernel
theorem dX13_willBeEaten_32 : decode cX13_willBeEaten 32 = .ok (.goto 4, 3) := by decide +kernel
theorem dX13_willBeEaten_35 : decode cX13_willBeEaten 35 = .ok (.iconst 0, 1) := by decide +kernel
theorem dX13_willBeEaten_36 : decode cX13_willBeEaten 36 = .ok (.invokevirtual 242, 3) := by decide +kernel
theorem dX13_willBeEaten_39 : decode cX13_willBeEaten 39 = .ok (.iconst 1, 1) := by decide +kernel
theorem dX13_willBeEaten_40 : decode cX13_willBeEaten 40 = .ok (.if_icmp .ne 7, 3) := by decide +kernel
theorem dX13_willBeEaten_43 : decode cX13_willBeEaten 43 = .ok (.iconst 1, 1) := by decide +kernel
theorem dX13_willBeEaten_44 : decode cX13_willBeEaten 44 = .ok (.goto 4, 3) := by decide +kernel
theorem dX13_willBeEaten_47 : decode cX13_willBeEaten 47 = .ok (.iconst 0, 1) := by decide +kernel
theorem dX13_willBeEaten_48 : decode cX13_willBeEaten 48 = .ok (.ireturn, 1) := by decide +kernel
theorem dX13_coinsAfter_0 : decode cX13_coinsAfter 0 = .ok (.aload_n 0, 1) := by decide +kernel
theorem dX13_coinsAfter_1 : decode cX13_coinsAfter 1 = .ok (.iload_n 1, 1) := by decide +kernel
theorem dX13_coinsAfter_2 : decode cX13_coinsAfter 2 = .ok (.iconst 0, 1) := by decide +kernel
theorem dX13_coinsAfter_3 : decode cX13_coinsAfter 3 = .ok (.sipush 200, 3) := by decide +kernel
theorem dX13_coinsAfter_6 : decode cX13_coinsAfter 6 = .ok (.invokestatic 97, 3) := by decide +kernel
theorem dX13_coinsAfter_9 : decode cX13_coinsAfter 9 = .ok (.invokevirtual 82, 3) := by decide +kernel
theorem dX13_coinsAfter_12 : decode cX13_coinsAfter 12 = .ok (.ifCond .eq 5, 3) := by decide +kernel
theorem dX13_coinsAfter_15 : decode cX13_coinsAfter 15 = .ok (.iconst 0, 1) := by decide +kernel
theorem dX13_coinsAfter_16 : decode cX13_coinsAfter 16 = .ok (.ireturn, 1) := by decide +kernel
theorem dX13_coinsAfter_17 : decode cX13_coinsAfter 17 = .ok (.aload_n 0, 1) := by decide +kernel
theorem dX13_coinsAfter_18 : decode cX13_coinsAfter 18 = .ok (.iload_n 1, 1) := by decide +kernel
theorem dX13_coinsAfter_19 : decode cX13_coinsAfter 19 = .ok (.invokevirtual 236, 3) := by decide +kernel
theorem dX13_coinsAfter_22 : decode cX13_coinsAfter 22 = .ok (.aload_n 0, 1) := by decide +kernel
theorem dX13_coinsAfter_23 : decode cX13_coinsAfter 23 = .ok (.aload_n 0, 1) := by decide +kernel
theorem dX13_coinsAfter_24 : decode cX13_coinsAfter 24 = .ok (.getfield 28, 3) := by decide +kernel
theorem dX13_coinsAfter_27 : decode cX13_coinsAfter 27 = .ok (.iconst 4, 1) := by decide +kernel
theorem dX13_coinsAfter_28 : decode cX13_coinsAfter 28 = .ok (.iaload, 1) := by decide +kernel
theorem dX13_coinsAfter_29 : decode cX13_coinsAfter 29 = .ok (.invokevirtual 242, 3) := by decide +kernel
theorem dX13_coinsAfter_32 : decode cX13_coinsAfter 32 = .ok (.ireturn, 1) := by decide +kernel
theorem dX13_nearestBarge_0 : decode cX13_nearestBarge 0 = .ok (.aload_n 0, 1) := by decide +kernel
theorem dX13_nearestBarge_1 : decode cX13_nearestBarge 1 = .ok (.aload_n 0, 1) := by decide +kernel
theorem dX13_nearestBarge_2 : decode cX13_nearestBarge 2 = .ok (.iload_n 1, 1) := by decide +kernel
theorem dX13_nearestBarge_3 : decode cX13_nearestBarge 3 = .ok (.invokevirtual 152, 3) := by decide +kernel
theorem dX13_nearestBarge_6 : decode cX13_nearestBarge 6 = .ok (.invokevirtual 82, 3) := by decide +kernel
theorem dX13_nearestBarge_9 : decode cX13_nearestBarge 9 = .ok (.ifCond .eq 5, 3) := by decide +kernel
theorem dX13_nearestBarge_12 : decode cX13_nearestBarge 12 = .ok (.iconst 0, 1) := by decide +kernel
theorem dX13_nearestBarge_13 : decode cX13_nearestBarge 13 = .ok (.ireturn, 1) := by decide +kernel
theorem dX13_nearestBarge_14 : decode cX13_nearestBarge 14 = .ok (.aload_n 0, 1) := by decide +kernel
theorem dX13_nearestBarge_15 : decode cX13_nearestBarge 15 = .ok (.iload_n 1, 1) := by decide +kernel
theorem dX13_nearestBarge_16 : decode cX13_nearestBarge 16 = .ok (.iconst 0, 1) := by decide +kernel
theorem dX13_nearestBarge_17 : decode cX13_nearestBarge 17 = .ok (.invokevirtual 101, 3) := by decide +kernel
theorem dX13_nearestBarge_20 : decode cX13_nearestBarge 20 = .ok (.istore_n 2, 1) := by decide +kernel
theorem dX13_nearestBarge_21 : decode cX13_nearestBarge 21 = .ok (.iconst 0, 1) := by decide +kernel
theorem dX13_nearestBarge_22 : decode cX13_nearestBarge 22 = .ok (.istore_n 3, 1) := by decide +kernel
theorem dX13_nearestBarge_23 : decode cX13_nearestBarge 23 = .ok (.iconst 1, 1) := by decide +kernel
theorem dX13_nearestBarge_24 : decode cX13_nearestBarge 24 = .ok (.istore 4, 2) := by decide +kernel
theorem dX13_nearestBarge_26 : decode cX13_nearestBarge 26 = .ok (.iload 4, 2) := by decide +kernel
theorem dX13_nearestBarge_28 : decode cX13_nearestBarge 28 = .ok (.aload_n 0, 1) := by decide +kernel
theorem dX13_nearestBarge_29 : decode cX13_nearestBarge 29 = .ok (.getfield 28, 3) := by decide +kernel
theorem dX13_nearestBarge_32 : decode cX13_nearestBarge 32 = .ok (.iconst 2, 1) := by decide +kernel
theorem dX13_nearestBarge_33 : decode cX13_nearestBarge 33 = .ok (.iaload, 1) := by decide +kernel
theorem dX13_nearestBarge_34 : decode cX13_nearestBarge 34 = .ok (.if_icmp .ge 42, 3) := by decide +kernel
theorem dX13_nearestBarge_37 : decode cX13_nearestBarge 37 = .ok (.aload_n 0, 1) := by decide +kernel
theorem dX13_nearestBarge_38 : decode cX13_nearestBarge 38 = .ok (.aload_n 0, 1) := by decide +kernel
theorem dX13_nearestBarge_39 : decode cX13_nearestBarge 39 = .ok (.iload 4, 2) := by decide +kernel
theorem dX13_nearestBarge_41 : decode cX13_nearestBarge 41 = .ok (.iconst 0, 1) := by decide +kernel
theorem dX13_nearestBarge_42 : decode cX13_nearestBarge 42 = .ok (.invokevirtual 93, 3) := by decide +kernel
theorem dX13_nearestBarge_45 : decode cX13_nearestBarge 45 = .ok (.iload_n 2, 1) := by decide +kernel
theorem dX13_nearestBarge_46 : decode cX13_nearestBarge 46 = .ok (.invokevirtual 220, 3) := by decide +kernel
theorem dX13_nearestBarge_49 : decode cX13_nearestBarge 49 = .ok (.aload_n 0, 1) := by decide +kernel
theorem dX13_nearestBarge_50 : decode cX13_nearestBarge 50 = .ok (.aload_n 0, 1) := by decide +kernel
theorem dX13_nearestBarge_51 : decode cX13_nearestBarge 51 = .ok (.iload_n 3, 1) := by decide +kernel
theorem dX13_nearestBarge_52 : decode cX13_nearestBarge 52 = .ok (.iconst 0, 1) := by decide +kernel
theorem dX13_nearestBarge_53 : decode cX13_nearestBarge 53 = .ok (.invokevirtual 93, 3) := by decide +kernel
theorem dX13_nearestBarge_56 : decode cX13_nearestBarge 56 = .ok (.iload_n 2, 1) := by decide +kernel
theorem dX13_nearestBarge_57 : decode cX13_nearestBarge 57 = .ok (.invokevirtual 220, 3) := by decide +kernel
theorem dX13_nearestBarge_60 : decode cX13_nearestBarge 60 = .ok (.if_icmp .ge 8, 3) := by decide +kernel
theorem dX13_nearestBarge_63 : decode cX13_nearestBarge 63 = .ok (.iload 4, 2) := by decide +kernel
theorem dX13_nearestBarge_65 : decode cX13_nearestBarge 65 = .ok (.goto 4, 3) := by decide +kernel
theorem dX13_nearestBarge_68 : decode cX13_nearestBarge 68 = .ok (.iload_n 3, 1) := by decide +kernel
theorem dX13_nearestBarge_69 : decode cX13_nearestBarge 69 = .ok (.istore_n 3, 1) := by decide +kernel
theorem dX13_nearestBarge_70 : decode cX13_nearestBarge 70 = .ok (.iinc 4 1, 3) := by decide +kernel
theorem dX13_nearestBarge_73 : decode cX13_nearestBarge 73 = .ok (.goto (-47), 3) := by decide +kernel
theorem dX13_nearestBarge_76 : decode cX13_nearestBarge 76 = .ok (.iload_n 3, 1) := by decide +kernel
theorem dX13_nearestBarge_77 : decode cX13_nearestBarge 77 = .ok (.ireturn, 1) := by decide +kernel
theorem dX13_doSail_0 : decode cX13_doSail 0 = .ok (.aload_n 0, 1) := by decide +kernel
theorem dX13_doSail_1 : decode cX13_doSail 1 = .ok (.iload_n 1, 1) := by decide +kernel
theorem dX13_doSail_2 : decode cX13_doSail 2 = .ok (.invokevirtual 140, 3) := by decide +kernel
theorem dX13_doSail_5 : decode cX13_doSail 5 = .ok (.ifCond .eq 11, 3) := by decide +kernel
theorem dX13_doSail_8 : decode cX13_doSail 8 = .ok (.aload_n 0, 1) := by decide +kernel
theorem dX13_doSail_9 : decode cX13_doSail 9 = .ok (.iload_n 2, 1) := by decide +kernel
theorem dX13_doSail_10 : decode cX13_doSail 10 = .ok (.invokevirtual 131, 3) := by decide +kernel
theorem dX13_doSail_13 : decode cX13_doSail 13 = .ok (.ifCond .ne 5, 3) := by decide +kernel
theorem dX13_doSail_16 : decode cX13_doSail 16 = .ok (.iconst 1, 1) := by decide +kernel
theorem dX13_doSail_17 : decode cX13_doSail 17 = .ok (.ireturn, 1) := by decide +kernel
theorem dX13_doSail_18 : decode cX13_doSail 18 = .ok (.aload_n 0, 1) := by decide +kernel
theorem dX13_doSail_19 : decode cX13_doSail 19 = .ok (.iload_n 1, 1) := by decide +kernel
theorem dX13_doSail_20 : decode cX13_doSail 20 = .ok (.iload_n 2, 1) := by decide +kernel
theorem dX13_doSail_21 : decode cX13_doSail 21 = .ok (.invokevirtual 217, 3) := by decide +kernel
theorem dX13_doSail_24 : decode cX13_doSail 24 = .ok (.ifCond .eq 5, 3) := by decide +kernel
theorem dX13_doSail_27 : decode cX13_doSail 27 = .ok (.iconst 2, 1) := by decide +kernel
theorem dX13_doSail_28 : decode cX13_doSail 28 = .ok (.ireturn, 1) := by decide +kernel
theorem dX13_doSail_29 : decode cX13_doSail 29 = .ok (.aload_n 0, 1) := by decide +kernel
theorem dX13_doSail_30 : decode cX13_doSail 30 = .ok (.iload_n 1, 1) := by decide +kernel
theorem dX13_doSail_31 : decode cX13_doSail 31 = .ok (.iconst 1, 1) := by decide +kernel
theorem dX13_doSail_32 : decode cX13_doSail 32 = .ok (.iload_n 2, 1) := by decide +kernel
theorem dX13_doSail_33 : decode cX13_doSail 33 = .ok (.invokevirtual 86, 3) := by decide +kernel
theorem dX13_doSail_36 : decode cX13_doSail 36 = .ok (.aload_n 0, 1) := by decide +kernel
theorem dX13_doSail_37 : decode cX13_doSail 37 = .ok (.aload_n 0, 1) := by decide +kernel
theorem dX13_doSail_38 : decode cX13_doSail 38 = .ok (.aload_n 0, 1) := by decide +kernel
theorem dX13_doSail_39 : decode cX13_doSail 39 = .ok (.iload_n 1, 1) := by decide +kernel
theorem dX13_doSail_40 : decode cX13_doSail 40 = .ok (.iconst 0, 1) := by decide +kernel
theorem dX13_doSail_41 : decode cX13_doSail 41 = .ok (.invokevirtual 93, 3) := by decide +kernel
theorem dX13_doSail_44 : decode cX13_doSail 44 = .ok (.iload_n 2, 1) := by decide +kernel
theorem dX13_doSail_45 : decode cX13_doSail 45 = .ok (.invokevirtual 220, 3) := by decide +kernel
theorem dX13_doSail_48 : decode cX13_doSail 48 = .ok (.putfield 245, 3) := by decide +kernel
theorem dX13_doSail_51 : decode cX13_doSail 51 = .ok (.iconst 0, 1) := by decide +kernel
theorem dX13_doSail_52 : decode cX13_doSail 52 = .ok (.ireturn, 1) := by decide +kernel
theorem dX13_doOrder_0 : decode cX13_doOrder 0 = .ok (.aload_n 0, 1) := by decide +kernel
theorem dX13_doOrder_1 : decode cX13_doOrder 1 = .ok (.iload_n 1, 1) := by decide +kernel
theorem dX13_doOrder_2 : decode cX13_doOrder 2 = .ok (.invokevirtual 131, 3) := by decide +kernel
theorem dX13_doOrder_5 : decode cX13_doOrder 5 = .ok (.ifCond .ne 5, 3) := by decide +kernel
theorem dX13_doOrder_8 : decode cX13_doOrder 8 = .ok (.iconst 1, 1) := by decide +kernel
theorem dX13_doOrder_9 : decode cX13_doOrder 9 = .ok (.ireturn, 1) := by decide +kernel
theorem dX13_doOrder_10 : decode cX13_doOrder 10 = .ok (.aload_n 0, 1) := by decide +kernel
theorem dX13_doOrder_11 : decode cX13_doOrder 11 = .ok (.getfield 28, 3) := by decide +kernel
theorem dX13_doOrder_14 : decode cX13_doOrder 14 = .ok (.iconst 3, 1) := by decide +kernel
theorem dX13_doOrder_15 : decode cX13_doOrder 15 = .ok (.iaload, 1) := by decide +kernel
theorem dX13_doOrder_16 : decode cX13_doOrder 16 = .ok (.bipush 30, 2) := by decide +kernel
theorem dX13_doOrder_18 : decode cX13_doOrder 18 = .ok (.if_icmp .ne 5, 3) := by decide +kernel
theorem dX13_doOrder_21 : decode cX13_doOrder 21 = .ok (.iconst 3, 1) := by decide +kernel
theorem dX13_doOrder_22 : decode cX13_doOrder 22 = .ok (.ireturn, 1) := by decide +kernel
theorem dX13_doOrder_23 : decode cX13_doOrder 23 = .ok (.aload_n 0, 1) := by decide +kernel
theorem dX13_doOrder_24 : decode cX13_doOrder 24 = .ok (.iload_n 1, 1) := by decide +kernel
theorem dX13_doOrder_25 : decode cX13_doOrder 25 = .ok (.iload_n 2, 1) := by decide +kernel
theorem dX13_doOrder_26 : decode cX13_doOrder 26 = .ok (.iload_n 3, 1) := by decide +kernel
theorem dX13_doOrder_27 : decode cX13_doOrder 27 = .ok (.iload 4, 2) := by decide +kernel
theorem dX13_doOrder_29 : decode cX13_doOrder 29 = .ok (.invokevirtual 76, 3) := by decide +kernel
theorem dX13_doOrder_32 : decode cX13_doOrder 32 = .ok (.aload_n 0, 1) := by decide +kernel
theorem dX13_doOrder_33 : decode cX13_doOrder 33 = .ok (.aload_n 0, 1) := by decide +kernel
theorem dX13_doOrder_34 : decode cX13_doOrder 34 = .ok (.getfield 28, 3) := by decide +kernel
theorem dX13_doOrder_37 : decode cX13_doOrder 37 = .ok (.iconst 3, 1) := by decide +kernel
theorem dX13_doOrder_38 : decode cX13_doOrder 38 = .ok (.iaload, 1) := by decide +kernel
theorem dX13_doOrder_39 : decode cX13_doOrder 39 = .ok (.iconst 1, 1) := by decide +kernel
theorem dX13_doOrder_40 : decode cX13_doOrder 40 = .ok (.isub, 1) := by decide +kernel
theorem dX13_doOrder_41 : decode cX13_doOrder 41 = .ok (.putfield 245, 3) := by decide +kernel
theorem dX13_doOrder_44 : decode cX13_doOrder 44 = .ok (.iconst 0, 1) := by decide +kernel
theorem dX13_doOrder_45 : decode cX13_doOrder 45 = .ok (.ireturn, 1) := by decide +kernel
theorem dX13_doTake_0 : decode cX13_doTake 0 = .ok (.aload_n 0, 1) := by decide +kernel
theorem dX13_doTake_1 : decode cX13_doTake 1 = .ok (.iload_n 1, 1) := by decide +kernel
theorem dX13_doTake_2 : decode cX13_doTake 2 = .ok (.invokevirtual 140, 3) := by decide +kernel
theorem dX13_doTake_5 : decode cX13_doTake 5 = .ok (.ifCond .eq 11, 3) := by decide +kernel
theorem dX13_doTake_8 : decode cX13_doTake 8 = .ok (.aload_n 0, 1) := by decide +kernel
theorem dX13_doTake_9 : decode cX13_doTake 9 = .ok (.iload_n 2, 1) := by decide +kernel
theorem dX13_doTake_10 : decode cX13_doTake 10 = .ok (.invokevirtual 152, 3) := by decide +kernel
theorem dX13_doTake_13 : decode cX13_doTake 13 = .ok (.ifCond .ne 5, 3) := by decide +kernel
theorem dX13_doTake_16 : decode cX13_doTake 16 = .ok (.iconst 1, 1) := by decide +kernel
theorem dX13_doTake_17 : decode cX13_doTake 17 = .ok (.ireturn, 1) := by decide +kernel
theorem dX13_doTake_18 : decode cX13_doTake 18 = .ok (.aload_n 0, 1) := by decide +kernel
theorem dX13_doTake_19 : decode cX13_doTake 19 = .ok (.iload_n 2, 1) := by decide +kernel
theorem dX13_doTake_20 : decode cX13_doTake 20 = .ok (.iconst 0, 1) := by decide +kernel
theorem dX13_doTake_21 : decode cX13_doTake 21 = .ok (.invokevirtual 116, 3) := by decide +kernel
theorem dX13_doTake_24 : decode cX13_doTake 24 = .ok (.ifCond .eq 20, 3) := by decide +kernel
theorem dX13_doTake_27 : decode cX13_doTake 27 = .ok (.aload_n 0, 1) := by decide +kernel
theorem dX13_doTake_28 : decode cX13_doTake 28 = .ok (.iload_n 1, 1) := by decide +kernel
theorem dX13_doTake_29 : decode cX13_doTake 29 = .ok (.iconst 1, 1) := by decide +kernel
theorem dX13_doTake_30 : decode cX13_doTake 30 = .ok (.invokevirtual 146, 3) := by decide +kernel
theorem dX13_doTake_33 : decode cX13_doTake 33 = .ok (.aload_n 0, 1) := by decide +kernel
theorem dX13_doTake_34 : decode cX13_doTake 34 = .ok (.iload_n 1, 1) := by decide +kernel
theorem dX13_doTake_35 : decode cX13_doTake 35 = .ok (.iconst 2, 1) := by decide +kernel
theorem dX13_doTake_36 : decode cX13_doTake 36 = .ok (.invokevirtual 146, 3) := by decide +kernel
theorem dX13_doTake_39 : decode cX13_doTake 39 = .ok (.iadd, 1) := by decide +kernel
theorem dX13_doTake_40 : decode cX13_doTake 40 = .ok (.iconst 4, 1) := by decide +kernel
theorem dX13_doTake_41 : decode cX13_doTake 41 = .ok (.if_icmp .ne 5, 3) := by decide +kernel
theorem dX13_doTake_44 : decode cX13_doTake 44 = .ok (.iconst 2, 1) := by decide +kernel
theorem dX13_doTake_45 : decode cX13_doTake 45 = .ok (.ireturn, 1) := by decide +kernel
theorem dX13_doTake_46 : decode cX13_doTake 46 = .ok (.aload_n 0, 1) := by decide +kernel
theorem dX13_doTake_47 : decode cX13_doTake 47 = .ok (.iload_n 2, 1) := by decide +kernel
theorem dX13_doTake_48 : decode cX13_doTake 48 = .ok (.iconst 4, 1) := by decide +kernel
theorem dX13_doTake_49 : decode cX13_doTake 49 = .ok (.iconst 1, 1) := by decide +kernel
theorem dX13_doTake_50 : decode cX13_doTake 50 = .ok (.invokevirtual 90, 3) := by decide +kernel
theorem dX13_doTake_53 : decode cX13_doTake 53 = .ok (.aload_n 0, 1) := by decide +kernel
theorem dX13_doTake_54 : decode cX13_doTake 54 = .ok (.iload_n 2, 1) := by decide +kernel
theorem dX13_doTake_55 : decode cX13_doTake 55 = .ok (.iconst 5, 1) := by decide +kernel
theorem dX13_doTake_56 : decode cX13_doTake 56 = .ok (.iload_n 1, 1) := by decide +kernel
theorem dX13_doTake_57 : decode cX13_doTake 57 = .ok (.invokevirtual 90, 3) := by decide +kernel
theorem dX13_doTake_60 : decode cX13_doTake 60 = .ok (.aload_n 0, 1) := by decide +kernel
theorem dX13_doTake_61 : decode cX13_doTake 61 = .ok (.iload_n 2, 1) := by decide +kernel
theorem dX13_doTake_62 : decode cX13_doTake 62 = .ok (.bipush 8, 2) := by decide +kernel
theorem dX13_doTake_64 : decode cX13_doTake 64 = .ok (.aload_n 0, 1) := by decide +kernel
theorem dX13_doTake_65 : decode cX13_doTake 65 = .ok (.getfield 28, 3) := by decide +kernel
theorem dX13_doTake_68 : decode cX13_doTake 68 = .ok (.bipush 8, 2) := by decide +kernel
theorem dX13_doTake_70 : decode cX13_doTake 70 = .ok (.iaload, 1) := by decide +kernel
theorem dX13_doTake_71 : decode cX13_doTake 71 = .ok (.invokevirtual 90, 3) := by decide +kernel
theorem dX13_doTake_74 : decode cX13_doTake 74 = .ok (.aload_n 0, 1) := by decide +kernel
theorem dX13_doTake_75 : decode cX13_doTake 75 = .ok (.getfield 28, 3) := by decide +kernel
theorem dX13_doTake_78 : decode cX13_doTake 78 = .ok (.bipush 8, 2) := by decide +kernel
theorem dX13_doTake_80 : decode cX13_doTake 80 = .ok (.dup2, 1) := by decide +kernel
theorem dX13_doTake_81 : decode cX13_doTake 81 = .ok (.iaload, 1) := by decide +kernel
theorem dX13_doTake_82 : decode cX13_doTake 82 = .ok (.iconst 1, 1) := by decide +kernel
theorem dX13_doTake_83 : decode cX13_doTake 83 = .ok (.iadd, 1) := by decide +kernel
theorem dX13_doTake_84 : decode cX13_doTake 84 = .ok (.iastore, 1) := by decide +kernel
theorem dX13_doTake_85 : decode cX13_doTake 85 = .ok (.aload_n 0, 1) := by decide +kernel
theorem dX13_doTake_86 : decode cX13_doTake 86 = .ok (.aload_n 0, 1) := by decide +kernel
theorem dX13_doTake_87 : decode cX13_doTake 87 = .ok (.iload_n 1, 1) := by decide +kernel
theorem dX13_doTake_88 : decode cX13_doTake 88 = .ok (.iconst 1, 1) := by decide +kernel
theorem dX13_doTake_89 : decode cX13_doTake 89 = .ok (.invokevirtual 146, 3) := by decide +kernel
theorem dX13_doTake_92 : decode cX13_doTake 92 = .ok (.putfield 245, 3) := by decide +kernel
theorem dX13_doTake_95 : decode cX13_doTake 95 = .ok (.iconst 0, 1) := by decide +kernel
theorem dX13_doTake_96 : decode cX13_doTake 96 = .ok (.ireturn, 1) := by decide +kernel
theorem dX13_doDrop_0 : decode cX13_doDrop 0 = .ok (.aload_n 0, 1) := by decide +kernel
theorem dX13_doDrop_1 : decode cX13_doDrop 1 = .ok (.iload_n 1, 1) := by decide +kernel
theorem dX13_doDrop_2 : decode cX13_doDrop 2 = .ok (.invokevirtual 152, 3) := by decide +kernel
theorem dX13_doDrop_5 : decode cX13_doDrop 5 = .ok (.ifCond .ne 5, 3) := by decide +kernel
theorem dX13_doDrop_8 : decode cX13_doDrop 8 = .ok (.iconst 1, 1) := by decide +kernel
theorem dX13_doDrop_9 : decode cX13_doDrop 9 = .ok (.ireturn, 1) := by decide +kernel
theorem dX13_doDrop_10 : decode cX13_doDrop 10 = .ok (.aload_n 0, 1) := by decide +kernel
theorem dX13_doDrop_11 : decode cX13_doDrop 11 = .ok (.iload_n 1, 1) := by decide +kernel
theorem dX13_doDrop_12 : decode cX13_doDrop 12 = .ok (.iconst 1, 1) := by decide +kernel
theorem dX13_doDrop_13 : decode cX13_doDrop 13 = .ok (.invokevirtual 116, 3) := by decide +kernel
theorem dX13_doDrop_16 : decode cX13_doDrop 16 = .ok (.ifCond .ne 14, 3) := by decide +kernel
theorem dX13_doDrop_19 : decode cX13_doDrop 19 = .ok (.aload_n 0, 1) := by decide +kernel
theorem dX13_doDrop_20 : decode cX13_doDrop 20 = .ok (.iload_n 1, 1) := by decide +kernel
theorem dX13_doDrop_21 : decode cX13_doDrop 21 = .ok (.iconst 2, 1) := by decide +kernel
theorem dX13_doDrop_22 : decode cX13_doDrop 22 = .ok (.invokevirtual 116, 3) := by decide +kernel
theorem dX13_doDrop_25 : decode cX13_doDrop 25 = .ok (.ifCond .ne 5, 3) := by decide +kernel
theorem dX13_doDrop_28 : decode cX13_doDrop 28 = .ok (.iconst 2, 1) := by decide +kernel
theorem dX13_doDrop_29 : decode cX13_doDrop 29 = .ok (.ireturn, 1) := by decide +kernel
theorem dX13_doDrop_30 : decode cX13_doDrop 30 = .ok (.aload_n 0, 1) := by decide +kernel
theorem dX13_doDrop_31 : decode cX13_doDrop 31 = .ok (.aload_n 0, 1) := by decide +kernel
theorem dX13_doDrop_32 : decode cX13_doDrop 32 = .ok (.iload_n 1, 1) := by decide +kernel
theorem dX13_doDrop_33 : decode cX13_doDrop 33 = .ok (.iconst 5, 1) := by decide +kernel
theorem dX13_doDrop_34 : decode cX13_doDrop 34 = .ok (.invokevirtual 101, 3) := by decide +kernel
theorem dX13_doDrop_37 : decode cX13_doDrop 37 = .ok (.putfield 245, 3) := by decide +kernel
theorem dX13_doDrop_40 : decode cX13_doDrop 40 = .ok (.aload_n 0, 1) := by decide +kernel
theorem dX13_doDrop_41 : decode cX13_doDrop 41 = .ok (.iload_n 1, 1) := by decide +kernel
theorem dX13_doDrop_42 : decode cX13_doDrop 42 = .ok (.iconst 4, 1) := by decide +kernel
theorem dX13_doDrop_43 : decode cX13_doDrop 43 = .ok (.iconst 0, 1) := by decide +kernel
theorem dX13_doDrop_44 : decode cX13_doDrop 44 = .ok (.invokevirtual 90, 3) := by decide +kernel
theorem dX13_doDrop_47 : decode cX13_doDrop 47 = .ok (.aload_n 0, 1) := by decide +kernel
theorem dX13_doDrop_48 : decode cX13_doDrop 48 = .ok (.iload_n 1, 1) := by decide +kernel
theorem dX13_doDrop_49 : decode cX13_doDrop 49 = .ok (.iconst 5, 1) := by decide +kernel
theorem dX13_doDrop_50 : decode cX13_doDrop 50 = .ok (.iconst (-1), 1) := by decide +kernel
theorem dX13_doDrop_51 : decode cX13_doDrop 51 = .ok (.invokevirtual 90, 3) := by decide +kernel
theorem dX13_doDrop_54 : decode cX13_doDrop 54 = .ok (.aload_n 0, 1) := by decide +kernel
theorem dX13_doDrop_55 : decode cX13_doDrop 55 = .ok (.iload_n 1, 1) := by decide +kernel
theorem dX13_doDrop_56 : decode cX13_doDrop 56 = .ok (.bipush 6, 2) := by decide +kernel
theorem dX13_doDrop_58 : decode cX13_doDrop 58 = .ok (.iconst 0, 1) := by decide +kernel
theorem dX13_doDrop_59 : decode cX13_doDrop 59 = .ok (.invokevirtual 90, 3) := by decide +kernel
theorem dX13_doDrop_62 : decode cX13_doDrop 62 = .ok (.aload_n 0, 1) := by decide +kernel
theorem dX13_doDrop_63 : decode cX13_doDrop 63 = .ok (.iload_n 1, 1) := by decide +kernel
theorem dX13_doDrop_64 : decode cX13_doDrop 64 = .ok (.bipush 7, 2) := by decide +kernel
theorem dX13_doDrop_66 : decode cX13_doDrop 66 = .ok (.aload_n 0, 1) := by decide +kernel
theorem dX13_doDrop_67 : decode cX13_doDrop 67 = .ok (.iload_n 1, 1) := by decide +kernel
theorem dX13_doDrop_68 : decode cX13_doDrop 68 = .ok (.iconst 2, 1) := by decide +kernel
theorem dX13_doDrop_69 : decode cX13_doDrop 69 = .ok (.invokevirtual 101, 3) := by decide +kernel
theorem dX13_doDrop_72 : decode cX13_doDrop 72 = .ok (.invokevirtual 90, 3) := by decide +kernel
theorem dX13_doDrop_75 : decode cX13_doDrop 75 = .ok (.iconst 0, 1) := by decide +kernel
theorem dX13_doDrop_76 : decode cX13_doDrop 76 = .ok (.ireturn, 1) := by decide +kernel
theorem dX13_doFlour_0 : decode cX13_doFlour 0 = .ok (.aload_n 0, 1) := by decide +kernel
theorem dX13_doFlour_1 : decode cX13_doFlour 1 = .ok (.iload_n 1, 1) := by decide +kernel
theorem dX13_doFlour_2 : decode cX13_doFlour 2 = .ok (.invokevirtual 140, 3) := by decide +kernel
theorem dX13_doFlour_5 : decode cX13_doFlour 5 = .ok (.ifCond .ne 5, 3) := by decide +kernel
theorem dX13_doFlour_8 : decode cX13_doFlour 8 = .ok (.iconst 1, 1) := by decide +kernel
theorem dX13_doFlour_9 : decode cX13_doFlour 9 = .ok (.ireturn, 1) := by decide +kernel
theorem dX13_doFlour_10 : decode cX13_doFlour 10 = .ok (.aload_n 0, 1) := by decide +kernel
theorem dX13_doFlour_11 : decode cX13_doFlour 11 = .ok (.iload_n 1, 1) := by decide +kernel
theorem dX13_doFlour_12 : decode cX13_doFlour 12 = .ok (.iconst 0, 1) := by decide +kernel
theorem dX13_doFlour_13 : decode cX13_doFlour 13 = .ok (.invokevirtual 112, 3) := by decide +kernel
theorem dX13_doFlour_16 : decode cX13_doFlour 16 = .ok (.ifCond .eq 16, 3) := by decide +kernel
theorem dX13_doFlour_19 : decode cX13_doFlour 19 = .ok (.aload_n 0, 1) := by decide +kernel
theorem dX13_doFlour_20 : decode cX13_doFlour 20 = .ok (.iload_n 1, 1) := by decide +kernel
theorem dX13_doFlour_21 : decode cX13_doFlour 21 = .ok (.iconst 3, 1) := by decide +kernel
theorem dX13_doFlour_22 : decode cX13_doFlour 22 = .ok (.invokevirtual 93, 3) := by decide +kernel
theorem dX13_doFlour_25 : decode cX13_doFlour 25 = .ok (.iload_n 2, 1) := by decide +kernel
theorem dX13_doFlour_26 : decode cX13_doFlour 26 = .ok (.iadd, 1) := by decide +kernel
theorem dX13_doFlour_27 : decode cX13_doFlour 27 = .ok (.bipush 99, 2) := by decide +kernel
theorem dX13_doFlour_29 : decode cX13_doFlour 29 = .ok (.if_icmp .le 5, 3) := by decide +kernel
theorem dX13_doFlour_32 : decode cX13_doFlour 32 = .ok (.iconst 3, 1) := by decide +kernel
theorem dX13_doFlour_33 : decode cX13_doFlour 33 = .ok (.ireturn, 1) := by decide +kernel
theorem dX13_doFlour_34 : decode cX13_doFlour 34 = .ok (.aload_n 0, 1) := by decide +kernel
theorem dX13_doFlour_35 : decode cX13_doFlour 35 = .ok (.iload_n 1, 1) := by decide +kernel
theorem dX13_doFlour_36 : decode cX13_doFlour 36 = .ok (.iconst 3, 1) := by decide +kernel
theorem dX13_doFlour_37 : decode cX13_doFlour 37 = .ok (.iload_n 2, 1) := by decide +kernel
theorem dX13_doFlour_38 : decode cX13_doFlour 38 = .ok (.invokevirtual 176, 3) := by decide +kernel
theorem dX13_doFlour_41 : decode cX13_doFlour 41 = .ok (.aload_n 0, 1) := by decide +kernel
theorem dX13_doFlour_42 : decode cX13_doFlour 42 = .ok (.getfield 28, 3) := by decide +kernel
theorem dX13_doFlour_45 : decode cX13_doFlour 45 = .ok (.iconst 4, 1) := by decide +kernel
theorem dX13_doFlour_46 : decode cX13_doFlour 46 = .ok (.dup2, 1) := by decide +kernel
theorem dX13_doFlour_47 : decode cX13_doFlour 47 = .ok (.iaload, 1) := by decide +kernel
theorem dX13_doFlour_48 : decode cX13_doFlour 48 = .ok (.iload_n 2, 1) := by decide +kernel
theorem dX13_doFlour_49 : decode cX13_doFlour 49 = .ok (.isub, 1) := by decide +kernel
theorem dX13_doFlour_50 : decode cX13_doFlour 50 = .ok (.iastore, 1) := by decide +kernel
theorem dX13_doFlour_51 : decode cX13_doFlour 51 = .ok (.aload_n 0, 1) := by decide +kernel
theorem dX13_doFlour_52 : decode cX13_doFlour 52 = .ok (.aload_n 0, 1) := by decide +kernel
theorem dX13_doFlour_53 : decode cX13_doFlour 53 = .ok (.iload_n 1, 1) := by decide +kernel
theorem dX13_doFlour_54 : decode cX13_doFlour 54 = .ok (.iconst 3, 1) := by decide +kernel
theorem dX13_doFlour_55 : decode cX13_doFlour 55 = .ok (.invokevirtual 93, 3) := by decide +kernel
theorem dX13_doFlour_58 : decode cX13_doFlour 58 = .ok (.putfield 245, 3) := by decide +kernel
theorem dX13_doFlour_61 : decode cX13_doFlour 61 = .ok (.iconst 0, 1) := by decide +kernel
theorem dX13_doFlour_62 : decode cX13_doFlour 62 = .ok (.ireturn, 1) := by decide +kernel
theorem dX13_doCollect_0 : decode cX13_doCollect 0 = .ok (.aload_n 0, 1) := by decide +kernel
theorem dX13_doCollect_1 : decode cX13_doCollect 1 = .ok (.iload_n 1, 1) := by decide +kernel
theorem dX13_doCollect_2 : decode cX13_doCollect 2 = .ok (.invokevirtual 140, 3) := by decide +kernel
theorem dX13_doCollect_5 : decode cX13_doCollect 5 = .ok (.ifCond .ne 5, 3) := by decide +kernel
theorem dX13_doCollect_8 : decode cX13_doCollect 8 = .ok (.iconst 1, 1) := by decide +kernel
theorem dX13_doCollect_9 : decode cX13_doCollect 9 = .ok (.ireturn, 1) := by decide +kernel
theorem dX13_doCollect_10 : decode cX13_doCollect 10 = .ok (.aload_n 0, 1) := by decide +kernel
theorem dX13_doCollect_11 : decode cX13_doCollect 11 = .ok (.iload_n 1, 1) := by decide +kernel
theorem dX13_doCollect_12 : decode cX13_doCollect 12 = .ok (.invokevirtual 104, 3) := by decide +kernel
theorem dX13_doCollect_15 : decode cX13_doCollect 15 = .ok (.ifCond .eq 5, 3) := by decide +kernel
theorem dX13_doCollect_18 : decode cX13_doCollect 18 = .ok (.iconst 2, 1) := by decide +kernel
theorem dX13_doCollect_19 : decode cX13_doCollect 19 = .ok (.ireturn, 1) := by decide +kernel
theorem dX13_doCollect_20 : decode cX13_doCollect 20 = .ok (.bipush 40, 2) := by decide +kernel
theorem dX13_doCollect_22 : decode cX13_doCollect 22 = .ok (.aload_n 0, 1) := by decide +kernel
theorem dX13_doCollect_23 : decode cX13_doCollect 23 = .ok (.iload_n 1, 1) := by decide +kernel
theorem dX13_doCollect_24 : decode cX13_doCollect 24 = .ok (.iconst 0, 1) := by decide +kernel
theorem dX13_doCollect_25 : decode cX13_doCollect 25 = .ok (.invokevirtual 93, 3) := by decide +kernel
theorem dX13_doCollect_28 : decode cX13_doCollect 28 = .ok (.iadd, 1) := by decide +kernel
theorem dX13_doCollect_29 : decode cX13_doCollect 29 = .ok (.istore_n 2, 1) := by decide +kernel
theorem dX13_doCollect_30 : decode cX13_doCollect 30 = .ok (.aload_n 0, 1) := by decide +kernel
theorem dX13_doCollect_31 : decode cX13_doCollect 31 = .ok (.aload_n 0, 1) := by decide +kernel
theorem dX13_doCollect_32 : decode cX13_doCollect 32 = .ok (.getfield 28, 3) := by decide +kernel
theorem dX13_doCollect_35 : decode cX13_doCollect 35 = .ok (.iload_n 2, 1) := by decide +kernel
theorem dX13_doCollect_36 : decode cX13_doCollect 36 = .ok (.iaload, 1) := by decide +kernel
theorem dX13_doCollect_37 : decode cX13_doCollect 37 = .ok (.putfield 245, 3) := by decide +kernel
theorem dX13_doCollect_40 : decode cX13_doCollect 40 = .ok (.aload_n 0, 1) := by decide +kernel
theorem dX13_doCollect_41 : decode cX13_doCollect 41 = .ok (.iload_n 1, 1) := by decide +kernel
theorem dX13_doCollect_42 : decode cX13_doCollect 42 = .ok (.iconst 5, 1) := by decide +kernel
theorem dX13_doCollect_43 : decode cX13_doCollect 43 = .ok (.aload_n 0, 1) := by decide +kernel
theorem dX13_doCollect_44 : decode cX13_doCollect 44 = .ok (.getfield 245, 3) := by decide +kernel
theorem dX13_doCollect_47 : decode cX13_doCollect 47 = .ok (.invokevirtual 176, 3) := by decide +kernel
theorem dX13_doCollect_50 : decode cX13_doCollect 50 = .ok (.aload_n 0, 1) := by decide +kernel
theorem dX13_doCollect_51 : decode cX13_doCollect 51 = .ok (.getfield 28, 3) := by decide +kernel
theorem dX13_doCollect_54 : decode cX13_doCollect 54 = .ok (.iload_n 2, 1) := by decide +kernel
theorem dX13_doCollect_55 : decode cX13_doCollect 55 = .ok (.iconst 0, 1) := by decide +kernel
theorem dX13_doCollect_56 : decode cX13_doCollect 56 = .ok (.iastore, 1) := by decide +kernel
theorem dX13_doCollect_57 : decode cX13_doCollect 57 = .ok (.iconst 0, 1) := by decide +kernel
theorem dX13_doCollect_58 : decode cX13_doCollect 58 = .ok (.ireturn, 1) := by decide +kernel
theorem dX13_doWash_0 : decode cX13_doWash 0 = .ok (.aload_n 0, 1) := by decide +kernel
theorem dX13_doWash_1 : decode cX13_doWash 1 = .ok (.iload_n 1, 1) := by decide +kernel
theorem dX13_doWash_2 : decode cX13_doWash 2 = .ok (.invokevirtual 140, 3) := by decide +kernel
theorem dX13_doWash_5 : decode cX13_doWash 5 = .ok (.ifCond .ne 5, 3) := by decide +kernel
theorem dX13_doWash_8 : decode cX13_doWash 8 = .ok (.iconst 1, 1) := by decide +kernel
theorem dX13_doWash_9 : decode cX13_doWash 9 = .ok (.ireturn, 1) := by decide +kernel
theorem dX13_doWash_10 : decode cX13_doWash 10 = .ok (.aload_n 0, 1) := by decide +kernel
theorem dX13_doWash_11 : decode cX13_doWash 11 = .ok (.iload_n 1, 1) := by decide +kernel
theorem dX13_doWash_12 : decode cX13_doWash 12 = .ok (.iconst 0, 1) := by decide +kernel
theorem dX13_doWash_13 : decode cX13_doWash 13 = .ok (.invokevirtual 112, 3) := by decide +kernel
theorem dX13_doWash_16 : decode cX13_doWash 16 = .ok (.ifCond .ne 5, 3) := by decide +kernel
theorem dX13_doWash_19 : decode cX13_doWash 19 = .ok (.iconst 2, 1) := by decide +kernel
theorem dX13_doWash_20 : decode cX13_doWash 20 = .ok (.ireturn, 1) := by decide +kernel
theorem dX13_doWash_21 : decode cX13_doWash 21 = .ok (.aload_n 0, 1) := by decide +kernel
theorem dX13_doWash_22 : decode cX13_doWash 22 = .ok (.iload_n 1, 1) := by decide +kernel
theorem dX13_doWash_23 : decode cX13_doWash 23 = .ok (.iconst 4, 1) := by decide +kernel
theorem dX13_doWash_24 : decode cX13_doWash 24 = .ok (.aload_n 0, 1) := by decide +kernel
theorem dX13_doWash_25 : decode cX13_doWash 25 = .ok (.iload_n 1, 1) := by decide +kernel
theorem dX13_doWash_26 : decode cX13_doWash 26 = .ok (.iconst 5, 1) := by decide +kernel
theorem dX13_doWash_27 : decode cX13_doWash 27 = .ok (.invokevirtual 93, 3) := by decide +kernel
theorem dX13_doWash_30 : decode cX13_doWash 30 = .ok (.invokevirtual 176, 3) := by decide +kernel
theorem dX13_doWash_33 : decode cX13_doWash 33 = .ok (.aload_n 0, 1) := by decide +kernel
theorem dX13_doWash_34 : decode cX13_doWash 34 = .ok (.iload_n 1, 1) := by decide +kernel
theorem dX13_doWash_35 : decode cX13_doWash 35 = .ok (.iconst 5, 1) := by decide +kernel
theorem dX13_doWash_36 : decode cX13_doWash 36 = .ok (.iconst 0, 1) := by decide +kernel
theorem dX13_doWash_37 : decode cX13_doWash 37 = .ok (.invokevirtual 86, 3) := by decide +kernel
theorem dX13_doWash_40 : decode cX13_doWash 40 = .ok (.aload_n 0, 1) := by decide +kernel
theorem dX13_doWash_41 : decode cX13_doWash 41 = .ok (.aload_n 0, 1) := by decide +kernel
theorem dX13_doWash_42 : decode cX13_doWash 42 = .ok (.iload_n 1, 1) := by decide +kernel
theorem dX13_doWash_43 : decode cX13_doWash 43 = .ok (.iconst 4, 1) := by decide +kernel
theorem dX13_doWash_44 : decode cX13_doWash 44 = .ok (.invokevirtual 93, 3) := by decide +kernel
theorem dX13_doWash_47 : decode cX13_doWash 47 = .ok (.putfield 245, 3) := by decide +kernel
theorem dX13_doWash_50 : decode cX13_doWash 50 = .ok (.iconst 0, 1) := by decide +kernel
theorem dX13_doWash_51 : decode cX13_doWash 51 = .ok (.ireturn, 1) := by decide +kernel
theorem dX13_doWait_0 : decode cX13_doWait 0 = .ok (.aload_n 0, 1) := by decide +kernel
theorem dX13_doWait_1 : decode cX13_doWait 1 = .ok (.getfield 28, 3) := by decide +kernel
theorem dX13_doWait_4 : decode cX13_doWait 4 = .ok (.iconst 0, 1) := by decide +kernel
theorem dX13_doWait_5 : decode cX13_doWait 5 = .ok (.iaload, 1) := by decide +kernel
theorem dX13_doWait_6 : decode cX13_doWait 6 = .ok (.iload_n 1, 1) := by decide +kernel
theorem dX13_doWait_7 : decode cX13_doWait 7 = .ok (.iadd, 1) := by decide +kernel
theorem dX13_doWait_8 : decode cX13_doWait 8 = .ok (.sipush 10000, 3) := by decide +kernel
theorem dX13_doWait_11 : decode cX13_doWait 11 = .ok (.if_icmp .le 5, 3) := by decide +kernel
theorem dX13_doWait_14 : decode cX13_doWait 14 = .ok (.iconst 2, 1) := by decide +kernel
theorem dX13_doWait_15 : decode cX13_doWait 15 = .ok (.ireturn, 1) := by decide +kernel
theorem dX13_doWait_16 : decode cX13_doWait 16 = .ok (.aload_n 0, 1) := by decide +kernel
theorem dX13_doWait_17 : decode cX13_doWait 17 = .ok (.aload_n 0, 1) := by decide +kernel
theorem dX13_doWait_18 : decode cX13_doWait 18 = .ok (.iload_n 1, 1) := by decide +kernel
theorem dX13_doWait_19 : decode cX13_doWait 19 = .ok (.invokevirtual 233, 3) := by decide +kernel
theorem dX13_doWait_22 : decode cX13_doWait 22 = .ok (.putfield 245, 3) := by decide +kernel
theorem dX13_doWait_25 : decode cX13_doWait 25 = .ok (.iconst 0, 1) := by decide +kernel
theorem dX13_doWait_26 : decode cX13_doWait 26 = .ok (.ireturn, 1) := by decide +kernel
theorem dX13_keep_0 : decode cX13_keep 0 = .ok (.aload_n 0, 1) := by decide +kernel
theorem dX13_keep_1 : decode cX13_keep 1 = .ok (.getfield 9, 3) := by decide +kernel
theorem dX13_keep_4 : decode cX13_keep 4 = .ok (.iconst 0, 1) := by decide +kernel
theorem dX13_keep_5 : decode cX13_keep 5 = .ok (.aload_n 0, 1) := by decide +kernel
theorem dX13_keep_6 : decode cX13_keep 6 = .ok (.getfield 19, 3) := by decide +kernel
theorem dX13_keep_9 : decode cX13_keep 9 = .ok (.iconst 0, 1) := by decide +kernel
theorem dX13_keep_10 : decode cX13_keep 10 = .ok (.invokestatic 229, 3) := by decide +kernel
theorem dX13_keep_13 : decode cX13_keep 13 = .ok (.return_, 1) := by decide +kernel
theorem dX13_record_0 : decode cX13_record 0 = .ok (.aload_n 0, 1) := by decide +kernel
theorem dX13_record_1 : decode cX13_record 1 = .ok (.getfield 248, 3) := by decide +kernel
theorem dX13_record_4 : decode cX13_record 4 = .ok (.bipush 8, 2) := by decide +kernel
theorem dX13_record_6 : decode cX13_record 6 = .ok (.if_icmp .ne 42, 3) := by decide +kernel
theorem dX13_record_9 : decode cX13_record 9 = .ok (.iconst 1, 1) := by decide +kernel
theorem dX13_record_10 : decode cX13_record 10 = .ok (.istore_n 1, 1) := by decide +kernel
theorem dX13_record_11 : decode cX13_record 11 = .ok (.iload_n 1, 1) := by decide +kernel
theorem dX13_record_12 : decode cX13_record 12 = .ok (.bipush 8, 2) := by decide +kernel
theorem dX13_record_14 : decode cX13_record 14 = .ok (.if_icmp .ge 24, 3) := by decide +kernel
theorem dX13_record_17 : decode cX13_record 17 = .ok (.aload_n 0, 1) := by decide +kernel
theorem dX13_record_18 : decode cX13_record 18 = .ok (.getfield 25, 3) := by decide +kernel
theorem dX13_record_21 : decode cX13_record 21 = .ok (.iload_n 1, 1) := by decide +kernel
theorem dX13_record_22 : decode cX13_record 22 = .ok (.aload_n 0, 1) := by decide +kernel
theorem dX13_record_23 : decode cX13_record 23 = .ok (.getfield 25, 3) := by decide +kernel
theorem dX13_record_26 : decode cX13_record 26 = .ok (.iload_n 1, 1) := by decide +kernel
theorem dX13_record_27 : decode cX13_record 27 = .ok (.iconst 1, 1) := by decide +kernel
theorem dX13_record_28 : decode cX13_record 28 = .ok (.isub, 1) := by decide +kernel
theorem dX13_record_29 : decode cX13_record 29 = .ok (.invokestatic 229, 3) := by decide +kernel
theorem dX13_record_32 : decode cX13_record 32 = .ok (.iinc 1 1, 3) := by decide +kernel
theorem dX13_record_35 : decode cX13_record 35 = .ok (.goto (-24), 3) := by decide +kernel
theorem dX13_record_38 : decode cX13_record 38 = .ok (.aload_n 0, 1) := by decide +kernel
theorem dX13_record_39 : decode cX13_record 39 = .ok (.dup, 1) := by decide +kernel
theorem dX13_record_40 : decode cX13_record 40 = .ok (.getfield 248, 3) := by decide +kernel
theorem dX13_record_43 : decode cX13_record 43 = .ok (.iconst 1, 1) := by decide +kernel
theorem dX13_record_44 : decode cX13_record 44 = .ok (.isub, 1) := by decide +kernel
theorem dX13_record_45 : decode cX13_record 45 = .ok (.putfield 248, 3) := by decide +kernel
theorem dX13_record_48 : decode cX13_record 48 = .ok (.aload_n 0, 1) := by decide +kernel
theorem dX13_record_49 : decode cX13_record 49 = .ok (.getfield 19, 3) := by decide +kernel
theorem dX13_record_52 : decode cX13_record 52 = .ok (.iconst 0, 1) := by decide +kernel
theorem dX13_record_53 : decode cX13_record 53 = .ok (.aload_n 0, 1) := by decide +kernel
theorem dX13_record_54 : decode cX13_record 54 = .ok (.getfield 25, 3) := by decide +kernel
theorem dX13_record_57 : decode cX13_record 57 = .ok (.aload_n 0, 1) := by decide +kernel
theorem dX13_record_58 : decode cX13_record 58 = .ok (.getfield 248, 3) := by decide +kernel
theorem dX13_record_61 : decode cX13_record 61 = .ok (.invokestatic 229, 3) := by decide +kernel
theorem dX13_record_64 : decode cX13_record 64 = .ok (.aload_n 0, 1) := by decide +kernel
theorem dX13_record_65 : decode cX13_record 65 = .ok (.dup, 1) := by decide +kernel
theorem dX13_record_66 : decode cX13_record 66 = .ok (.getfield 248, 3) := by decide +kernel
theorem dX13_record_69 : decode cX13_record 69 = .ok (.iconst 1, 1) := by decide +kernel
theorem dX13_record_70 : decode cX13_record 70 = .ok (.iadd, 1) := by decide +kernel
theorem dX13_record_71 : decode cX13_record 71 = .ok (.putfield 248, 3) := by decide +kernel
theorem dX13_record_74 : decode cX13_record 74 = .ok (.return_, 1) := by decide +kernel
theorem dX13_ends_0 : decode cX13_ends 0 = .ok (.aload_n 0, 1) := by decide +kernel
theorem dX13_ends_1 : decode cX13_ends 1 = .ok (.iload_n 1, 1) := by decide +kernel
theorem dX13_ends_2 : decode cX13_ends 2 = .ok (.putfield 79, 3) := by decide +kernel
theorem dX13_ends_5 : decode cX13_ends 5 = .ok (.iload_n 1, 1) := by decide +kernel
theorem dX13_ends_6 : decode cX13_ends 6 = .ok (.ifCond .eq 5, 3) := by decide +kernel
theorem dX13_ends_9 : decode cX13_ends 9 = .ok (.iconst 0, 1) := by decide +kernel
theorem dX13_ends_10 : decode cX13_ends 10 = .ok (.ireturn, 1) := by decide +kernel
theorem dX13_ends_11 : decode cX13_ends 11 = .ok (.aload_n 0, 1) := by decide +kernel
theorem dX13_ends_12 : decode cX13_ends 12 = .ok (.invokevirtual 251, 3) := by decide +kernel
theorem dX13_ends_15 : decode cX13_ends 15 = .ok (.aload_n 0, 1) := by decide +kernel
theorem dX13_ends_16 : decode cX13_ends 16 = .ok (.getfield 245, 3) := by decide +kernel
theorem dX13_ends_19 : decode cX13_ends 19 = .ok (.ireturn, 1) := by decide +kernel
theorem dX13_sail_0 : decode cX13_sail 0 = .ok (.aload_n 0, 1) := by decide +kernel
theorem dX13_sail_1 : decode cX13_sail 1 = .ok (.invokevirtual 254, 3) := by decide +kernel
theorem dX13_sail_4 : decode cX13_sail 4 = .ok (.aload_n 0, 1) := by decide +kernel
theorem dX13_sail_5 : decode cX13_sail 5 = .ok (.aload_n 0, 1) := by decide +kernel
theorem dX13_sail_6 : decode cX13_sail 6 = .ok (.iload_n 1, 1) := by decide +kernel
theorem dX13_sail_7 : decode cX13_sail 7 = .ok (.iload_n 2, 1) := by decide +kernel
theorem dX13_sail_8 : decode cX13_sail 8 = .ok (.invokevirtual 257, 3) := by decide +kernel
theorem dX13_sail_11 : decode cX13_sail 11 = .ok (.invokevirtual 260, 3) := by decide +kernel
theorem dX13_sail_14 : decode cX13_sail 14 = .ok (.ireturn, 1) := by decide +kernel
theorem dX13_makeOrder_0 : decode cX13_makeOrder 0 = .ok (.iload_n 2, 1) := by decide +kernel
theorem dX13_makeOrder_1 : decode cX13_makeOrder 1 = .ok (.iconst 1, 1) := by decide +kernel
theorem dX13_makeOrder_2 : decode cX13_makeOrder 2 = .ok (.iconst 4, 1) := by decide +kernel
theorem dX13_makeOrder_3 : decode cX13_makeOrder 3 = .ok (.invokestatic 97, 3) := by decide +kernel
theorem dX13_makeOrder_6 : decode cX13_makeOrder 6 = .ok (.ifCond .eq 29, 3) := by decide +kernel
theorem dX13_makeOrder_9 : decode cX13_makeOrder 9 = .ok (.iload_n 3, 1) := by decide +kernel
theorem dX13_makeOrder_10 : decode cX13_makeOrder 10 = .ok (.iconst 1, 1) := by decide +kernel
theorem dX13_makeOrder_11 : decode cX13_makeOrder 11 = .ok (.bipush 6, 2) := by decide +kernel
theorem dX13_makeOrder_13 : decode cX13_makeOrder 13 = .ok (.invokestatic 97, 3) := by decide +kernel
theorem dX13_makeOrder_16 : decode cX13_makeOrder 16 = .ok (.ifCond .eq 19, 3) := by decide +kernel
theorem dX13_makeOrder_19 : decode cX13_makeOrder 19 = .ok (.iload 4, 2) := by decide +kernel
theorem dX13_makeOrder_21 : decode cX13_makeOrder 21 = .ok (.iconst 1, 1) := by decide +kernel
theorem dX13_makeOrder_22 : decode cX13_makeOrder 22 = .ok (.sipush 500, 3) := by decide +kernel
theorem dX13_makeOrder_25 : decode cX13_makeOrder 25 = .ok (.invokestatic 97, 3) := by decide +kernel
theorem dX13_makeOrder_28 : decode cX13_makeOrder 28 = .ok (.ifCond .eq 7, 3) := by decide +kernel
theorem dX13_makeOrder_31 : decode cX13_makeOrder 31 = .ok (.iconst 1, 1) := by decide +kernel
theorem dX13_makeOrder_32 : decode cX13_makeOrder 32 = .ok (.goto 4, 3) := by decide +kernel
theorem dX13_makeOrder_35 : decode cX13_makeOrder 35 = .ok (.iconst 0, 1) := by decide +kernel
theorem dX13_makeOrder_36 : decode cX13_makeOrder 36 = .ok (.istore 5, 2) := by decide +kernel
theorem dX13_makeOrder_38 : decode cX13_makeOrder 38 = .ok (.aload_n 0, 1) := by decide +kernel
theorem dX13_makeOrder_39 : decode cX13_makeOrder 39 = .ok (.aload_n 0, 1) := by decide +kernel
theorem dX13_makeOrder_40 : decode cX13_makeOrder 40 = .ok (.iload_n 1, 1) := by decide +kernel
theorem dX13_makeOrder_41 : decode cX13_makeOrder 41 = .ok (.invokevirtual 131, 3) := by decide +kernel
theorem dX13_makeOrder_44 : decode cX13_makeOrder 44 = .ok (.iload 5, 2) := by decide +kernel
theorem dX13_makeOrder_46 : decode cX13_makeOrder 46 = .ok (.invokevirtual 263, 3) := by decide +kernel
theorem dX13_makeOrder_49 : decode cX13_makeOrder 49 = .ok (.ifCond .eq 5, 3) := by decide +kernel
theorem dX13_makeOrder_52 : decode cX13_makeOrder 52 = .ok (.iconst 0, 1) := by decide +kernel
theorem dX13_makeOrder_53 : decode cX13_makeOrder 53 = .ok (.ireturn, 1) := by decide +kernel
theorem dX13_makeOrder_54 : decode cX13_makeOrder 54 = .ok (.aload_n 0, 1) := by decide +kernel
theorem dX13_makeOrder_55 : decode cX13_makeOrder 55 = .ok (.invokevirtual 254, 3) := by decide +kernel
theorem dX13_makeOrder_58 : decode cX13_makeOrder 58 = .ok (.aload_n 0, 1) := by decide +kernel
theorem dX13_makeOrder_59 : decode cX13_makeOrder 59 = .ok (.aload_n 0, 1) := by decide +kernel
theorem dX13_makeOrder_60 : decode cX13_makeOrder 60 = .ok (.iload_n 1, 1) := by decide +kernel
theorem dX13_makeOrder_61 : decode cX13_makeOrder 61 = .ok (.iload_n 2, 1) := by decide +kernel
theorem dX13_makeOrder_62 : decode cX13_makeOrder 62 = .ok (.iload_n 3, 1) := by decide +kernel
theorem dX13_makeOrder_63 : decode cX13_makeOrder 63 = .ok (.iload 4, 2) := by decide +kernel
theorem dX13_makeOrder_65 : decode cX13_makeOrder 65 = .ok (.invokevirtual 267, 3) := by decide +kernel
theorem dX13_makeOrder_68 : decode cX13_makeOrder 68 = .ok (.invokevirtual 260, 3) := by decide +kernel
theorem dX13_makeOrder_71 : decode cX13_makeOrder 71 = .ok (.ireturn, 1) := by decide +kernel
theorem dX13_take_0 : decode cX13_take 0 = .ok (.aload_n 0, 1) := by decide +kernel
theorem dX13_take_1 : decode cX13_take 1 = .ok (.invokevirtual 254, 3) := by decide +kernel
theorem dX13_take_4 : decode cX13_take 4 = .ok (.aload_n 0, 1) := by decide +kernel
theorem dX13_take_5 : decode cX13_take 5 = .ok (.aload_n 0, 1) := by decide +kernel
theorem dX13_take_6 : decode cX13_take 6 = .ok (.iload_n 1, 1) := by decide +kernel
theorem dX13_take_7 : decode cX13_take 7 = .ok (.iload_n 2, 1) := by decide +kernel
theorem dX13_take_8 : decode cX13_take 8 = .ok (.invokevirtual 271, 3) := by decide +kernel
theorem dX13_take_11 : decode cX13_take 11 = .ok (.invokevirtual 260, 3) := by decide +kernel
theorem dX13_take_14 : decode cX13_take 14 = .ok (.ireturn, 1) := by decide +kernel
theorem dX13_drop_0 : decode cX13_drop 0 = .ok (.aload_n 0, 1) := by decide +kernel
theorem dX13_drop_1 : decode cX13_drop 1 = .ok (.invokevirtual 254, 3) := by decide +kernel
theorem dX13_drop_4 : decode cX13_drop 4 = .ok (.aload_n 0, 1) := by decide +kernel
theorem dX13_drop_5 : decode cX13_drop 5 = .ok (.aload_n 0, 1) := by decide +kernel
theorem dX13_drop_6 : decode cX13_drop 6 = .ok (.iload_n 1, 1) := by decide +kernel
theorem dX13_drop_7 : decode cX13_drop 7 = .ok (.invokevirtual 274, 3) := by decide +kernel
theorem dX13_drop_10 : decode cX13_drop 10 = .ok (.invokevirtual 260, 3) := by decide +kernel
theorem dX13_drop_13 : decode cX13_drop 13 = .ok (.ireturn, 1) := by decide +kernel
theorem dX13_buyFlour_0 : decode cX13_buyFlour 0 = .ok (.aload_n 0, 1) := by decide +kernel
theorem dX13_buyFlour_1 : decode cX13_buyFlour 1 = .ok (.aload_n 0, 1) := by decide +kernel
theorem dX13_buyFlour_2 : decode cX13_buyFlour 2 = .ok (.iload_n 1, 1) := by decide +kernel
theorem dX13_buyFlour_3 : decode cX13_buyFlour 3 = .ok (.invokevirtual 140, 3) := by decide +kernel
theorem dX13_buyFlour_6 : decode cX13_buyFlour 6 = .ok (.iload_n 2, 1) := by decide +kernel
theorem dX13_buyFlour_7 : decode cX13_buyFlour 7 = .ok (.iconst 1, 1) := by decide +kernel
theorem dX13_buyFlour_8 : decode cX13_buyFlour 8 = .ok (.bipush 99, 2) := by decide +kernel
theorem dX13_buyFlour_10 : decode cX13_buyFlour 10 = .ok (.invokestatic 97, 3) := by decide +kernel
theorem dX13_buyFlour_13 : decode cX13_buyFlour 13 = .ok (.invokevirtual 263, 3) := by decide +kernel
theorem dX13_buyFlour_16 : decode cX13_buyFlour 16 = .ok (.ifCond .eq 5, 3) := by decide +kernel
theorem dX13_buyFlour_19 : decode cX13_buyFlour 19 = .ok (.iconst 0, 1) := by decide +kernel
theorem dX13_buyFlour_20 : decode cX13_buyFlour 20 = .ok (.ireturn, 1) := by decide +kernel
theorem dX13_buyFlour_21 : decode cX13_buyFlour 21 = .ok (.aload_n 0, 1) := by decide +kernel
theorem dX13_buyFlour_22 : decode cX13_buyFlour 22 = .ok (.invokevirtual 254, 3) := by decide +kernel
theorem dX13_buyFlour_25 : decode cX13_buyFlour 25 = .ok (.aload_n 0, 1) := by decide +kernel
theorem dX13_buyFlour_26 : decode cX13_buyFlour 26 = .ok (.aload_n 0, 1) := by decide +kernel
theorem dX13_buyFlour_27 : decode cX13_buyFlour 27 = .ok (.iload_n 1, 1) := by decide +kernel
theorem dX13_buyFlour_28 : decode cX13_buyFlour 28 = .ok (.iload_n 2, 1) := by decide +kernel
theorem dX13_buyFlour_29 : decode cX13_buyFlour 29 = .ok (.invokevirtual 277, 3) := by decide +kernel
theorem dX13_buyFlour_32 : decode cX13_buyFlour 32 = .ok (.invokevirtual 260, 3) := by decide +kernel
theorem dX13_buyFlour_35 : decode cX13_buyFlour 35 = .ok (.ireturn, 1) := by decide +kernel
theorem dX13_collect_0 : decode cX13_collect 0 = .ok (.aload_n 0, 1) := by decide +kernel
theorem dX13_collect_1 : decode cX13_collect 1 = .ok (.invokevirtual 254, 3) := by decide +kernel
theorem dX13_collect_4 : decode cX13_collect 4 = .ok (.aload_n 0, 1) := by decide +kernel
theorem dX13_collect_5 : decode cX13_collect 5 = .ok (.aload_n 0, 1) := by decide +kernel
theorem dX13_collect_6 : decode cX13_collect 6 = .ok (.iload_n 1, 1) := by decide +kernel
theorem dX13_collect_7 : decode cX13_collect 7 = .ok (.invokevirtual 280, 3) := by decide +kernel
theorem dX13_collect_10 : decode cX13_collect 10 = .ok (.invokevirtual 260, 3) := by decide +kernel
theorem dX13_collect_13 : decode cX13_collect 13 = .ok (.ireturn, 1) := by decide +kernel
theorem dX13_wash_0 : decode cX13_wash 0 = .ok (.aload_n 0, 1) := by decide +kernel
theorem dX13_wash_1 : decode cX13_wash 1 = .ok (.invokevirtual 254, 3) := by decide +kernel
theorem dX13_wash_4 : decode cX13_wash 4 = .ok (.aload_n 0, 1) := by decide +kernel
theorem dX13_wash_5 : decode cX13_wash 5 = .ok (.aload_n 0, 1) := by decide +kernel
theorem dX13_wash_6 : decode cX13_wash 6 = .ok (.iload_n 1, 1) := by decide +kernel
theorem dX13_wash_7 : decode cX13_wash 7 = .ok (.invokevirtual 283, 3) := by decide +kernel
theorem dX13_wash_10 : decode cX13_wash 10 = .ok (.invokevirtual 260, 3) := by decide +kernel
theorem dX13_wash_13 : decode cX13_wash 13 = .ok (.ireturn, 1) := by decide +kernel
theorem dX13_passMinutes_0 : decode cX13_passMinutes 0 = .ok (.aload_n 0, 1) := by decide +kernel
theorem dX13_passMinutes_1 : decode cX13_passMinutes 1 = .ok (.iload_n 1, 1) := by decide +kernel
theorem dX13_passMinutes_2 : decode cX13_passMinutes 2 = .ok (.iconst 1, 1) := by decide +kernel
theorem dX13_passMinutes_3 : decode cX13_passMinutes 3 = .ok (.bipush 60, 2) := by decide +kernel
theorem dX13_passMinutes_5 : decode cX13_passMinutes 5 = .ok (.invokestatic 97, 3) := by decide +kernel
theorem dX13_passMinutes_8 : decode cX13_passMinutes 8 = .ok (.invokevirtual 82, 3) := by decide +kernel
theorem dX13_passMinutes_11 : decode cX13_passMinutes 11 = .ok (.ifCond .eq 5, 3) := by decide +kernel
theorem dX13_passMinutes_14 : decode cX13_passMinutes 14 = .ok (.iconst 0, 1) := by decide +kernel
theorem dX13_passMinutes_15 : decode cX13_passMinutes 15 = .ok (.ireturn, 1) := by decide +kernel
theorem dX13_passMinutes_16 : decode cX13_passMinutes 16 = .ok (.aload_n 0, 1) := by decide +kernel
theorem dX13_passMinutes_17 : decode cX13_passMinutes 17 = .ok (.invokevirtual 254, 3) := by decide +kernel
theorem dX13_passMinutes_20 : decode cX13_passMinutes 20 = .ok (.aload_n 0, 1) := by decide +kernel
theorem dX13_passMinutes_21 : decode cX13_passMinutes 21 = .ok (.aload_n 0, 1) := by decide +kernel
theorem dX13_passMinutes_22 : decode cX13_passMinutes 22 = .ok (.iload_n 1, 1) := by decide +kernel
theorem dX13_passMinutes_23 : decode cX13_passMinutes 23 = .ok (.invokevirtual 286, 3) := by decide +kernel
theorem dX13_passMinutes_26 : decode cX13_passMinutes 26 = .ok (.invokevirtual 260, 3) := by decide +kernel
theorem dX13_passMinutes_29 : decode cX13_passMinutes 29 = .ok (.ireturn, 1) := by decide +kernel
theorem dX13_write_0 : decode cX13_write 0 = .ok (.aload_n 0, 1) := by decide +kernel
theorem dX13_write_1 : decode cX13_write 1 = .ok (.getfield 31, 3) := by decide +kernel
theorem dX13_write_4 : decode cX13_write 4 = .ok (.aload_n 0, 1) := by decide +kernel
theorem dX13_write_5 : decode cX13_write 5 = .ok (.getfield 289, 3) := by decide +kernel
theorem dX13_write_8 : decode cX13_write 8 = .ok (.iload_n 1, 1) := by decide +kernel
theorem dX13_write_9 : decode cX13_write 9 = .ok (.iastore, 1) := by decide +kernel
theorem dX13_write_10 : decode cX13_write 10 = .ok (.aload_n 0, 1) := by decide +kernel
theorem dX13_write_11 : decode cX13_write 11 = .ok (.dup, 1) := by decide +kernel
theorem dX13_write_12 : decode cX13_write 12 = .ok (.getfield 289, 3) := by decide +kernel
theorem dX13_write_15 : decode cX13_write 15 = .ok (.iconst 1, 1) := by decide +kernel
theorem dX13_write_16 : decode cX13_write 16 = .ok (.iadd, 1) := by decide +kernel
theorem dX13_write_17 : decode cX13_write 17 = .ok (.putfield 289, 3) := by decide +kernel
theorem dX13_write_20 : decode cX13_write 20 = .ok (.return_, 1) := by decide +kernel
theorem dX13_writeCanal_0 : decode cX13_writeCanal 0 = .ok (.aload_n 0, 1) := by decide +kernel
theorem dX13_writeCanal_1 : decode cX13_writeCanal 1 = .ok (.iconst 0, 1) := by decide +kernel
theorem dX13_writeCanal_2 : decode cX13_writeCanal 2 = .ok (.putfield 79, 3) := by decide +kernel
theorem dX13_writeCanal_5 : decode cX13_writeCanal 5 = .ok (.aload_n 0, 1) := by decide +kernel
theorem dX13_writeCanal_6 : decode cX13_writeCanal 6 = .ok (.iconst 0, 1) := by decide +kernel
theorem dX13_writeCanal_7 : decode cX13_writeCanal 7 = .ok (.putfield 289, 3) := by decide +kernel
theorem dX13_writeCanal_10 : decode cX13_writeCanal 10 = .ok (.iconst 0, 1) := by decide +kernel
theorem dX13_writeCanal_11 : decode cX13_writeCanal 11 = .ok (.istore_n 1, 1) := by decide +kernel
theorem dX13_writeCanal_12 : decode cX13_writeCanal 12 = .ok (.iload_n 1, 1) := by decide +kernel
theorem dX13_writeCanal_13 : decode cX13_writeCanal 13 = .ok (.aload_n 0, 1) := by decide +kernel
theorem dX13_writeCanal_14 : decode cX13_writeCanal 14 = .ok (.getfield 28, 3) := by decide +kernel
theorem dX13_writeCanal_17 : decode cX13_writeCanal 17 = .ok (.iconst 1, 1) := by decide +kernel
theorem dX13_writeCanal_18 : decode cX13_writeCanal 18 = .ok (.iaload, 1) := by decide +kernel
theorem dX13_writeCanal_19 : decode cX13_writeCanal 19 = .ok (.if_icmp .ge 77, 3) := by decide +kernel
theorem dX13_writeCanal_22 : decode cX13_writeCanal 22 = .ok (.aload_n 0, 1) := by decide +kernel
theorem dX13_writeCanal_23 : decode cX13_writeCanal 23 = .ok (.iload_n 1, 1) := by decide +kernel
theorem dX13_writeCanal_24 : decode cX13_writeCanal 24 = .ok (.invokevirtual 134, 3) := by decide +kernel
theorem dX13_writeCanal_27 : decode cX13_writeCanal 27 = .ok (.istore_n 2, 1) := by decide +kernel
theorem dX13_writeCanal_28 : decode cX13_writeCanal 28 = .ok (.aload_n 0, 1) := by decide +kernel
theorem dX13_writeCanal_29 : decode cX13_writeCanal 29 = .ok (.iload_n 2, 1) := by decide +kernel
theorem dX13_writeCanal_30 : decode cX13_writeCanal 30 = .ok (.ifCond .ne 8, 3) := by decide +kernel
theorem dX13_writeCanal_33 : decode cX13_writeCanal 33 = .ok (.bipush 46, 2) := by decide +kernel
theorem dX13_writeCanal_35 : decode cX13_writeCanal 35 = .ok (.goto 7, 3) := by decide +kernel
theorem dX13_writeCanal_38 : decode cX13_writeCanal 38 = .ok (.bipush 48, 2) := by decide +kernel
theorem dX13_writeCanal_40 : decode cX13_writeCanal 40 = .ok (.iload_n 2, 1) := by decide +kernel
theorem dX13_writeCanal_41 : decode cX13_writeCanal 41 = .ok (.iadd, 1) := by decide +kernel
theorem dX13_writeCanal_42 : decode cX13_writeCanal 42 = .ok (.invokevirtual 292, 3) := by decide +kernel
theorem dX13_writeCanal_45 : decode cX13_writeCanal 45 = .ok (.aload_n 0, 1) := by decide +kernel
theorem dX13_writeCanal_46 : decode cX13_writeCanal 46 = .ok (.iload_n 1, 1) := by decide +kernel
theorem dX13_writeCanal_47 : decode cX13_writeCanal 47 = .ok (.invokevirtual 125, 3) := by decide +kernel
theorem dX13_writeCanal_50 : decode cX13_writeCanal 50 = .ok (.ifCond .eq 40, 3) := by decide +kernel
theorem dX13_writeCanal_53 : decode cX13_writeCanal 53 = .ok (.aload_n 0, 1) := by decide +kernel
theorem dX13_writeCanal_54 : decode cX13_writeCanal 54 = .ok (.aload_n 0, 1) := by decide +kernel
theorem dX13_writeCanal_55 : decode cX13_writeCanal 55 = .ok (.iload_n 1, 1) := by decide +kernel
theorem dX13_writeCanal_56 : decode cX13_writeCanal 56 = .ok (.invokevirtual 128, 3) := by decide +kernel
theorem dX13_writeCanal_59 : decode cX13_writeCanal 59 = .ok (.iconst (-1), 1) := by decide +kernel
theorem dX13_writeCanal_60 : decode cX13_writeCanal 60 = .ok (.if_icmp .eq 8, 3) := by decide +kernel
theorem dX13_writeCanal_63 : decode cX13_writeCanal 63 = .ok (.bipush 61, 2) := by decide +kernel
theorem dX13_writeCanal_65 : decode cX13_writeCanal 65 = .ok (.goto 22, 3) := by decide +kernel
theorem dX13_writeCanal_68 : decode cX13_writeCanal 68 = .ok (.aload_n 0, 1) := by decide +kernel
theorem dX13_writeCanal_69 : decode cX13_writeCanal 69 = .ok (.getfield 28, 3) := by decide +kernel
theorem dX13_writeCanal_72 : decode cX13_writeCanal 72 = .ok (.bipush 10, 2) := by decide +kernel
theorem dX13_writeCanal_74 : decode cX13_writeCanal 74 = .ok (.iload_n 1, 1) := by decide +kernel
theorem dX13_writeCanal_75 : decode cX13_writeCanal 75 = .ok (.iadd, 1) := by decide +kernel
theorem dX13_writeCanal_76 : decode cX13_writeCanal 76 = .ok (.iaload, 1) := by decide +kernel
theorem dX13_writeCanal_77 : decode cX13_writeCanal 77 = .ok (.ifCond .le 8, 3) := by decide +kernel
theorem dX13_writeCanal_80 : decode cX13_writeCanal 80 = .ok (.bipush 124, 2) := by decide +kernel
theorem dX13_writeCanal_82 : decode cX13_writeCanal 82 = .ok (.goto 5, 3) := by decide +kernel
theorem dX13_writeCanal_85 : decode cX13_writeCanal 85 = .ok (.bipush 45, 2) := by decide +kernel
theorem dX13_writeCanal_87 : decode cX13_writeCanal 87 = .ok (.invokevirtual 292, 3) := by decide +kernel
theorem dX13_writeCanal_90 : decode cX13_writeCanal 90 = .ok (.iinc 1 1, 3) := by decide +kernel
theorem dX13_writeCanal_93 : decode cX13_writeCanal 93 = .ok (.goto (-81), 3) := by decide +kernel
theorem dX13_writeCanal_96 : decode cX13_writeCanal 96 = .ok (.aload_n 0, 1) := by decide +kernel
theorem dX13_writeCanal_97 : decode cX13_writeCanal 97 = .ok (.getfield 289, 3) := by decide +kernel
theorem dX13_writeCanal_100 : decode cX13_writeCanal 100 = .ok (.ireturn, 1) := by decide +kernel
theorem dX13_outputByte_0 : decode cX13_outputByte 0 = .ok (.aload_n 0, 1) := by decide +kernel
theorem dX13_outputByte_1 : decode cX13_outputByte 1 = .ok (.iload_n 1, 1) := by decide +kernel
theorem dX13_outputByte_2 : decode cX13_outputByte 2 = .ok (.iconst 0, 1) := by decide +kernel
theorem dX13_outputByte_3 : decode cX13_outputByte 3 = .ok (.aload_n 0, 1) := by decide +kernel
theorem dX13_outputByte_4 : decode cX13_outputByte 4 = .ok (.getfield 289, 3) := by decide +kernel
theorem dX13_outputByte_7 : decode cX13_outputByte 7 = .ok (.iconst 1, 1) := by decide +kernel
theorem dX13_outputByte_8 : decode cX13_outputByte 8 = .ok (.isub, 1) := by decide +kernel
theorem dX13_outputByte_9 : decode cX13_outputByte 9 = .ok (.invokestatic 97, 3) := by decide +kernel
theorem dX13_outputByte_12 : decode cX13_outputByte 12 = .ok (.invokevirtual 82, 3) := by decide +kernel
theorem dX13_outputByte_15 : decode cX13_outputByte 15 = .ok (.ifCond .eq 7, 3) := by decide +kernel
theorem dX13_outputByte_18 : decode cX13_outputByte 18 = .ok (.iconst 0, 1) := by decide +kernel
theorem dX13_outputByte_19 : decode cX13_outputByte 19 = .ok (.goto 9, 3) := by decide +kernel
theorem dX13_outputByte_22 : decode cX13_outputByte 22 = .ok (.aload_n 0, 1) := by decide +kernel
theorem dX13_outputByte_23 : decode cX13_outputByte 23 = .ok (.getfield 31, 3) := by decide +kernel
theorem dX13_outputByte_26 : decode cX13_outputByte 26 = .ok (.iload_n 1, 1) := by decide +kernel
theorem dX13_outputByte_27 : decode cX13_outputByte 27 = .ok (.iaload, 1) := by decide +kernel
theorem dX13_outputByte_28 : decode cX13_outputByte 28 = .ok (.ireturn, 1) := by decide +kernel
theorem dX13_undoableCount_0 : decode cX13_undoableCount 0 = .ok (.aload_n 0, 1) := by decide +kernel
theorem dX13_undoableCount_1 : decode cX13_undoableCount 1 = .ok (.iconst 0, 1) := by decide +kernel
theorem dX13_undoableCount_2 : decode cX13_undoableCount 2 = .ok (.putfield 79, 3) := by decide +kernel
theorem dX13_undoableCount_5 : decode cX13_undoableCount 5 = .ok (.aload_n 0, 1) := by decide +kernel
theorem dX13_undoableCount_6 : decode cX13_undoableCount 6 = .ok (.getfield 248, 3) := by decide +kernel
theorem dX13_undoableCount_9 : decode cX13_undoableCount 9 = .ok (.ireturn, 1) := by decide +kernel
theorem dX13_undo_0 : decode cX13_undo 0 = .ok (.aload_n 0, 1) := by decide +kernel
theorem dX13_undo_1 : decode cX13_undo 1 = .ok (.aload_n 0, 1) := by decide +kernel
theorem dX13_undo_2 : decode cX13_undo 2 = .ok (.getfield 248, 3) := by decide +kernel
theorem dX13_undo_5 : decode cX13_undo 5 = .ok (.ifCond .le 7, 3) := by decide +kernel
theorem dX13_undo_8 : decode cX13_undo 8 = .ok (.iconst 1, 1) := by decide +kernel
theorem dX13_undo_9 : decode cX13_undo 9 = .ok (.goto 4, 3) := by decide +kernel
theorem dX13_undo_12 : decode cX13_undo 12 = .ok (.iconst 0, 1) := by decide +kernel
theorem dX13_undo_13 : decode cX13_undo 13 = .ok (.invokevirtual 82, 3) := by decide +kernel
theorem dX13_undo_16 : decode cX13_undo 16 = .ok (.ifCond .eq 5, 3) := by decide +kernel
theorem dX13_undo_19 : decode cX13_undo 19 = .ok (.iconst 0, 1) := by decide +kernel
theorem dX13_undo_20 : decode cX13_undo 20 = .ok (.ireturn, 1) := by decide +kernel
theorem dX13_undo_21 : decode cX13_undo 21 = .ok (.aload_n 0, 1) := by decide +kernel
theorem dX13_undo_22 : decode cX13_undo 22 = .ok (.dup, 1) := by decide +kernel
theorem dX13_undo_23 : decode cX13_undo 23 = .ok (.getfield 248, 3) := by decide +kernel
theorem dX13_undo_26 : decode cX13_undo 26 = .ok (.iconst 1, 1) := by decide +kernel
theorem dX13_undo_27 : decode cX13_undo 27 = .ok (.isub, 1) := by decide +kernel
theorem dX13_undo_28 : decode cX13_undo 28 = .ok (.putfield 248, 3) := by decide +kernel
theorem dX13_undo_31 : decode cX13_undo 31 = .ok (.aload_n 0, 1) := by decide +kernel
theorem dX13_undo_32 : decode cX13_undo 32 = .ok (.getfield 25, 3) := by decide +kernel
theorem dX13_undo_35 : decode cX13_undo 35 = .ok (.aload_n 0, 1) := by decide +kernel
theorem dX13_undo_36 : decode cX13_undo 36 = .ok (.getfield 248, 3) := by decide +kernel
theorem dX13_undo_39 : decode cX13_undo 39 = .ok (.aload_n 0, 1) := by decide +kernel
theorem dX13_undo_40 : decode cX13_undo 40 = .ok (.getfield 9, 3) := by decide +kernel
theorem dX13_undo_43 : decode cX13_undo 43 = .ok (.iconst 0, 1) := by decide +kernel
theorem dX13_undo_44 : decode cX13_undo 44 = .ok (.invokestatic 229, 3) := by decide +kernel
theorem dX13_undo_47 : decode cX13_undo 47 = .ok (.aload_n 0, 1) := by decide +kernel
theorem dX13_undo_48 : decode cX13_undo 48 = .ok (.getfield 248, 3) := by decide +kernel
theorem dX13_undo_51 : decode cX13_undo 51 = .ok (.ireturn, 1) := by decide +kernel
theorem dX13_saveSnapshot_0 : decode cX13_saveSnapshot 0 = .ok (.aload_n 0, 1) := by decide +kernel
theorem dX13_saveSnapshot_1 : decode cX13_saveSnapshot 1 = .ok (.iconst 0, 1) := by decide +kernel
theorem dX13_saveSnapshot_2 : decode cX13_saveSnapshot 2 = .ok (.putfield 79, 3) := by decide +kernel
theorem dX13_saveSnapshot_5 : decode cX13_saveSnapshot 5 = .ok (.aload_n 0, 1) := by decide +kernel
theorem dX13_saveSnapshot_6 : decode cX13_saveSnapshot 6 = .ok (.getfield 9, 3) := by decide +kernel
theorem dX13_saveSnapshot_9 : decode cX13_saveSnapshot 9 = .ok (.iconst 0, 1) := by decide +kernel
theorem dX13_saveSnapshot_10 : decode cX13_saveSnapshot 10 = .ok (.aload_n 0, 1) := by decide +kernel
theorem dX13_saveSnapshot_11 : decode cX13_saveSnapshot 11 = .ok (.getfield 22, 3) := by decide +kernel
theorem dX13_saveSnapshot_14 : decode cX13_saveSnapshot 14 = .ok (.iconst 0, 1) := by decide +kernel
theorem dX13_saveSnapshot_15 : decode cX13_saveSnapshot 15 = .ok (.invokestatic 229, 3) := by decide +kernel
theorem dX13_saveSnapshot_18 : decode cX13_saveSnapshot 18 = .ok (.aload_n 0, 1) := by decide +kernel
theorem dX13_saveSnapshot_19 : decode cX13_saveSnapshot 19 = .ok (.iconst 1, 1) := by decide +kernel
theorem dX13_saveSnapshot_20 : decode cX13_saveSnapshot 20 = .ok (.putfield 295, 3) := by decide +kernel
theorem dX13_saveSnapshot_23 : decode cX13_saveSnapshot 23 = .ok (.return_, 1) := by decide +kernel
theorem dX13_restoreSnapshot_0 : decode cX13_restoreSnapshot 0 = .ok (.aload_n 0, 1) := by decide +kernel
theorem dX13_restoreSnapshot_1 : decode cX13_restoreSnapshot 1 = .ok (.aload_n 0, 1) := by decide +kernel
theorem dX13_restoreSnapshot_2 : decode cX13_restoreSnapshot 2 = .ok (.getfield 295, 3) := by decide +kernel
theorem dX13_restoreSnapshot_5 : decode cX13_restoreSnapshot 5 = .ok (.invokevirtual 82, 3) := by decide +kernel
theorem dX13_restoreSnapshot_8 : decode cX13_restoreSnapshot 8 = .ok (.ifCond .eq 5, 3) := by decide +kernel
theorem dX13_restoreSnapshot_11 : decode cX13_restoreSnapshot 11 = .ok (.iconst 0, 1) := by decide +kernel
theorem dX13_restoreSnapshot_12 : decode cX13_restoreSnapshot 12 = .ok (.ireturn, 1) := by decide +kernel
theorem dX13_restoreSnapshot_13 : decode cX13_restoreSnapshot 13 = .ok (.aload_n 0, 1) := by decide +kernel
theorem dX13_restoreSnapshot_14 : decode cX13_restoreSnapshot 14 = .ok (.getfield 22, 3) := by decide +kernel
theorem dX13_restoreSnapshot_17 : decode cX13_restoreSnapshot 17 = .ok (.iconst 0, 1) := by decide +kernel
theorem dX13_restoreSnapshot_18 : decode cX13_restoreSnapshot 18 = .ok (.aload_n 0, 1) := by decide +kernel
theorem dX13_restoreSnapshot_19 : decode cX13_restoreSnapshot 19 = .ok (.getfield 9, 3) := by decide +kernel
theorem dX13_restoreSnapshot_22 : decode cX13_restoreSnapshot 22 = .ok (.iconst 0, 1) := by decide +kernel
theorem dX13_restoreSnapshot_23 : decode cX13_restoreSnapshot 23 = .ok (.invokestatic 229, 3) := by decide +kernel
theorem dX13_restoreSnapshot_26 : decode cX13_restoreSnapshot 26 = .ok (.aload_n 0, 1) := by decide +kernel
theorem dX13_restoreSnapshot_27 : decode cX13_restoreSnapshot 27 = .ok (.iconst 0, 1) := by decide +kernel
theorem dX13_restoreSnapshot_28 : decode cX13_restoreSnapshot 28 = .ok (.putfield 248, 3) := by decide +kernel
theorem dX13_restoreSnapshot_31 : decode cX13_restoreSnapshot 31 = .ok (.aload_n 0, 1) := by decide +kernel
theorem dX13_restoreSnapshot_32 : decode cX13_restoreSnapshot 32 = .ok (.getfield 28, 3) := by decide +kernel
theorem dX13_restoreSnapshot_35 : decode cX13_restoreSnapshot 35 = .ok (.iconst 0, 1) := by decide +kernel
theorem dX13_restoreSnapshot_36 : decode cX13_restoreSnapshot 36 = .ok (.iaload, 1) := by decide +kernel
theorem dX13_restoreSnapshot_37 : decode cX13_restoreSnapshot 37 = .ok (.ireturn, 1) := by decide +kernel
theorem dX13_appendText_0 : decode cX13_appendText 0 = .ok (.aload_n 0, 1) := by decide +kernel
theorem dX13_appendText_1 : decode cX13_appendText 1 = .ok (.iconst 0, 1) := by decide +kernel
theorem dX13_appendText_2 : decode cX13_appendText 2 = .ok (.putfield 79, 3) := by decide +kernel
theorem dX13_appendText_5 : decode cX13_appendText 5 = .ok (.aload_n 0, 1) := by decide +kernel
theorem dX13_appendText_6 : decode cX13_appendText 6 = .ok (.getfield 299, 3) := by decide +kernel
theorem dX13_appendText_9 : decode cX13_appendText 9 = .ok (.bipush 20, 2) := by decide +kernel
theorem dX13_appendText_11 : decode cX13_appendText 11 = .ok (.iadd, 1) := by decide +kernel
theorem dX13_appendText_12 : decode cX13_appendText 12 = .ok (.sipush 500, 3) := by decide +kernel
theorem dX13_appendText_15 : decode cX13_appendText 15 = .ok (.if_icmp .le 5, 3) := by decide +kernel
theorem dX13_appendText_18 : decode cX13_appendText 18 = .ok (.iconst (-1), 1) := by decide +kernel
theorem dX13_appendText_19 : decode cX13_appendText 19 = .ok (.ireturn, 1) := by decide +kernel
theorem dX13_appendText_20 : decode cX13_appendText 20 = .ok (.iconst 0, 1) := by decide +kernel
theorem dX13_appendText_21 : decode cX13_appendText 21 = .ok (.istore 6, 2) := by decide +kernel
theorem dX13_appendText_23 : decode cX13_appendText 23 = .ok (.iload 6, 2) := by decide +kernel
theorem dX13_appendText_25 : decode cX13_appendText 25 = .ok (.bipush 20, 2) := by decide +kernel
theorem dX13_appendText_27 : decode cX13_appendText 27 = .ok (.if_icmp .ge 93, 3) := by decide +kernel
theorem dX13_appendText_30 : decode cX13_appendText 30 = .ok (.iload 6, 2) := by decide +kernel
theorem dX13_appendText_32 : decode cX13_appendText 32 = .ok (.iconst 4, 1) := by decide +kernel
theorem dX13_appendText_33 : decode cX13_appendText 33 = .ok (.if_icmp .ge 7, 3) := by decide +kernel
theorem dX13_appendText_36 : decode cX13_appendText 36 = .ok (.iload_n 1, 1) := by decide +kernel
theorem dX13_appendText_37 : decode cX13_appendText 37 = .ok (.goto 39, 3) := by decide +kernel
theorem dX13_appendText_40 : decode cX13_appendText 40 = .ok (.iload 6, 2) := by decide +kernel
theorem dX13_appendText_42 : decode cX13_appendText 42 = .ok (.bipush 8, 2) := by decide +kernel
theorem dX13_appendText_44 : decode cX13_appendText 44 = .ok (.if_icmp .ge 7, 3) := by decide +kernel
theorem dX13_appendText_47 : decode cX13_appendText 47 = .ok (.iload_n 2, 1) := by decide +kernel
theorem dX13_appendText_48 : decode cX13_appendText 48 = .ok (.goto 28, 3) := by decide +kernel
theorem dX13_appendText_51 : decode cX13_appendText 51 = .ok (.iload 6, 2) := by decide +kernel
theorem dX13_appendText_53 : decode cX13_appendText 53 = .ok (.bipush 12, 2) := by decide +kernel
theorem dX13_appendText_55 : decode cX13_appendText 55 = .ok (.if_icmp .ge 7, 3) := by decide +kernel
theorem dX13_appendText_58 : decode cX13_appendText 58 = .ok (.iload_n 3, 1) := by decide +kernel
theorem dX13_appendText_59 : decode cX13_appendText 59 = .ok (.goto 17, 3) := by decide +kernel
theorem dX13_appendText_62 : decode cX13_appendText 62 = .ok (.iload 6, 2) := by decide +kernel
theorem dX13_appendText_64 : decode cX13_appendText 64 = .ok (.bipush 16, 2) := by decide +kernel
theorem dX13_appendText_66 : decode cX13_appendText 66 = .ok (.if_icmp .ge 8, 3) := by decide +kernel
theorem dX13_appendText_69 : decode cX13_appendText 69 = .ok (.iload 4, 2) := by decide +kernel
theorem dX13_appendText_71 : decode cX13_appendText 71 = .ok (.goto 5, 3) := by decide +kernel
theorem dX13_appendText_74 : decode cX13_appendText 74 = .ok (.iload 5, 2) := by decide +kernel
theorem dX13_appendText_76 : decode cX13_appendText 76 = .ok (.istore 7, 2) := by decide +kernel
theorem dX13_appendText_78 : decode cX13_appendText 78 = .ok (.aload_n 0, 1) := by decide +kernel
theorem dX13_appendText_79 : decode cX13_appendText 79 = .ok (.getfield 34, 3) := by decide +kernel
theorem dX13_appendText_82 : decode cX13_appendText 82 = .ok (.aload_n 0, 1) := by decide +kernel
theorem dX13_appendText_83 : decode cX13_appendText 83 = .ok (.getfield 299, 3) := by decide +kernel
theorem dX13_appendText_86 : decode cX13_appendText 86 = .ok (.iload 7, 2) := by decide +kernel
theorem dX13_appendText_88 : decode cX13_appendText 88 = .ok (.bipush 24, 2) := by decide +kernel
theorem dX13_appendText_90 : decode cX13_appendText 90 = .ok (.bipush 8, 2) := by decide +kernel
theorem dX13_appendText_92 : decode cX13_appendText 92 = .ok (.iload 6, 2) := by decide +kernel
theorem dX13_appendText_94 : decode cX13_appendText 94 = .ok (.iconst 4, 1) := by decide +kernel
theorem dX13_appendText_95 : decode cX13_appendText 95 = .ok (.irem, 1) := by decide +kernel
theorem dX13_appendText_96 : decode cX13_appendText 96 = .ok (.imul, 1) := by decide +kernel
theorem dX13_appendText_97 : decode cX13_appendText 97 = .ok (.isub, 1) := by decide +kernel
theorem dX13_appendText_98 : decode cX13_appendText 98 = .ok (.ishr, 1) := by decide +kernel
theorem dX13_appendText_99 : decode cX13_appendText 99 = .ok (.sipush 255, 3) := by decide +kernel
theorem dX13_appendText_102 : decode cX13_appendText 102 = .ok (.iand, 1) := by decide +kernel
theorem dX13_appendText_103 : decode cX13_appendText 103 = .ok (.iastore, 1) := by decide +kernel
theorem dX13_appendText_104 : decode cX13_appendText 104 = .ok (.aload_n 0, 1) := by decide +kernel
theorem dX13_appendText_105 : decode cX13_appendText 105 = .ok (.dup, 1) := by decide +kernel
theorem dX13_appendText_106 : decode cX13_appendText 106 = .ok (.getfield 299, 3) := by decide +kernel
theorem dX13_appendText_109 : decode cX13_appendText 109 = .ok (.iconst 1, 1) := by decide +kernel
theorem dX13_appendText_110 : decode cX13_appendText 110 = .ok (.iadd, 1) := by decide +kernel
theorem dX13_appendText_111 : decode cX13_appendText 111 = .ok (.putfield 299, 3) := by decide +kernel
theorem dX13_appendText_114 : decode cX13_appendText 114 = .ok (.iinc 6 1, 3) := by decide +kernel
theorem dX13_appendText_117 : decode cX13_appendText 117 = .ok (.goto (-94), 3) := by decide +kernel
theorem dX13_appendText_120 : decode cX13_appendText 120 = .ok (.aload_n 0, 1) := by decide +kernel
theorem dX13_appendText_121 : decode cX13_appendText 121 = .ok (.getfield 299, 3) := by decide +kernel
theorem dX13_appendText_124 : decode cX13_appendText 124 = .ok (.ireturn, 1) := by decide +kernel
theorem dX13_errorOffset_0 : decode cX13_errorOffset 0 = .ok (.aload_n 0, 1) := by decide +kernel
theorem dX13_errorOffset_1 : decode cX13_errorOffset 1 = .ok (.iconst 0, 1) := by decide +kernel
theorem dX13_errorOffset_2 : decode cX13_errorOffset 2 = .ok (.putfield 79, 3) := by decide +kernel
theorem dX13_errorOffset_5 : decode cX13_errorOffset 5 = .ok (.aload_n 0, 1) := by decide +kernel
theorem dX13_errorOffset_6 : decode cX13_errorOffset 6 = .ok (.getfield 37, 3) := by decide +kernel
theorem dX13_errorOffset_9 : decode cX13_errorOffset 9 = .ok (.ireturn, 1) := by decide +kernel
theorem dX13_byteAt_0 : decode cX13_byteAt 0 = .ok (.iload_n 1, 1) := by decide +kernel
theorem dX13_byteAt_1 : decode cX13_byteAt 1 = .ok (.aload_n 0, 1) := by decide +kernel
theorem dX13_byteAt_2 : decode cX13_byteAt 2 = .ok (.getfield 302, 3) := by decide +kernel
theorem dX13_byteAt_5 : decode cX13_byteAt 5 = .ok (.if_icmp .ge 12, 3) := by decide +kernel
theorem dX13_byteAt_8 : decode cX13_byteAt 8 = .ok (.aload_n 0, 1) := by decide +kernel
theorem dX13_byteAt_9 : decode cX13_byteAt 9 = .ok (.getfield 34, 3) := by decide +kernel
theorem dX13_byteAt_12 : decode cX13_byteAt 12 = .ok (.iload_n 1, 1) := by decide +kernel
theorem dX13_byteAt_13 : decode cX13_byteAt 13 = .ok (.iaload, 1) := by decide +kernel
theorem dX13_byteAt_14 : decode cX13_byteAt 14 = .ok (.goto 4, 3) := by decide +kernel
theorem dX13_byteAt_17 : decode cX13_byteAt 17 = .ok (.iconst (-1), 1) := by decide +kernel
theorem dX13_byteAt_18 : decode cX13_byteAt 18 = .ok (.ireturn, 1) := by decide +kernel
theorem dX13_isLetter_0 : decode cX13_isLetter 0 = .ok (.aload_n 0, 1) := by decide +kernel
theorem dX13_isLetter_1 : decode cX13_isLetter 1 = .ok (.iload_n 1, 1) := by decide +kernel
theorem dX13_isLetter_2 : decode cX13_isLetter 2 = .ok (.invokevirtual 305, 3) := by decide +kernel
theorem dX13_isLetter_5 : decode cX13_isLetter 5 = .ok (.bipush 97, 2) := by decide +kernel
theorem dX13_isLetter_7 : decode cX13_isLetter 7 = .ok (.if_icmp .lt 17, 3) := by decide +kernel
theorem dX13_isLetter_10 : decode cX13_isLetter 10 = .ok (.aload_n 0, 1) := by decide +kernel
theorem dX13_isLetter_11 : decode cX13_isLetter 11 = .ok (.iload_n 1, 1) := by decide +kernel
theorem dX13_isLetter_12 : decode cX13_isLetter 12 = .ok (.invokevirtual 305, 3) := by decide +kernel
theorem dX13_isLetter_15 : decode cX13_isLetter 15 = .ok (.bipush 122, 2) := by decide +kernel
theorem dX13_isLetter_17 : decode cX13_isLetter 17 = .ok (.if_icmp .gt 7, 3) := by decide +kernel
theorem dX13_isLetter_20 : decode cX13_isLetter 20 = .ok (.iconst 1, 1) := by decide +kernel
theorem dX13_isLetter_21 : decode cX13_isLetter 21 = .ok (.goto 4, 3) := by decide +kernel
theorem dX13_isLetter_24 : decode cX13_isLetter 24 = .ok (.iconst 0, 1) := by decide +kernel
theorem dX13_isLetter_25 : decode cX13_isLetter 25 = .ok (.ireturn, 1) := by decide +kernel
theorem dX13_isDigit_0 : decode cX13_isDigit 0 = .ok (.aload_n 0, 1) := by decide +kernel
theorem dX13_isDigit_1 : decode cX13_isDigit 1 = .ok (.iload_n 1, 1) := by decide +kernel
theorem dX13_isDigit_2 : decode cX13_isDigit 2 = .ok (.invokevirtual 305, 3) := by decide +kernel
theorem dX13_isDigit_5 : decode cX13_isDigit 5 = .ok (.bipush 48, 2) := by decide +kernel
theorem dX13_isDigit_7 : decode cX13_isDigit 7 = .ok (.if_icmp .lt 17, 3) := by decide +kernel
theorem dX13_isDigit_10 : decode cX13_isDigit 10 = .ok (.aload_n 0, 1) := by decide +kernel
theorem dX13_isDigit_11 : decode cX13_isDigit 11 = .ok (.iload_n 1, 1) := by decide +kernel
theorem dX13_isDigit_12 : decode cX13_isDigit 12 = .ok (.invokevirtual 305, 3) := by decide +kernel
theorem dX13_isDigit_15 : decode cX13_isDigit 15 = .ok (.bipush 57, 2) := by decide +kernel
theorem dX13_isDigit_17 : decode cX13_isDigit 17 = .ok (.if_icmp .gt 7, 3) := by decide +kernel
theorem dX13_isDigit_20 : decode cX13_isDigit 20 = .ok (.iconst 1, 1) := by decide +kernel
theorem dX13_isDigit_21 : decode cX13_isDigit 21 = .ok (.goto 4, 3) := by decide +kernel
theorem dX13_isDigit_24 : decode cX13_isDigit 24 = .ok (.iconst 0, 1) := by decide +kernel
theorem dX13_isDigit_25 : decode cX13_isDigit 25 = .ok (.ireturn, 1) := by decide +kernel
theorem dX13_scan_0 : decode cX13_scan 0 = .ok (.aload_n 0, 1) := by decide +kernel
theorem dX13_scan_1 : decode cX13_scan 1 = .ok (.aload_n 0, 1) := by decide +kernel
theorem dX13_scan_2 : decode cX13_scan 2 = .ok (.getfield 308, 3) := by decide +kernel
theorem dX13_scan_5 : decode cX13_scan 5 = .ok (.invokevirtual 305, 3) := by decide +kernel
theorem dX13_scan_8 : decode cX13_scan 8 = .ok (.bipush 32, 2) := by decide +kernel
theorem dX13_scan_10 : decode cX13_scan 10 = .ok (.if_icmp .eq 16, 3) := by decide +kernel
theorem dX13_scan_13 : decode cX13_scan 13 = .ok (.aload_n 0, 1) := by decide +kernel
theorem dX13_scan_14 : decode cX13_scan 14 = .ok (.aload_n 0, 1) := by decide +kernel
theorem dX13_scan_15 : decode cX13_scan 15 = .ok (.getfield 308, 3) := by decide +kernel
theorem dX13_scan_18 : decode cX13_scan 18 = .ok (.invokevirtual 305, 3) := by decide +kernel
theorem dX13_scan_21 : decode cX13_scan 21 = .ok (.bipush 10, 2) := by decide +kernel
theorem dX13_scan_23 : decode cX13_scan 23 = .ok (.if_icmp .ne 16, 3) := by decide +kernel
theorem dX13_scan_26 : decode cX13_scan 26 = .ok (.aload_n 0, 1) := by decide +kernel
theorem dX13_scan_27 : decode cX13_scan 27 = .ok (.dup, 1) := by decide +kernel
theorem dX13_scan_28 : decode cX13_scan 28 = .ok (.getfield 308, 3) := by decide +kernel
theorem dX13_scan_31 : decode cX13_scan 31 = .ok (.iconst 1, 1) := by decide +kernel
theorem dX13_scan_32 : decode cX13_scan 32 = .ok (.iadd, 1) := by decide +kernel
theorem dX13_scan_33 : decode cX13_scan 33 = .ok (.putfield 308, 3) := by decide +kernel
theorem dX13_scan_36 : decode cX13_scan 36 = .ok (.goto (-36), 3) := by decide +kernel
theorem dX13_scan_39 : decode cX13_scan 39 = .ok (.aload_n 0, 1) := by decide +kernel
theorem dX13_scan_40 : decode cX13_scan 40 = .ok (.aload_n 0, 1) := by decide +kernel
theorem dX13_scan_41 : decode cX13_scan 41 = .ok (.getfield 308, 3) := by decide +kernel
theorem dX13_scan_44 : decode cX13_scan 44 = .ok (.putfield 311, 3) := by decide +kernel
theorem dX13_scan_47 : decode cX13_scan 47 = .ok (.aload_n 0, 1) := by decide +kernel
theorem dX13_scan_48 : decode cX13_scan 48 = .ok (.getfield 308, 3) := by decide +kernel
theorem dX13_scan_51 : decode cX13_scan 51 = .ok (.aload_n 0, 1) := by decide +kernel
theorem dX13_scan_52 : decode cX13_scan 52 = .ok (.getfield 302, 3) := by decide +kernel
theorem dX13_scan_55 : decode cX13_scan 55 = .ok (.if_icmp .lt 11, 3) := by decide +kernel
theorem dX13_scan_58 : decode cX13_scan 58 = .ok (.aload_n 0, 1) := by decide +kernel
theorem dX13_scan_59 : decode cX13_scan 59 = .ok (.iconst 0, 1) := by decide +kernel
theorem dX13_scan_60 : decode cX13_scan 60 = .ok (.putfield 314, 3) := by decide +kernel
theorem dX13_scan_63 : decode cX13_scan 63 = .ok (.goto 104, 3) := by decide +kernel
theorem dX13_scan_66 : decode cX13_scan 66 = .ok (.aload_n 0, 1) := by decide +kernel
theorem dX13_scan_67 : decode cX13_scan 67 = .ok (.aload_n 0, 1) := by decide +kernel
theorem dX13_scan_68 : decode cX13_scan 68 = .ok (.getfield 308, 3) := by decide +kernel
theorem dX13_scan_71 : decode cX13_scan 71 = .ok (.invokevirtual 317, 3) := by decide +kernel
theorem dX13_scan_74 : decode cX13_scan 74 = .ok (.ifCond .eq 35, 3) := by decide +kernel
theorem dX13_scan_77 : decode cX13_scan 77 = .ok (.aload_n 0, 1) := by decide +kernel
theorem dX13_scan_78 : decode cX13_scan 78 = .ok (.aload_n 0, 1) := by decide +kernel
theorem dX13_scan_79 : decode cX13_scan 79 = .ok (.getfield 308, 3) := by decide +kernel
theorem dX13_scan_82 : decode cX13_scan 82 = .ok (.invokevirtual 317, 3) := by decide +kernel
theorem dX13_scan_85 : decode cX13_scan 85 = .ok (.ifCond .eq 16, 3) := by decide +kernel
theorem dX13_scan_88 : decode cX13_scan 88 = .ok (.aload_n 0, 1) := by decide +kernel
theorem dX13_scan_89 : decode cX13_scan 89 = .ok (.dup, 1) := by decide +kernel
theorem dX13_scan_90 : decode cX13_scan 90 = .ok (.getfield 308, 3) := by decide +kernel
theorem dX13_scan_93 : decode cX13_scan 93 = .ok (.iconst 1, 1) := by decide +kernel
theorem dX13_scan_94 : decode cX13_scan 94 = .ok (.iadd, 1) := by decide +kernel
theorem dX13_scan_95 : decode cX13_scan 95 = .ok (.putfield 308, 3) := by decide +kernel
theorem dX13_scan_98 : decode cX13_scan 98 = .ok (.goto (-21), 3) := by decide +kernel
theorem dX13_scan_101 : decode cX13_scan 101 = .ok (.aload_n 0, 1) := by decide +kernel
theorem dX13_scan_102 : decode cX13_scan 102 = .ok (.iconst 1, 1) := by decide +kernel
theorem dX13_scan_103 : decode cX13_scan 103 = .ok (.putfield 314, 3) := by decide +kernel
theorem dX13_scan_106 : decode cX13_scan 106 = .ok (.goto 61, 3) := by decide +kernel
theorem dX13_scan_109 : decode cX13_scan 109 = .ok (.aload_n 0, 1) := by decide +kernel
theorem dX13_scan_110 : decode cX13_scan 110 = .ok (.aload_n 0, 1) := by decide +kernel
theorem dX13_scan_111 : decode cX13_scan 111 = .ok (.getfield 308, 3) := by decide +kernel
theorem dX13_scan_114 : decode cX13_scan 114 = .ok (.invokevirtual 320, 3) := by decide +kernel
theorem dX13_scan_117 : decode cX13_scan 117 = .ok (.ifCond .eq 35, 3) := by decide +kernel
theorem dX13_scan_120 : decode cX13_scan 120 = .ok (.aload_n 0, 1) := by decide +kernel
theorem dX13_scan_121 : decode cX13_scan 121 = .ok (.aload_n 0, 1) := by decide +kernel
theorem dX13_scan_122 : decode cX13_scan 122 = .ok (.getfield 308, 3) := by decide +kernel
theorem dX13_scan_125 : decode cX13_scan 125 = .ok (.invokevirtual 320, 3) := by decide +kernel
theorem dX13_scan_128 : decode cX13_scan 128 = .ok (.ifCond .eq 16, 3) := by decide +kernel
theorem dX13_scan_131 : decode cX13_scan 131 = .ok (.aload_n 0, 1) := by decide +kernel
theorem dX13_scan_132 : decode cX13_scan 132 = .ok (.dup, 1) := by decide +kernel
theorem dX13_scan_133 : decode cX13_scan 133 = .ok (.getfield 308, 3) := by decide +kernel
theorem dX13_scan_136 : decode cX13_scan 136 = .ok (.iconst 1, 1) := by decide +kernel
theorem dX13_scan_137 : decode cX13_scan 137 = .ok (.iadd, 1) := by decide +kernel
theorem dX13_scan_138 : decode cX13_scan 138 = .ok (.putfield 308, 3) := by decide +kernel
theorem dX13_scan_141 : decode cX13_scan 141 = .ok (.goto (-21), 3) := by decide +kernel
theorem dX13_scan_144 : decode cX13_scan 144 = .ok (.aload_n 0, 1) := by decide +kernel
theorem dX13_scan_145 : decode cX13_scan 145 = .ok (.iconst 2, 1) := by decide +kernel
theorem dX13_scan_146 : decode cX13_scan 146 = .ok (.putfield 314, 3) := by decide +kernel
theorem dX13_scan_149 : decode cX13_scan 149 = .ok (.goto 18, 3) := by decide +kernel
theorem dX13_scan_152 : decode cX13_scan 152 = .ok (.aload_n 0, 1) := by decide +kernel
theorem dX13_scan_153 : decode cX13_scan 153 = .ok (.dup, 1) := by decide +kernel
theorem dX13_scan_154 : decode cX13_scan 154 = .ok (.getfield 308, 3) := by decide +kernel
theorem dX13_scan_157 : decode cX13_scan 157 = .ok (.iconst 1, 1) := by decide +kernel
theorem dX13_scan_158 : decode cX13_scan 158 = .ok (.iadd, 1) := by decide +kernel
theorem dX13_scan_159 : decode cX13_scan 159 = .ok (.putfield 308, 3) := by decide +kernel
theorem dX13_scan_162 : decode cX13_scan 162 = .ok (.aload_n 0, 1) := by decide +kernel
theorem dX13_scan_163 : decode cX13_scan 163 = .ok (.iconst 3, 1) := by decide +kernel
theorem dX13_scan_164 : decode cX13_scan 164 = .ok (.putfield 314, 3) := by decide +kernel
theorem dX13_scan_167 : decode cX13_scan 167 = .ok (.return_, 1) := by decide +kernel
theorem dX13_startText_0 : decode cX13_startText 0 = .ok (.aload_n 0, 1) := by decide +kernel
theorem dX13_startText_1 : decode cX13_startText 1 = .ok (.iload_n 1, 1) := by decide +kernel
theorem dX13_startText_2 : decode cX13_startText 2 = .ok (.putfield 302, 3) := by decide +kernel
theorem dX13_startText_5 : decode cX13_startText 5 = .ok (.aload_n 0, 1) := by decide +kernel
theorem dX13_startText_6 : decode cX13_startText 6 = .ok (.iconst 0, 1) := by decide +kernel
theorem dX13_startText_7 : decode cX13_startText 7 = .ok (.putfield 308, 3) := by decide +kernel
theorem dX13_startText_10 : decode cX13_startText 10 = .ok (.aload_n 0, 1) := by decide +kernel
theorem dX13_startText_11 : decode cX13_startText 11 = .ok (.iconst 0, 1) := by decide +kernel
theorem dX13_startText_12 : decode cX13_startText 12 = .ok (.putfield 323, 3) := by decide +kernel
theorem dX13_startText_15 : decode cX13_startText 15 = .ok (.aload_n 0, 1) := by decide +kernel
theorem dX13_startText_16 : decode cX13_startText 16 = .ok (.iconst 0, 1) := by decide +kernel
theorem dX13_startText_17 : decode cX13_startText 17 = .ok (.putfield 326, 3) := by decide +kernel
theorem dX13_startText_20 : decode cX13_startText 20 = .ok (.aload_n 0, 1) := by decide +kernel
theorem dX13_startText_21 : decode cX13_startText 21 = .ok (.invokevirtual 329, 3) := by decide +kernel
theorem dX13_startText_24 : decode cX13_startText 24 = .ok (.return_, 1) := by decide +kernel
theorem dX13_finish_0 : decode cX13_finish 0 = .ok (.aload_n 0, 1) := by decide +kernel
theorem dX13_finish_1 : decode cX13_finish 1 = .ok (.iconst 0, 1) := by decide +kernel
theorem dX13_finish_2 : decode cX13_finish 2 = .ok (.putfield 299, 3) := by decide +kernel
theorem dX13_finish_5 : decode cX13_finish 5 = .ok (.aload_n 0, 1) := by decide +kernel
theorem dX13_finish_6 : decode cX13_finish 6 = .ok (.aload_n 0, 1) := by decide +kernel
theorem dX13_finish_7 : decode cX13_finish 7 = .ok (.getfield 323, 3) := by decide +kernel
theorem dX13_finish_10 : decode cX13_finish 10 = .ok (.ifCond .ne 7, 3) := by decide +kernel
theorem dX13_finish_13 : decode cX13_finish 13 = .ok (.iconst (-1), 1) := by decide +kernel
theorem dX13_finish_14 : decode cX13_finish 14 = .ok (.goto 7, 3) := by decide +kernel
theorem dX13_finish_17 : decode cX13_finish 17 = .ok (.aload_n 0, 1) := by decide +kernel
theorem dX13_finish_18 : decode cX13_finish 18 = .ok (.getfield 332, 3) := by decide +kernel
theorem dX13_finish_21 : decode cX13_finish 21 = .ok (.putfield 37, 3) := by decide +kernel
theorem dX13_finish_24 : decode cX13_finish 24 = .ok (.aload_n 0, 1) := by decide +kernel
theorem dX13_finish_25 : decode cX13_finish 25 = .ok (.getfield 323, 3) := by decide +kernel
theorem dX13_finish_28 : decode cX13_finish 28 = .ok (.ireturn, 1) := by decide +kernel
theorem dX13_check_0 : decode cX13_check 0 = .ok (.iload_n 1, 1) := by decide +kernel
theorem dX13_check_1 : decode cX13_check 1 = .ok (.ifCond .ne 23, 3) := by decide +kernel
theorem dX13_check_4 : decode cX13_check 4 = .ok (.aload_n 0, 1) := by decide +kernel
theorem dX13_check_5 : decode cX13_check 5 = .ok (.getfield 323, 3) := by decide +kernel
theorem dX13_check_8 : decode cX13_check 8 = .ok (.ifCond .ne 16, 3) := by decide +kernel
theorem dX13_check_11 : decode cX13_check 11 = .ok (.aload_n 0, 1) := by decide +kernel
theorem dX13_check_12 : decode cX13_check 12 = .ok (.iload_n 2, 1) := by decide +kernel
theorem dX13_check_13 : decode cX13_check 13 = .ok (.putfield 323, 3) := by decide +kernel
theorem dX13_check_16 : decode cX13_check 16 = .ok (.aload_n 0, 1) := by decide +kernel
theorem dX13_check_17 : decode cX13_check 17 = .ok (.aload_n 0, 1) := by decide +kernel
theorem dX13_check_18 : decode cX13_check 18 = .ok (.getfield 311, 3) := by decide +kernel
theorem dX13_check_21 : decode cX13_check 21 = .ok (.putfield 332, 3) := by decide +kernel
theorem dX13_check_24 : decode cX13_check 24 = .ok (.return_, 1) := by decide +kernel
theorem dX13_advance_0 : decode cX13_advance 0 = .ok (.aload_n 0, 1) := by decide +kernel
theorem dX13_advance_1 : decode cX13_advance 1 = .ok (.getfield 323, 3) := by decide +kernel
theorem dX13_advance_4 : decode cX13_advance 4 = .ok (.ifCond .ne 7, 3) := by decide +kernel
theorem dX13_advance_7 : decode cX13_advance 7 = .ok (.aload_n 0, 1) := by decide +kernel
theorem dX13_advance_8 : decode cX13_advance 8 = .ok (.invokevirtual 329, 3) := by decide +kernel
theorem dX13_advance_11 : decode cX13_advance 11 = .ok (.return_, 1) := by decide +kernel
theorem dX13_isSymbol_0 : decode cX13_isSymbol 0 = .ok (.aload_n 0, 1) := by decide +kernel
theorem dX13_isSymbol_1 : decode cX13_isSymbol 1 = .ok (.getfield 323, 3) := by decide +kernel
theorem dX13_isSymbol_4 : decode cX13_isSymbol 4 = .ok (.ifCond .ne 28, 3) := by decide +kernel
theorem dX13_isSymbol_7 : decode cX13_isSymbol 7 = .ok (.aload_n 0, 1) := by decide +kernel
theorem dX13_isSymbol_8 : decode cX13_isSymbol 8 = .ok (.getfield 314, 3) := by decide +kernel
theorem dX13_isSymbol_11 : decode cX13_isSymbol 11 = .ok (.iconst 3, 1) := by decide +kernel
theorem dX13_isSymbol_12 : decode cX13_isSymbol 12 = .ok (.if_icmp .ne 20, 3) := by decide +kernel
theorem dX13_isSymbol_15 : decode cX13_isSymbol 15 = .ok (.aload_n 0, 1) := by decide +kernel
theorem dX13_isSymbol_16 : decode cX13_isSymbol 16 = .ok (.getfield 34, 3) := by decide +kernel
theorem dX13_isSymbol_19 : decode cX13_isSymbol 19 = .ok (.aload_n 0, 1) := by decide +kernel
theorem dX13_isSymbol_20 : decode cX13_isSymbol 20 = .ok (.getfield 311, 3) := by decide +kernel
theorem dX13_isSymbol_23 : decode cX13_isSymbol 23 = .ok (.iaload, 1) := by decide +kernel
theorem dX13_isSymbol_24 : decode cX13_isSymbol 24 = .ok (.iload_n 1, 1) := by decide +kernel
theorem dX13_isSymbol_25 : decode cX13_isSymbol 25 = .ok (.if_icmp .ne 7, 3) := by decide +kernel
theorem dX13_isSymbol_28 : decode cX13_isSymbol 28 = .ok (.iconst 1, 1) := by decide +kernel
theorem dX13_isSymbol_29 : decode cX13_isSymbol 29 = .ok (.goto 4, 3) := by decide +kernel
theorem dX13_isSymbol_32 : decode cX13_isSymbol 32 = .ok (.iconst 0, 1) := by decide +kernel
theorem dX13_isSymbol_33 : decode cX13_isSymbol 33 = .ok (.ireturn, 1) := by decide +kernel
theorem dX13_isWord_0 : decode cX13_isWord 0 = .ok (.aload_n 0, 1) := by decide +kernel
theorem dX13_isWord_1 : decode cX13_isWord 1 = .ok (.getfield 323, 3) := by decide +kernel
theorem dX13_isWord_4 : decode cX13_isWord 4 = .ok (.ifCond .ne 31, 3) := by decide +kernel
theorem dX13_isWord_7 : decode cX13_isWord 7 = .ok (.aload_n 0, 1) := by decide +kernel
theorem dX13_isWord_8 : decode cX13_isWord 8 = .ok (.getfield 314, 3) := by decide +kernel
theorem dX13_isWord_11 : decode cX13_isWord 11 = .ok (.iconst 1, 1) := by decide +kernel
theorem dX13_isWord_12 : decode cX13_isWord 12 = .ok (.if_icmp .ne 23, 3) := by decide +kernel
theorem dX13_isWord_15 : decode cX13_isWord 15 = .ok (.aload_n 1, 1) := by decide +kernel
theorem dX13_isWord_16 : decode cX13_isWord 16 = .ok (.invokevirtual 335, 3) := by decide +kernel
theorem dX13_isWord_19 : decode cX13_isWord 19 = .ok (.aload_n 0, 1) := by decide +kernel
theorem dX13_isWord_20 : decode cX13_isWord 20 = .ok (.getfield 308, 3) := by decide +kernel
theorem dX13_isWord_23 : decode cX13_isWord 23 = .ok (.aload_n 0, 1) := by decide +kernel
theorem dX13_isWord_24 : decode cX13_isWord 24 = .ok (.getfield 311, 3) := by decide +kernel
theorem dX13_isWord_27 : decode cX13_isWord 27 = .ok (.isub, 1) := by decide +kernel
theorem dX13_isWord_28 : decode cX13_isWord 28 = .ok (.if_icmp .ne 7, 3) := by decide +kernel
theorem dX13_isWord_31 : decode cX13_isWord 31 = .ok (.iconst 1, 1) := by decide +kernel
theorem dX13_isWord_32 : decode cX13_isWord 32 = .ok (.goto 4, 3) := by decide +kernel
theorem dX13_isWord_35 : decode cX13_isWord 35 = .ok (.iconst 0, 1) := by decide +kernel
theorem dX13_isWord_36 : decode cX13_isWord 36 = .ok (.istore_n 2, 1) := by decide +kernel
theorem dX13_isWord_37 : decode cX13_isWord 37 = .ok (.iconst 0, 1) := by decide +kernel
theorem dX13_isWord_38 : decode cX13_isWord 38 = .ok (.istore_n 3, 1) := by decide +kernel
theorem dX13_isWord_39 : decode cX13_isWord 39 = .ok (.iload_n 2, 1) := by decide +kernel
theorem dX13_isWord_40 : decode cX13_isWord 40 = .ok (.ifCond .eq 42, 3) := by decide +kernel
theorem dX13_isWord_43 : decode cX13_isWord 43 = .ok (.iload_n 3, 1) := by decide +kernel
theorem dX13_isWord_44 : decode cX13_isWord 44 = .ok (.aload_n 1, 1) := by decide +kernel
theorem dX13_isWord_45 : decode cX13_isWord 45 = .ok (.invokevirtual 335, 3) := by decide +kernel
theorem dX13_isWord_48 : decode cX13_isWord 48 = .ok (.if_icmp .ge 34, 3) := by decide +kernel
theorem dX13_isWord_51 : decode cX13_isWord 51 = .ok (.aload_n 1, 1) := by decide +kernel
theorem dX13_isWord_52 : decode cX13_isWord 52 = .ok (.iload_n 3, 1) := by decide +kernel
theorem dX13_isWord_53 : decode cX13_isWord 53 = .ok (.invokevirtual 338, 3) := by decide +kernel
theorem dX13_isWord_56 : decode cX13_isWord 56 = .ok (.aload_n 0, 1) := by decide +kernel
theorem dX13_isWord_57 : decode cX13_isWord 57 = .ok (.getfield 34, 3) := by decide +kernel
theorem dX13_isWord_60 : decode cX13_isWord 60 = .ok (.aload_n 0, 1) := by decide +kernel
theorem dX13_isWord_61 : decode cX13_isWord 61 = .ok (.getfield 311, 3) := by decide +kernel
theorem dX13_isWord_64 : decode cX13_isWord 64 = .ok (.iload_n 3, 1) := by decide +kernel
theorem dX13_isWord_65 : decode cX13_isWord 65 = .ok (.iadd, 1) := by decide +kernel
theorem dX13_isWord_66 : decode cX13_isWord 66 = .ok (.iaload, 1) := by decide +kernel
theorem dX13_isWord_67 : decode cX13_isWord 67 = .ok (.if_icmp .ne 7, 3) := by decide +kernel
theorem dX13_isWord_70 : decode cX13_isWord 70 = .ok (.iconst 1, 1) := by decide +kernel
theorem dX13_isWord_71 : decode cX13_isWord 71 = .ok (.goto 4, 3) := by decide +kernel
theorem dX13_isWord_74 : decode cX13_isWord 74 = .ok (.iconst 0, 1) := by decide +kernel
theorem dX13_isWord_75 : decode cX13_isWord 75 = .ok (.istore_n 2, 1) := by decide +kernel
theorem dX13_isWord_76 : decode cX13_isWord 76 = .ok (.iinc 3 1, 3) := by decide +kernel
theorem dX13_isWord_79 : decode cX13_isWord 79 = .ok (.goto (-40), 3) := by decide +kernel
theorem dX13_isWord_82 : decode cX13_isWord 82 = .ok (.iload_n 2, 1) := by decide +kernel
theorem dX13_isWord_83 : decode cX13_isWord 83 = .ok (.ireturn, 1) := by decide +kernel
theorem dX13_expect_0 : decode cX13_expect 0 = .ok (.aload_n 0, 1) := by decide +kernel
theorem dX13_expect_1 : decode cX13_expect 1 = .ok (.aload_n 0, 1) := by decide +kernel
theorem dX13_expect_2 : decode cX13_expect 2 = .ok (.iload_n 1, 1) := by decide +kernel
theorem dX13_expect_3 : decode cX13_expect 3 = .ok (.invokevirtual 346, 3) := by decide +kernel
theorem dX13_expect_6 : decode cX13_expect 6 = .ok (.iconst 1, 1) := by decide +kernel
theorem dX13_expect_7 : decode cX13_expect 7 = .ok (.invokevirtual 349, 3) := by decide +kernel
theorem dX13_expect_10 : decode cX13_expect 10 = .ok (.aload_n 0, 1) := by decide +kernel
theorem dX13_expect_11 : decode cX13_expect 11 = .ok (.invokevirtual 353, 3) := by decide +kernel
theorem dX13_expect_14 : decode cX13_expect 14 = .ok (.return_, 1) := by decide +kernel
theorem dX13_value_0 : decode cX13_value 0 = .ok (.iconst 0, 1) := by decide +kernel
theorem dX13_value_1 : decode cX13_value 1 = .ok (.istore_n 1, 1) := by decide +kernel
theorem dX13_value_2 : decode cX13_value 2 = .ok (.aload_n 0, 1) := by decide +kernel
theorem dX13_value_3 : decode cX13_value 3 = .ok (.getfield 311, 3) := by decide +kernel
theorem dX13_value_6 : decode cX13_value 6 = .ok (.istore_n 2, 1) := by decide +kernel
theorem dX13_value_7 : decode cX13_value 7 = .ok (.iload_n 2, 1) := by decide +kernel
theorem dX13_value_8 : decode cX13_value 8 = .ok (.aload_n 0, 1) := by decide +kernel
theorem dX13_value_9 : decode cX13_value 9 = .ok (.getfield 308, 3) := by decide +kernel
theorem dX13_value_12 : decode cX13_value 12 = .ok (.if_icmp .ge 43, 3) := by decide +kernel
theorem dX13_value_15 : decode cX13_value 15 = .ok (.aload_n 0, 1) := by decide +kernel
theorem dX13_value_16 : decode cX13_value 16 = .ok (.getfield 314, 3) := by decide +kernel
theorem dX13_value_19 : decode cX13_value 19 = .ok (.iconst 2, 1) := by decide +kernel
theorem dX13_value_20 : decode cX13_value 20 = .ok (.if_icmp .ne 35, 3) := by decide +kernel
theorem dX13_value_23 : decode cX13_value 23 = .ok (.iload_n 1, 1) := by decide +kernel
theorem dX13_value_24 : decode cX13_value 24 = .ok (.ldc_w 356, 3) := by decide +kernel
theorem dX13_value_27 : decode cX13_value 27 = .ok (.if_icmp .le 7, 3) := by decide +kernel
theorem dX13_value_30 : decode cX13_value 30 = .ok (.iload_n 1, 1) := by decide +kernel
theorem dX13_value_31 : decode cX13_value 31 = .ok (.goto 17, 3) := by decide +kernel
theorem dX13_value_34 : decode cX13_value 34 = .ok (.bipush 10, 2) := by decide +kernel
theorem dX13_value_36 : decode cX13_value 36 = .ok (.iload_n 1, 1) := by decide +kernel
theorem dX13_value_37 : decode cX13_value 37 = .ok (.imul, 1) := by decide +kernel
theorem dX13_value_38 : decode cX13_value 38 = .ok (.aload_n 0, 1) := by decide +kernel
theorem dX13_value_39 : decode cX13_value 39 = .ok (.getfield 34, 3) := by decide +kernel
theorem dX13_value_42 : decode cX13_value 42 = .ok (.iload_n 2, 1) := by decide +kernel
theorem dX13_value_43 : decode cX13_value 43 = .ok (.iaload, 1) := by decide +kernel
theorem dX13_value_44 : decode cX13_value 44 = .ok (.iadd, 1) := by decide +kernel
theorem dX13_value_45 : decode cX13_value 45 = .ok (.bipush 48, 2) := by decide +kernel
theorem dX13_value_47 : decode cX13_value 47 = .ok (.isub, 1) := by decide +kernel
theorem dX13_value_48 : decode cX13_value 48 = .ok (.istore_n 1, 1) := by decide +kernel
theorem dX13_value_49 : decode cX13_value 49 = .ok (.iinc 2 1, 3) := by decide +kernel
theorem dX13_value_52 : decode cX13_value 52 = .ok (.goto (-45), 3) := by decide +kernel
theorem dX13_value_55 : decode cX13_value 55 = .ok (.iload_n 1, 1) := by decide +kernel
theorem dX13_value_56 : decode cX13_value 56 = .ok (.ireturn, 1) := by decide +kernel
theorem dX13_look_0 : decode cX13_look 0 = .ok (.aload_n 0, 1) := by decide +kernel
theorem dX13_look_1 : decode cX13_look 1 = .ok (.aload_n 0, 1) := by decide +kernel
theorem dX13_look_2 : decode cX13_look 2 = .ok (.getfield 314, 3) := by decide +kernel
theorem dX13_look_5 : decode cX13_look 5 = .ok (.iconst 2, 1) := by decide +kernel
theorem dX13_look_6 : decode cX13_look 6 = .ok (.if_icmp .ne 7, 3) := by decide +kernel
theorem dX13_look_9 : decode cX13_look 9 = .ok (.iconst 1, 1) := by decide +kernel
theorem dX13_look_10 : decode cX13_look 10 = .ok (.goto 4, 3) := by decide +kernel
theorem dX13_look_13 : decode cX13_look 13 = .ok (.iconst 0, 1) := by decide +kernel
theorem dX13_look_14 : decode cX13_look 14 = .ok (.iconst 1, 1) := by decide +kernel
theorem dX13_look_15 : decode cX13_look 15 = .ok (.invokevirtual 349, 3) := by decide +kernel
theorem dX13_look_18 : decode cX13_look 18 = .ok (.aload_n 0, 1) := by decide +kernel
theorem dX13_look_19 : decode cX13_look 19 = .ok (.invokevirtual 357, 3) := by decide +kernel
theorem dX13_look_22 : decode cX13_look 22 = .ok (.istore_n 3, 1) := by decide +kernel
theorem dX13_look_23 : decode cX13_look 23 = .ok (.aload_n 0, 1) := by decide +kernel
theorem dX13_look_24 : decode cX13_look 24 = .ok (.iload_n 3, 1) := by decide +kernel
theorem dX13_look_25 : decode cX13_look 25 = .ok (.iload_n 1, 1) := by decide +kernel
theorem dX13_look_26 : decode cX13_look 26 = .ok (.iload_n 2, 1) := by decide +kernel
theorem dX13_look_27 : decode cX13_look 27 = .ok (.invokestatic 97, 3) := by decide +kernel
theorem dX13_look_30 : decode cX13_look 30 = .ok (.iconst 2, 1) := by decide +kernel
theorem dX13_look_31 : decode cX13_look 31 = .ok (.invokevirtual 349, 3) := by decide +kernel
theorem dX13_look_34 : decode cX13_look 34 = .ok (.aload_n 0, 1) := by decide +kernel
theorem dX13_look_35 : decode cX13_look 35 = .ok (.getfield 323, 3) := by decide +kernel
theorem dX13_look_38 : decode cX13_look 38 = .ok (.ifCond .ne 7, 3) := by decide +kernel
theorem dX13_look_41 : decode cX13_look 41 = .ok (.iload_n 3, 1) := by decide +kernel
theorem dX13_look_42 : decode cX13_look 42 = .ok (.goto 4, 3) := by decide +kernel
theorem dX13_look_45 : decode cX13_look 45 = .ok (.iload_n 1, 1) := by decide +kernel
theorem dX13_look_46 : decode cX13_look 46 = .ok (.ireturn, 1) := by decide +kernel
theorem dX13_readNumber_0 : decode cX13_readNumber 0 = .ok (.aload_n 0, 1) := by decide +kernel
theorem dX13_readNumber_1 : decode cX13_readNumber 1 = .ok (.iload_n 1, 1) := by decide +kernel
theorem dX13_readNumber_2 : decode cX13_readNumber 2 = .ok (.iload_n 2, 1) := by decide +kernel
theorem dX13_readNumber_3 : decode cX13_readNumber 3 = .ok (.invokevirtual 360, 3) := by decide +kernel
theorem dX13_readNumber_6 : decode cX13_readNumber 6 = .ok (.istore_n 3, 1) := by decide +kernel
theorem dX13_readNumber_7 : decode cX13_readNumber 7 = .ok (.aload_n 0, 1) := by decide +kernel
theorem dX13_readNumber_8 : decode cX13_readNumber 8 = .ok (.invokevirtual 353, 3) := by decide +kernel
theorem dX13_readNumber_11 : decode cX13_readNumber 11 = .ok (.iload_n 3, 1) := by decide +kernel
theorem dX13_readNumber_12 : decode cX13_readNumber 12 = .ok (.ireturn, 1) := by decide +kernel
theorem dX13_errorCode_0 : decode cX13_errorCode 0 = .ok (.aload_n 0, 1) := by decide +kernel
theorem dX13_errorCode_1 : decode cX13_errorCode 1 = .ok (.iconst 0, 1) := by decide +kernel
theorem dX13_errorCode_2 : decode cX13_errorCode 2 = .ok (.putfield 79, 3) := by decide +kernel
theorem dX13_errorCode_5 : decode cX13_errorCode 5 = .ok (.aload_n 0, 1) := by decide +kernel
theorem dX13_errorCode_6 : decode cX13_errorCode 6 = .ok (.getfield 363, 3) := by decide +kernel
theorem dX13_errorCode_9 : decode cX13_errorCode 9 = .ok (.ireturn, 1) := by decide +kernel
theorem dX13_isFaulty_0 : decode cX13_isFaulty 0 = .ok (.aload_n 0, 1) := by decide +kernel
theorem dX13_isFaulty_1 : decode cX13_isFaulty 1 = .ok (.aload_n 0, 1) := by decide +kernel
theorem dX13_isFaulty_2 : decode cX13_isFaulty 2 = .ok (.invokevirtual 366, 3) := by decide +kernel
theorem dX13_isFaulty_5 : decode cX13_isFaulty 5 = .ok (.putfield 363, 3) := by decide +kernel
theorem dX13_isFaulty_8 : decode cX13_isFaulty 8 = .ok (.aload_n 0, 1) := by decide +kernel
theorem dX13_isFaulty_9 : decode cX13_isFaulty 9 = .ok (.getfield 363, 3) := by decide +kernel
theorem dX13_isFaulty_12 : decode cX13_isFaulty 12 = .ok (.ifCond .eq 7, 3) := by decide +kernel
theorem dX13_isFaulty_15 : decode cX13_isFaulty 15 = .ok (.iconst 1, 1) := by decide +kernel
theorem dX13_isFaulty_16 : decode cX13_isFaulty 16 = .ok (.goto 4, 3) := by decide +kernel
theorem dX13_isFaulty_19 : decode cX13_isFaulty 19 = .ok (.iconst 0, 1) := by decide +kernel
theorem dX13_isFaulty_20 : decode cX13_isFaulty 20 = .ok (.ireturn, 1) := by decide +kernel
theorem dX13_isLength_0 : decode cX13_isLength 0 = .ok (.iload_n 1, 1) := by decide +kernel
theorem dX13_isLength_1 : decode cX13_isLength 1 = .ok (.iconst 0, 1) := by decide +kernel
theorem dX13_isLength_2 : decode cX13_isLength 2 = .ok (.aload_n 0, 1) := by decide +kernel
theorem dX13_isLength_3 : decode cX13_isLength 3 = .ok (.getfield 299, 3) := by decide +kernel
theorem dX13_isLength_6 : decode cX13_isLength 6 = .ok (.invokestatic 97, 3) := by decide +kernel
theorem dX13_isLength_9 : decode cX13_isLength 9 = .ok (.ireturn, 1) := by decide +kernel
theorem dX13_readSection_0 : decode cX13_readSection 0 = .ok (.aload_n 0, 1) := by decide +kernel
theorem dX13_readSection_1 : decode cX13_readSection 1 = .ok (.invokevirtual 353, 3) := by decide +kernel
theorem dX13_readSection_4 : decode cX13_readSection 4 = .ok (.aload_n 0, 1) := by decide +kernel
theorem dX13_readSection_5 : decode cX13_readSection 5 = .ok (.iconst 0, 1) := by decide +kernel
theorem dX13_readSection_6 : decode cX13_readSection 6 = .ok (.aload_n 0, 1) := by decide +kernel
theorem dX13_readSection_7 : decode cX13_readSection 7 = .ok (.getfield 28, 3) := by decide +kernel
theorem dX13_readSection_10 : decode cX13_readSection 10 = .ok (.iconst 1, 1) := by decide +kernel
theorem dX13_readSection_11 : decode cX13_readSection 11 = .ok (.iaload, 1) := by decide +kernel
theorem dX13_readSection_12 : decode cX13_readSection 12 = .ok (.iconst 2, 1) := by decide +kernel
theorem dX13_readSection_13 : decode cX13_readSection 13 = .ok (.isub, 1) := by decide +kernel
theorem dX13_readSection_14 : decode cX13_readSection 14 = .ok (.invokevirtual 360, 3) := by decide +kernel
theorem dX13_readSection_17 : decode cX13_readSection 17 = .ok (.istore_n 2, 1) := by decide +kernel
theorem dX13_readSection_18 : decode cX13_readSection 18 = .ok (.aload_n 0, 1) := by decide +kernel
theorem dX13_readSection_19 : decode cX13_readSection 19 = .ok (.aload_n 0, 1) := by decide +kernel
theorem dX13_readSection_20 : decode cX13_readSection 20 = .ok (.getfield 323, 3) := by decide +kernel
theorem dX13_readSection_23 : decode cX13_readSection 23 = .ok (.ifCond .ne 14, 3) := by decide +kernel
theorem dX13_readSection_26 : decode cX13_readSection 26 = .ok (.aload_n 0, 1) := by decide +kernel
theorem dX13_readSection_27 : decode cX13_readSection 27 = .ok (.getfield 28, 3) := by decide +kernel
theorem dX13_readSection_30 : decode cX13_readSection 30 = .ok (.iload_n 1, 1) := by decide +kernel
theorem dX13_readSection_31 : decode cX13_readSection 31 = .ok (.iload_n 2, 1) := by decide +kernel
theorem dX13_readSection_32 : decode cX13_readSection 32 = .ok (.iadd, 1) := by decide +kernel
theorem dX13_readSection_33 : decode cX13_readSection 33 = .ok (.iaload, 1) := by decide +kernel
theorem dX13_readSection_34 : decode cX13_readSection 34 = .ok (.ifCond .ne 7, 3) := by decide +kernel
theorem dX13_readSection_37 : decode cX13_readSection 37 = .ok (.iconst 1, 1) := by decide +kernel
theorem dX13_readSection_38 : decode cX13_readSection 38 = .ok (.goto 4, 3) := by decide +kernel
theorem dX13_readSection_41 : decode cX13_readSection 41 = .ok (.iconst 0, 1) := by decide +kernel
theorem dX13_readSection_42 : decode cX13_readSection 42 = .ok (.iconst 3, 1) := by decide +kernel
theorem dX13_readSection_43 : decode cX13_readSection 43 = .ok (.invokevirtual 349, 3) := by decide +kernel
theorem dX13_readSection_46 : decode cX13_readSection 46 = .ok (.aload_n 0, 1) := by decide +kernel
theorem dX13_readSection_47 : decode cX13_readSection 47 = .ok (.invokevirtual 353, 3) := by decide +kernel
theorem dX13_readSection_50 : decode cX13_readSection 50 = .ok (.aload_n 0, 1) := by decide +kernel
theorem dX13_readSection_51 : decode cX13_readSection 51 = .ok (.iconst 1, 1) := by decide +kernel
theorem dX13_readSection_52 : decode cX13_readSection 52 = .ok (.bipush 9, 2) := by decide +kernel
theorem dX13_readSection_54 : decode cX13_readSection 54 = .ok (.invokevirtual 369, 3) := by decide +kernel
theorem dX13_readSection_57 : decode cX13_readSection 57 = .ok (.istore_n 3, 1) := by decide +kernel
theorem dX13_readSection_58 : decode cX13_readSection 58 = .ok (.aload_n 0, 1) := by decide +kernel
theorem dX13_readSection_59 : decode cX13_readSection 59 = .ok (.bipush 59, 2) := by decide +kernel
theorem dX13_readSection_61 : decode cX13_readSection 61 = .ok (.invokevirtual 372, 3) := by decide +kernel
theorem dX13_readSection_64 : decode cX13_readSection 64 = .ok (.aload_n 0, 1) := by decide +kernel
theorem dX13_readSection_65 : decode cX13_readSection 65 = .ok (.getfield 323, 3) := by decide +kernel
theorem dX13_readSection_68 : decode cX13_readSection 68 = .ok (.ifCond .ne 12, 3) := by decide +kernel
theorem dX13_readSection_71 : decode cX13_readSection 71 = .ok (.aload_n 0, 1) := by decide +kernel
theorem dX13_readSection_72 : decode cX13_readSection 72 = .ok (.getfield 28, 3) := by decide +kernel
theorem dX13_readSection_75 : decode cX13_readSection 75 = .ok (.iload_n 1, 1) := by decide +kernel
theorem dX13_readSection_76 : decode cX13_readSection 76 = .ok (.iload_n 2, 1) := by decide +kernel
theorem dX13_readSection_77 : decode cX13_readSection 77 = .ok (.iadd, 1) := by decide +kernel
theorem dX13_readSection_78 : decode cX13_readSection 78 = .ok (.iload_n 3, 1) := by decide +kernel
theorem dX13_readSection_79 : decode cX13_readSection 79 = .ok (.iastore, 1) := by decide +kernel
theorem dX13_readSection_80 : decode cX13_readSection 80 = .ok (.return_, 1) := by decide +kernel
theorem dX13_readBarge_0 : decode cX13_readBarge 0 = .ok (.aload_n 0, 1) := by decide +kernel
theorem dX13_readBarge_1 : decode cX13_readBarge 1 = .ok (.aload_n 0, 1) := by decide +kernel
theorem dX13_readBarge_2 : decode cX13_readBarge 2 = .ok (.ldc_w 375, 3) := by decide +kernel
theorem dX13_readBarge_5 : decode cX13_readBarge 5 = .ok (.invokevirtual 342, 3) := by decide +kernel
theorem dX13_readBarge_8 : decode cX13_readBarge 8 = .ok (.iconst 1, 1) := by decide +kernel
theorem dX13_readBarge_9 : decode cX13_readBarge 9 = .ok (.invokevirtual 349, 3) := by decide +kernel
theorem dX13_readBarge_12 : decode cX13_readBarge 12 = .ok (.aload_n 0, 1) := by decide +kernel
theorem dX13_readBarge_13 : decode cX13_readBarge 13 = .ok (.aload_n 0, 1) := by decide +kernel
theorem dX13_readBarge_14 : decode cX13_readBarge 14 = .ok (.getfield 323, 3) := by decide +kernel
theorem dX13_readBarge_17 : decode cX13_readBarge 17 = .ok (.ifCond .ne 13, 3) := by decide +kernel
theorem dX13_readBarge_20 : decode cX13_readBarge 20 = .ok (.aload_n 0, 1) := by decide +kernel
theorem dX13_readBarge_21 : decode cX13_readBarge 21 = .ok (.getfield 28, 3) := by decide +kernel
theorem dX13_readBarge_24 : decode cX13_readBarge 24 = .ok (.iconst 2, 1) := by decide +kernel
theorem dX13_readBarge_25 : decode cX13_readBarge 25 = .ok (.iaload, 1) := by decide +kernel
theorem dX13_readBarge_26 : decode cX13_readBarge 26 = .ok (.iconst 5, 1) := by decide +kernel
theorem dX13_readBarge_27 : decode cX13_readBarge 27 = .ok (.if_icmp .ge 7, 3) := by decide +kernel
theorem dX13_readBarge_30 : decode cX13_readBarge 30 = .ok (.iconst 1, 1) := by decide +kernel
theorem dX13_readBarge_31 : decode cX13_readBarge 31 = .ok (.goto 4, 3) := by decide +kernel
theorem dX13_readBarge_34 : decode cX13_readBarge 34 = .ok (.iconst 0, 1) := by decide +kernel
theorem dX13_readBarge_35 : decode cX13_readBarge 35 = .ok (.iconst 4, 1) := by decide +kernel
theorem dX13_readBarge_36 : decode cX13_readBarge 36 = .ok (.invokevirtual 349, 3) := by decide +kernel
theorem dX13_readBarge_39 : decode cX13_readBarge 39 = .ok (.aload_n 0, 1) := by decide +kernel
theorem dX13_readBarge_40 : decode cX13_readBarge 40 = .ok (.invokevirtual 353, 3) := by decide +kernel
theorem dX13_readBarge_43 : decode cX13_readBarge 43 = .ok (.aload_n 0, 1) := by decide +kernel
theorem dX13_readBarge_44 : decode cX13_readBarge 44 = .ok (.iconst 0, 1) := by decide +kernel
theorem dX13_readBarge_45 : decode cX13_readBarge 45 = .ok (.aload_n 0, 1) := by decide +kernel
theorem dX13_readBarge_46 : decode cX13_readBarge 46 = .ok (.getfield 28, 3) := by decide +kernel
theorem dX13_readBarge_49 : decode cX13_readBarge 49 = .ok (.iconst 1, 1) := by decide +kernel
theorem dX13_readBarge_50 : decode cX13_readBarge 50 = .ok (.iaload, 1) := by decide +kernel
theorem dX13_readBarge_51 : decode cX13_readBarge 51 = .ok (.iconst 1, 1) := by decide +kernel
theorem dX13_readBarge_52 : decode cX13_readBarge 52 = .ok (.isub, 1) := by decide +kernel
theorem dX13_readBarge_53 : decode cX13_readBarge 53 = .ok (.invokevirtual 369, 3) := by decide +kernel
theorem dX13_readBarge_56 : decode cX13_readBarge 56 = .ok (.istore_n 1, 1) := by decide +kernel
theorem dX13_readBarge_57 : decode cX13_readBarge 57 = .ok (.aload_n 0, 1) := by decide +kernel
theorem dX13_readBarge_58 : decode cX13_readBarge 58 = .ok (.iconst 1, 1) := by decide +kernel
theorem dX13_readBarge_59 : decode cX13_readBarge 59 = .ok (.bipush 9, 2) := by decide +kernel
theorem dX13_readBarge_61 : decode cX13_readBarge 61 = .ok (.invokevirtual 369, 3) := by decide +kernel
theorem dX13_readBarge_64 : decode cX13_readBarge 64 = .ok (.istore_n 2, 1) := by decide +kernel
theorem dX13_readBarge_65 : decode cX13_readBarge 65 = .ok (.aload_n 0, 1) := by decide +kernel
theorem dX13_readBarge_66 : decode cX13_readBarge 66 = .ok (.iconst 0, 1) := by decide +kernel
theorem dX13_readBarge_67 : decode cX13_readBarge 67 = .ok (.bipush 99, 2) := by decide +kernel
theorem dX13_readBarge_69 : decode cX13_readBarge 69 = .ok (.invokevirtual 369, 3) := by decide +kernel
theorem dX13_readBarge_72 : decode cX13_readBarge 72 = .ok (.istore_n 3, 1) := by decide +kernel
theorem dX13_readBarge_73 : decode cX13_readBarge 73 = .ok (.aload_n 0, 1) := by decide +kernel
theorem dX13_readBarge_74 : decode cX13_readBarge 74 = .ok (.iconst 0, 1) := by decide +kernel
theorem dX13_readBarge_75 : decode cX13_readBarge 75 = .ok (.bipush 99, 2) := by decide +kernel
theorem dX13_readBarge_77 : decode cX13_readBarge 77 = .ok (.invokevirtual 369, 3) := by decide +kernel
theorem dX13_readBarge_80 : decode cX13_readBarge 80 = .ok (.istore 4, 2) := by decide +kernel
theorem dX13_readBarge_82 : decode cX13_readBarge 82 = .ok (.aload_n 0, 1) := by decide +kernel
theorem dX13_readBarge_83 : decode cX13_readBarge 83 = .ok (.bipush 59, 2) := by decide +kernel
theorem dX13_readBarge_85 : decode cX13_readBarge 85 = .ok (.invokevirtual 372, 3) := by decide +kernel
theorem dX13_readBarge_88 : decode cX13_readBarge 88 = .ok (.aload_n 0, 1) := by decide +kernel
theorem dX13_readBarge_89 : decode cX13_readBarge 89 = .ok (.getfield 323, 3) := by decide +kernel
theorem dX13_readBarge_92 : decode cX13_readBarge 92 = .ok (.ifCond .ne 12, 3) := by decide +kernel
theorem dX13_readBarge_95 : decode cX13_readBarge 95 = .ok (.aload_n 0, 1) := by decide +kernel
theorem dX13_readBarge_96 : decode cX13_readBarge 96 = .ok (.iload_n 1, 1) := by decide +kernel
theorem dX13_readBarge_97 : decode cX13_readBarge 97 = .ok (.iload_n 2, 1) := by decide +kernel
theorem dX13_readBarge_98 : decode cX13_readBarge 98 = .ok (.iload_n 3, 1) := by decide +kernel
theorem dX13_readBarge_99 : decode cX13_readBarge 99 = .ok (.iload 4, 2) := by decide +kernel
theorem dX13_readBarge_101 : decode cX13_readBarge 101 = .ok (.invokevirtual 72, 3) := by decide +kernel
theorem dX13_readBarge_104 : decode cX13_readBarge 104 = .ok (.return_, 1) := by decide +kernel
theorem dX13_readOrder_0 : decode cX13_readOrder 0 = .ok (.aload_n 0, 1) := by decide +kernel
theorem dX13_readOrder_1 : decode cX13_readOrder 1 = .ok (.aload_n 0, 1) := by decide +kernel
theorem dX13_readOrder_2 : decode cX13_readOrder 2 = .ok (.ldc 48, 2) := by decide +kernel
theorem dX13_readOrder_4 : decode cX13_readOrder 4 = .ok (.invokevirtual 342, 3) := by decide +kernel
theorem dX13_readOrder_7 : decode cX13_readOrder 7 = .ok (.iconst 1, 1) := by decide +kernel
theorem dX13_readOrder_8 : decode cX13_readOrder 8 = .ok (.invokevirtual 349, 3) := by decide +kernel
theorem dX13_readOrder_11 : decode cX13_readOrder 11 = .ok (.aload_n 0, 1) := by decide +kernel
theorem dX13_readOrder_12 : decode cX13_readOrder 12 = .ok (.aload_n 0, 1) := by decide +kernel
theorem dX13_readOrder_13 : decode cX13_readOrder 13 = .ok (.getfield 323, 3) := by decide +kernel
theorem dX13_readOrder_16 : decode cX13_readOrder 16 = .ok (.ifCond .ne 14, 3) := by decide +kernel
theorem dX13_readOrder_19 : decode cX13_readOrder 19 = .ok (.aload_n 0, 1) := by decide +kernel
theorem dX13_readOrder_20 : decode cX13_readOrder 20 = .ok (.getfield 28, 3) := by decide +kernel
theorem dX13_readOrder_23 : decode cX13_readOrder 23 = .ok (.iconst 3, 1) := by decide +kernel
theorem dX13_readOrder_24 : decode cX13_readOrder 24 = .ok (.iaload, 1) := by decide +kernel
theorem dX13_readOrder_25 : decode cX13_readOrder 25 = .ok (.bipush 30, 2) := by decide +kernel
theorem dX13_readOrder_27 : decode cX13_readOrder 27 = .ok (.if_icmp .ge 7, 3) := by decide +kernel
theorem dX13_readOrder_30 : decode cX13_readOrder 30 = .ok (.iconst 1, 1) := by decide +kernel
theorem dX13_readOrder_31 : decode cX13_readOrder 31 = .ok (.goto 4, 3) := by decide +kernel
theorem dX13_readOrder_34 : decode cX13_readOrder 34 = .ok (.iconst 0, 1) := by decide +kernel
theorem dX13_readOrder_35 : decode cX13_readOrder 35 = .ok (.iconst 4, 1) := by decide +kernel
theorem dX13_readOrder_36 : decode cX13_readOrder 36 = .ok (.invokevirtual 349, 3) := by decide +kernel
theorem dX13_readOrder_39 : decode cX13_readOrder 39 = .ok (.aload_n 0, 1) := by decide +kernel
theorem dX13_readOrder_40 : decode cX13_readOrder 40 = .ok (.invokevirtual 353, 3) := by decide +kernel
theorem dX13_readOrder_43 : decode cX13_readOrder 43 = .ok (.aload_n 0, 1) := by decide +kernel
theorem dX13_readOrder_44 : decode cX13_readOrder 44 = .ok (.iconst 0, 1) := by decide +kernel
theorem dX13_readOrder_45 : decode cX13_readOrder 45 = .ok (.aload_n 0, 1) := by decide +kernel
theorem dX13_readOrder_46 : decode cX13_readOrder 46 = .ok (.getfield 28, 3) := by decide +kernel
theorem dX13_readOrder_49 : decode cX13_readOrder 49 = .ok (.iconst 1, 1) := by decide +kernel
theorem dX13_readOrder_50 : decode cX13_readOrder 50 = .ok (.iaload, 1) := by decide +kernel
theorem dX13_readOrder_51 : decode cX13_readOrder 51 = .ok (.iconst 1, 1) := by decide +kernel
theorem dX13_readOrder_52 : decode cX13_readOrder 52 = .ok (.isub, 1) := by decide +kernel
theorem dX13_readOrder_53 : decode cX13_readOrder 53 = .ok (.invokevirtual 369, 3) := by decide +kernel
theorem dX13_readOrder_56 : decode cX13_readOrder 56 = .ok (.istore_n 1, 1) := by decide +kernel
theorem dX13_readOrder_57 : decode cX13_readOrder 57 = .ok (.aload_n 0, 1) := by decide +kernel
theorem dX13_readOrder_58 : decode cX13_readOrder 58 = .ok (.iconst 1, 1) := by decide +kernel
theorem dX13_readOrder_59 : decode cX13_readOrder 59 = .ok (.iconst 4, 1) := by decide +kernel
theorem dX13_readOrder_60 : decode cX13_readOrder 60 = .ok (.invokevirtual 369, 3) := by decide +kernel
theorem dX13_readOrder_63 : decode cX13_readOrder 63 = .ok (.istore_n 2, 1) := by decide +kernel
theorem dX13_readOrder_64 : decode cX13_readOrder 64 = .ok (.aload_n 0, 1) := by decide +kernel
theorem dX13_readOrder_65 : decode cX13_readOrder 65 = .ok (.iconst 1, 1) := by decide +kernel
theorem dX13_readOrder_66 : decode cX13_readOrder 66 = .ok (.bipush 6, 2) := by decide +kernel
theorem dX13_readOrder_68 : decode cX13_readOrder 68 = .ok (.invokevirtual 369, 3) := by decide +kernel
theorem dX13_readOrder_71 : decode cX13_readOrder 71 = .ok (.istore_n 3, 1) := by decide +kernel
theorem dX13_readOrder_72 : decode cX13_readOrder 72 = .ok (.aload_n 0, 1) := by decide +kernel
theorem dX13_readOrder_73 : decode cX13_readOrder 73 = .ok (.iconst 1, 1) := by decide +kernel
theorem dX13_readOrder_74 : decode cX13_readOrder 74 = .ok (.sipush 500, 3) := by decide +kernel
theorem dX13_readOrder_77 : decode cX13_readOrder 77 = .ok (.invokevirtual 369, 3) := by decide +kernel
theorem dX13_readOrder_80 : decode cX13_readOrder 80 = .ok (.istore 4, 2) := by decide +kernel
theorem dX13_readOrder_82 : decode cX13_readOrder 82 = .ok (.aload_n 0, 1) := by decide +kernel
theorem dX13_readOrder_83 : decode cX13_readOrder 83 = .ok (.bipush 59, 2) := by decide +kernel
theorem dX13_readOrder_85 : decode cX13_readOrder 85 = .ok (.invokevirtual 372, 3) := by decide +kernel
theorem dX13_readOrder_88 : decode cX13_readOrder 88 = .ok (.aload_n 0, 1) := by decide +kernel
theorem dX13_readOrder_89 : decode cX13_readOrder 89 = .ok (.getfield 323, 3) := by decide +kernel
theorem dX13_readOrder_92 : decode cX13_readOrder 92 = .ok (.ifCond .ne 12, 3) := by decide +kernel
theorem dX13_readOrder_95 : decode cX13_readOrder 95 = .ok (.aload_n 0, 1) := by decide +kernel
theorem dX13_readOrder_96 : decode cX13_readOrder 96 = .ok (.iload_n 1, 1) := by decide +kernel
theorem dX13_readOrder_97 : decode cX13_readOrder 97 = .ok (.iload_n 2, 1) := by decide +kernel
theorem dX13_readOrder_98 : decode cX13_readOrder 98 = .ok (.iload_n 3, 1) := by decide +kernel
theorem dX13_readOrder_99 : decode cX13_readOrder 99 = .ok (.iload 4, 2) := by decide +kernel
theorem dX13_readOrder_101 : decode cX13_readOrder 101 = .ok (.invokevirtual 76, 3) := by decide +kernel
theorem dX13_readOrder_104 : decode cX13_readOrder 104 = .ok (.return_, 1) := by decide +kernel
theorem dX13_readCanal_0 : decode cX13_readCanal 0 = .ok (.aload_n 0, 1) := by decide +kernel
theorem dX13_readCanal_1 : decode cX13_readCanal 1 = .ok (.aload_n 0, 1) := by decide +kernel
theorem dX13_readCanal_2 : decode cX13_readCanal 2 = .ok (.ldc_w 377, 3) := by decide +kernel
theorem dX13_readCanal_5 : decode cX13_readCanal 5 = .ok (.invokevirtual 342, 3) := by decide +kernel
theorem dX13_readCanal_8 : decode cX13_readCanal 8 = .ok (.iconst 1, 1) := by decide +kernel
theorem dX13_readCanal_9 : decode cX13_readCanal 9 = .ok (.invokevirtual 349, 3) := by decide +kernel
theorem dX13_readCanal_12 : decode cX13_readCanal 12 = .ok (.aload_n 0, 1) := by decide +kernel
theorem dX13_readCanal_13 : decode cX13_readCanal 13 = .ok (.invokevirtual 353, 3) := by decide +kernel
theorem dX13_readCanal_16 : decode cX13_readCanal 16 = .ok (.aload_n 0, 1) := by decide +kernel
theorem dX13_readCanal_17 : decode cX13_readCanal 17 = .ok (.iconst 3, 1) := by decide +kernel
theorem dX13_readCanal_18 : decode cX13_readCanal 18 = .ok (.bipush 16, 2) := by decide +kernel
theorem dX13_readCanal_20 : decode cX13_readCanal 20 = .ok (.invokevirtual 369, 3) := by decide +kernel
theorem dX13_readCanal_23 : decode cX13_readCanal 23 = .ok (.istore_n 1, 1) := by decide +kernel
theorem dX13_readCanal_24 : decode cX13_readCanal 24 = .ok (.aload_n 0, 1) := by decide +kernel
theorem dX13_readCanal_25 : decode cX13_readCanal 25 = .ok (.bipush 59, 2) := by decide +kernel
theorem dX13_readCanal_27 : decode cX13_readCanal 27 = .ok (.invokevirtual 372, 3) := by decide +kernel
theorem dX13_readCanal_30 : decode cX13_readCanal 30 = .ok (.aload_n 0, 1) := by decide +kernel
theorem dX13_readCanal_31 : decode cX13_readCanal 31 = .ok (.iload_n 1, 1) := by decide +kernel
theorem dX13_readCanal_32 : decode cX13_readCanal 32 = .ok (.invokevirtual 68, 3) := by decide +kernel
theorem dX13_readCanal_35 : decode cX13_readCanal 35 = .ok (.aload_n 0, 1) := by decide +kernel
theorem dX13_readCanal_36 : decode cX13_readCanal 36 = .ok (.ldc_w 379, 3) := by decide +kernel
theorem dX13_readCanal_39 : decode cX13_readCanal 39 = .ok (.invokevirtual 342, 3) := by decide +kernel
theorem dX13_readCanal_42 : decode cX13_readCanal 42 = .ok (.ifCond .ne 13, 3) := by decide +kernel
theorem dX13_readCanal_45 : decode cX13_readCanal 45 = .ok (.aload_n 0, 1) := by decide +kernel
theorem dX13_readCanal_46 : decode cX13_readCanal 46 = .ok (.ldc_w 381, 3) := by decide +kernel
theorem dX13_readCanal_49 : decode cX13_readCanal 49 = .ok (.invokevirtual 342, 3) := by decide +kernel
theorem dX13_readCanal_52 : decode cX13_readCanal 52 = .ok (.ifCond .eq 27, 3) := by decide +kernel
theorem dX13_readCanal_55 : decode cX13_readCanal 55 = .ok (.aload_n 0, 1) := by decide +kernel
theorem dX13_readCanal_56 : decode cX13_readCanal 56 = .ok (.aload_n 0, 1) := by decide +kernel
theorem dX13_readCanal_57 : decode cX13_readCanal 57 = .ok (.ldc_w 379, 3) := by decide +kernel
theorem dX13_readCanal_60 : decode cX13_readCanal 60 = .ok (.invokevirtual 342, 3) := by decide +kernel
theorem dX13_readCanal_63 : decode cX13_readCanal 63 = .ok (.ifCond .eq 8, 3) := by decide +kernel
theorem dX13_readCanal_66 : decode cX13_readCanal 66 = .ok (.bipush 10, 2) := by decide +kernel
theorem dX13_readCanal_68 : decode cX13_readCanal 68 = .ok (.goto 5, 3) := by decide +kernel
theorem dX13_readCanal_71 : decode cX13_readCanal 71 = .ok (.bipush 25, 2) := by decide +kernel
theorem dX13_readCanal_73 : decode cX13_readCanal 73 = .ok (.invokevirtual 383, 3) := by decide +kernel
theorem dX13_readCanal_76 : decode cX13_readCanal 76 = .ok (.goto (-41), 3) := by decide +kernel
theorem dX13_readCanal_79 : decode cX13_readCanal 79 = .ok (.aload_n 0, 1) := by decide +kernel
theorem dX13_readCanal_80 : decode cX13_readCanal 80 = .ok (.invokevirtual 386, 3) := by decide +kernel
theorem dX13_readCanal_83 : decode cX13_readCanal 83 = .ok (.aload_n 0, 1) := by decide +kernel
theorem dX13_readCanal_84 : decode cX13_readCanal 84 = .ok (.ldc_w 375, 3) := by decide +kernel
theorem dX13_readCanal_87 : decode cX13_readCanal 87 = .ok (.invokevirtual 342, 3) := by decide +kernel
theorem dX13_readCanal_90 : decode cX13_readCanal 90 = .ok (.ifCond .eq 10, 3) := by decide +kernel
theorem dX13_readCanal_93 : decode cX13_readCanal 93 = .ok (.aload_n 0, 1) := by decide +kernel
theorem dX13_readCanal_94 : decode cX13_readCanal 94 = .ok (.invokevirtual 386, 3) := by decide +kernel
theorem dX13_readCanal_97 : decode cX13_readCanal 97 = .ok (.goto (-14), 3) := by decide +kernel
theorem dX13_readCanal_100 : decode cX13_readCanal 100 = .ok (.aload_n 0, 1) := by decide +kernel
theorem dX13_readCanal_101 : decode cX13_readCanal 101 = .ok (.getfield 323, 3) := by decide +kernel
theorem dX13_readCanal_104 : decode cX13_readCanal 104 = .ok (.ifCond .ne 17, 3) := by decide +kernel
theorem dX13_readCanal_107 : decode cX13_readCanal 107 = .ok (.aload_n 0, 1) := by decide +kernel
theorem dX13_readCanal_108 : decode cX13_readCanal 108 = .ok (.getfield 314, 3) := by decide +kernel
theorem dX13_readCanal_111 : decode cX13_readCanal 111 = .ok (.ifCond .eq 10, 3) := by decide +kernel
theorem dX13_readCanal_114 : decode cX13_readCanal 114 = .ok (.aload_n 0, 1) := by decide +kernel
theorem dX13_readCanal_115 : decode cX13_readCanal 115 = .ok (.invokevirtual 389, 3) := by decide +kernel
theorem dX13_readCanal_118 : decode cX13_readCanal 118 = .ok (.goto (-18), 3) := by decide +kernel
theorem dX13_readCanal_121 : decode cX13_readCanal 121 = .ok (.return_, 1) := by decide +kernel
theorem dX13_loadCanal_0 : decode cX13_loadCanal 0 = .ok (.aload_n 0, 1) := by decide +kernel
theorem dX13_loadCanal_1 : decode cX13_loadCanal 1 = .ok (.aload_n 0, 1) := by decide +kernel
theorem dX13_loadCanal_2 : decode cX13_loadCanal 2 = .ok (.iload_n 1, 1) := by decide +kernel
theorem dX13_loadCanal_3 : decode cX13_loadCanal 3 = .ok (.invokevirtual 392, 3) := by decide +kernel
theorem dX13_loadCanal_6 : decode cX13_loadCanal 6 = .ok (.invokevirtual 82, 3) := by decide +kernel
theorem dX13_loadCanal_9 : decode cX13_loadCanal 9 = .ok (.ifCond .eq 5, 3) := by decide +kernel
theorem dX13_loadCanal_12 : decode cX13_loadCanal 12 = .ok (.iconst 0, 1) := by decide +kernel
theorem dX13_loadCanal_13 : decode cX13_loadCanal 13 = .ok (.ireturn, 1) := by decide +kernel
theorem dX13_loadCanal_14 : decode cX13_loadCanal 14 = .ok (.aload_n 0, 1) := by decide +kernel
theorem dX13_loadCanal_15 : decode cX13_loadCanal 15 = .ok (.iload_n 1, 1) := by decide +kernel
theorem dX13_loadCanal_16 : decode cX13_loadCanal 16 = .ok (.invokevirtual 395, 3) := by decide +kernel
theorem dX13_loadCanal_19 : decode cX13_loadCanal 19 = .ok (.aload_n 0, 1) := by decide +kernel
theorem dX13_loadCanal_20 : decode cX13_loadCanal 20 = .ok (.aload_n 0, 1) := by decide +kernel
theorem dX13_loadCanal_21 : decode cX13_loadCanal 21 = .ok (.getfield 13, 3) := by decide +kernel
theorem dX13_loadCanal_24 : decode cX13_loadCanal 24 = .ok (.putfield 28, 3) := by decide +kernel
theorem dX13_loadCanal_27 : decode cX13_loadCanal 27 = .ok (.aload_n 0, 1) := by decide +kernel
theorem dX13_loadCanal_28 : decode cX13_loadCanal 28 = .ok (.invokevirtual 398, 3) := by decide +kernel
theorem dX13_loadCanal_31 : decode cX13_loadCanal 31 = .ok (.aload_n 0, 1) := by decide +kernel
theorem dX13_loadCanal_32 : decode cX13_loadCanal 32 = .ok (.aload_n 0, 1) := by decide +kernel
theorem dX13_loadCanal_33 : decode cX13_loadCanal 33 = .ok (.getfield 9, 3) := by decide +kernel
theorem dX13_loadCanal_36 : decode cX13_loadCanal 36 = .ok (.putfield 28, 3) := by decide +kernel
theorem dX13_loadCanal_39 : decode cX13_loadCanal 39 = .ok (.aload_n 0, 1) := by decide +kernel
theorem dX13_loadCanal_40 : decode cX13_loadCanal 40 = .ok (.invokevirtual 401, 3) := by decide +kernel
theorem dX13_loadCanal_43 : decode cX13_loadCanal 43 = .ok (.ifCond .eq 5, 3) := by decide +kernel
theorem dX13_loadCanal_46 : decode cX13_loadCanal 46 = .ok (.iconst (-1), 1) := by decide +kernel
theorem dX13_loadCanal_47 : decode cX13_loadCanal 47 = .ok (.ireturn, 1) := by decide +kernel
theorem dX13_loadCanal_48 : decode cX13_loadCanal 48 = .ok (.aload_n 0, 1) := by decide +kernel
theorem dX13_loadCanal_49 : decode cX13_loadCanal 49 = .ok (.getfield 13, 3) := by decide +kernel
theorem dX13_loadCanal_52 : decode cX13_loadCanal 52 = .ok (.iconst 0, 1) := by decide +kernel
theorem dX13_loadCanal_53 : decode cX13_loadCanal 53 = .ok (.aload_n 0, 1) := by decide +kernel
theorem dX13_loadCanal_54 : decode cX13_loadCanal 54 = .ok (.getfield 9, 3) := by decide +kernel
theorem dX13_loadCanal_57 : decode cX13_loadCanal 57 = .ok (.iconst 0, 1) := by decide +kernel
theorem dX13_loadCanal_58 : decode cX13_loadCanal 58 = .ok (.invokestatic 229, 3) := by decide +kernel
theorem dX13_loadCanal_61 : decode cX13_loadCanal 61 = .ok (.aload_n 0, 1) := by decide +kernel
theorem dX13_loadCanal_62 : decode cX13_loadCanal 62 = .ok (.iconst 0, 1) := by decide +kernel
theorem dX13_loadCanal_63 : decode cX13_loadCanal 63 = .ok (.putfield 248, 3) := by decide +kernel
theorem dX13_loadCanal_66 : decode cX13_loadCanal 66 = .ok (.aload_n 0, 1) := by decide +kernel
theorem dX13_loadCanal_67 : decode cX13_loadCanal 67 = .ok (.iconst 0, 1) := by decide +kernel
theorem dX13_loadCanal_68 : decode cX13_loadCanal 68 = .ok (.putfield 295, 3) := by decide +kernel
theorem dX13_loadCanal_71 : decode cX13_loadCanal 71 = .ok (.aload_n 0, 1) := by decide +kernel
theorem dX13_loadCanal_72 : decode cX13_loadCanal 72 = .ok (.getfield 28, 3) := by decide +kernel
theorem dX13_loadCanal_75 : decode cX13_loadCanal 75 = .ok (.iconst 2, 1) := by decide +kernel
theorem dX13_loadCanal_76 : decode cX13_loadCanal 76 = .ok (.iaload, 1) := by decide +kernel
theorem dX13_loadCanal_77 : decode cX13_loadCanal 77 = .ok (.ireturn, 1) := by decide +kernel
theorem dX13_commandHere_0 : decode cX13_commandHere 0 = .ok (.iconst 0, 1) := by decide +kernel
theorem dX13_commandHere_1 : decode cX13_commandHere 1 = .ok (.istore_n 1, 1) := by decide +kernel
theorem dX13_commandHere_2 : decode cX13_commandHere 2 = .ok (.iload_n 1, 1) := by decide +kernel
theorem dX13_commandHere_3 : decode cX13_commandHere 3 = .ok (.aload_n 0, 1) := by decide +kernel
theorem dX13_commandHere_4 : decode cX13_commandHere 4 = .ok (.getfield 64, 3) := by decide +kernel
theorem dX13_commandHere_7 : decode cX13_commandHere 7 = .ok (.arraylength, 1) := by decide +kernel
theorem dX13_commandHere_8 : decode cX13_commandHere 8 = .ok (.if_icmp .ge 24, 3) := by decide +kernel
theorem dX13_commandHere_11 : decode cX13_commandHere 11 = .ok (.aload_n 0, 1) := by decide +kernel
theorem dX13_commandHere_12 : decode cX13_commandHere 12 = .ok (.aload_n 0, 1) := by decide +kernel
theorem dX13_commandHere_13 : decode cX13_commandHere 13 = .ok (.getfield 64, 3) := by decide +kernel
theorem dX13_commandHere_16 : decode cX13_commandHere 16 = .ok (.iload_n 1, 1) := by decide +kernel
theorem dX13_commandHere_17 : decode cX13_commandHere 17 = .ok (.aaload, 1) := by decide +kernel
theorem dX13_commandHere_18 : decode cX13_commandHere 18 = .ok (.invokevirtual 342, 3) := by decide +kernel
theorem dX13_commandHere_21 : decode cX13_commandHere 21 = .ok (.ifCond .eq 5, 3) := by decide +kernel
theorem dX13_commandHere_24 : decode cX13_commandHere 24 = .ok (.iload_n 1, 1) := by decide +kernel
theorem dX13_commandHere_25 : decode cX13_commandHere 25 = .ok (.ireturn, 1) := by decide +kernel
theorem dX13_commandHere_26 : decode cX13_commandHere 26 = .ok (.iinc 1 1, 3) := by decide +kernel
theorem dX13_commandHere_29 : decode cX13_commandHere 29 = .ok (.goto (-27), 3) := by decide +kernel
theorem dX13_commandHere_32 : decode cX13_commandHere 32 = .ok (.iconst (-1), 1) := by decide +kernel
theorem dX13_commandHere_33 : decode cX13_commandHere 33 = .ok (.ireturn, 1) := by decide +kernel
theorem dX13_readFirst_0 : decode cX13_readFirst 0 = .ok (.iload_n 1, 1) := by decide +kernel
theorem dX13_readFirst_1 : decode cX13_readFirst 1 = .ok (.lookupswitch 59 #[(1, 35), (3, 43), (7, 51)], 35) := by decide +kernel
theorem dX13_readFirst_36 : decode cX13_readFirst 36 = .ok (.aload_n 0, 1) := by decide +kernel
theorem dX13_readFirst_37 : decode cX13_readFirst 37 = .ok (.iconst 0, 1) := by decide +kernel
theorem dX13_readFirst_38 : decode cX13_readFirst 38 = .ok (.bipush 15, 2) := by decide +kernel
theorem dX13_readFirst_40 : decode cX13_readFirst 40 = .ok (.invokevirtual 369, 3) := by decide +kernel
theorem dX13_readFirst_43 : decode cX13_readFirst 43 = .ok (.ireturn, 1) := by decide +kernel
theorem dX13_readFirst_44 : decode cX13_readFirst 44 = .ok (.aload_n 0, 1) := by decide +kernel
theorem dX13_readFirst_45 : decode cX13_readFirst 45 = .ok (.iconst 0, 1) := by decide +kernel
theorem dX13_readFirst_46 : decode cX13_readFirst 46 = .ok (.bipush 29, 2) := by decide +kernel
theorem dX13_readFirst_48 : decode cX13_readFirst 48 = .ok (.invokevirtual 369, 3) := by decide +kernel
theorem dX13_readFirst_51 : decode cX13_readFirst 51 = .ok (.ireturn, 1) := by decide +kernel
theorem dX13_readFirst_52 : decode cX13_readFirst 52 = .ok (.aload_n 0, 1) := by decide +kernel
theorem dX13_readFirst_53 : decode cX13_readFirst 53 = .ok (.iconst 1, 1) := by decide +kernel
theorem dX13_readFirst_54 : decode cX13_readFirst 54 = .ok (.bipush 60, 2) := by decide +kernel
theorem dX13_readFirst_56 : decode cX13_readFirst 56 = .ok (.invokevirtual 369, 3) := by decide +kernel
theorem dX13_readFirst_59 : decode cX13_readFirst 59 = .ok (.ireturn, 1) := by decide +kernel
theorem dX13_readFirst_60 : decode cX13_readFirst 60 = .ok (.aload_n 0, 1) := by decide +kernel
theorem dX13_readFirst_61 : decode cX13_readFirst 61 = .ok (.iconst 0, 1) := by decide +kernel
theorem dX13_readFirst_62 : decode cX13_readFirst 62 = .ok (.iconst 4, 1) := by decide +kernel
theorem dX13_readFirst_63 : decode cX13_readFirst 63 = .ok (.invokevirtual 369, 3) := by decide +kernel
theorem dX13_readFirst_66 : decode cX13_readFirst 66 = .ok (.ireturn, 1) := by decide +kernel
theorem dX13_readSecond_0 : decode cX13_readSecond 0 = .ok (.iload_n 1, 1) := by decide +kernel
theorem dX13_readSecond_1 : decode cX13_readSecond 1 = .ok (.tableswitch 66 0 4 #[35, 43, 50, 66, 58], 35) := by decide +kernel
theorem dX13_readSecond_36 : decode cX13_readSecond 36 = .ok (.aload_n 0, 1) := by decide +kernel
theorem dX13_readSecond_37 : decode cX13_readSecond 37 = .ok (.iconst 0, 1) := by decide +kernel
theorem dX13_readSecond_38 : decode cX13_readSecond 38 = .ok (.bipush 15, 2) := by decide +kernel
theorem dX13_readSecond_40 : decode cX13_readSecond 40 = .ok (.invokevirtual 369, 3) := by decide +kernel
theorem dX13_readSecond_43 : decode cX13_readSecond 43 = .ok (.ireturn, 1) := by decide +kernel
theorem dX13_readSecond_44 : decode cX13_readSecond 44 = .ok (.aload_n 0, 1) := by decide +kernel
theorem dX13_readSecond_45 : decode cX13_readSecond 45 = .ok (.iconst 1, 1) := by decide +kernel
theorem dX13_readSecond_46 : decode cX13_readSecond 46 = .ok (.iconst 4, 1) := by decide +kernel
theorem dX13_readSecond_47 : decode cX13_readSecond 47 = .ok (.invokevirtual 369, 3) := by decide +kernel
theorem dX13_readSecond_50 : decode cX13_readSecond 50 = .ok (.ireturn, 1) := by decide +kernel
theorem dX13_readSecond_51 : decode cX13_readSecond 51 = .ok (.aload_n 0, 1) := by decide +kernel
theorem dX13_readSecond_52 : decode cX13_readSecond 52 = .ok (.iconst 0, 1) := by decide +kernel
theorem dX13_readSecond_53 : decode cX13_readSecond 53 = .ok (.bipush 29, 2) := by decide +kernel
theorem dX13_readSecond_55 : decode cX13_readSecond 55 = .ok (.invokevirtual 369, 3) := by decide +kernel
theorem dX13_readSecond_58 : decode cX13_readSecond 58 = .ok (.ireturn, 1) := by decide +kernel
theorem dX13_readSecond_59 : decode cX13_readSecond 59 = .ok (.aload_n 0, 1) := by decide +kernel
theorem dX13_readSecond_60 : decode cX13_readSecond 60 = .ok (.iconst 1, 1) := by decide +kernel
theorem dX13_readSecond_61 : decode cX13_readSecond 61 = .ok (.bipush 99, 2) := by decide +kernel
theorem dX13_readSecond_63 : decode cX13_readSecond 63 = .ok (.invokevirtual 369, 3) := by decide +kernel
theorem dX13_readSecond_66 : decode cX13_readSecond 66 = .ok (.ireturn, 1) := by decide +kernel
theorem dX13_readSecond_67 : decode cX13_readSecond 67 = .ok (.iconst 0, 1) := by decide +kernel
theorem dX13_readSecond_68 : decode cX13_readSecond 68 = .ok (.ireturn, 1) := by decide +kernel
theorem dX13_readRepeat_0 : decode cX13_readRepeat 0 = .ok (.aload_n 0, 1) := by decide +kernel
theorem dX13_readRepeat_1 : decode cX13_readRepeat 1 = .ok (.getfield 41, 3) := by decide +kernel
theorem dX13_readRepeat_4 : decode cX13_readRepeat 4 = .ok (.iload_n 1, 1) := by decide +kernel
theorem dX13_readRepeat_5 : decode cX13_readRepeat 5 = .ok (.iconst 1, 1) := by decide +kernel
theorem dX13_readRepeat_6 : decode cX13_readRepeat 6 = .ok (.iadd, 1) := by decide +kernel
theorem dX13_readRepeat_7 : decode cX13_readRepeat 7 = .ok (.aload_n 0, 1) := by decide +kernel
theorem dX13_readRepeat_8 : decode cX13_readRepeat 8 = .ok (.iconst 2, 1) := by decide +kernel
theorem dX13_readRepeat_9 : decode cX13_readRepeat 9 = .ok (.iconst 5, 1) := by decide +kernel
theorem dX13_readRepeat_10 : decode cX13_readRepeat 10 = .ok (.invokevirtual 369, 3) := by decide +kernel
theorem dX13_readRepeat_13 : decode cX13_readRepeat 13 = .ok (.iastore, 1) := by decide +kernel
theorem dX13_readRepeat_14 : decode cX13_readRepeat 14 = .ok (.aload_n 0, 1) := by decide +kernel
theorem dX13_readRepeat_15 : decode cX13_readRepeat 15 = .ok (.bipush 40, 2) := by decide +kernel
theorem dX13_readRepeat_17 : decode cX13_readRepeat 17 = .ok (.invokevirtual 372, 3) := by decide +kernel
theorem dX13_readRepeat_20 : decode cX13_readRepeat 20 = .ok (.aload_n 0, 1) := by decide +kernel
theorem dX13_readRepeat_21 : decode cX13_readRepeat 21 = .ok (.getfield 323, 3) := by decide +kernel
theorem dX13_readRepeat_24 : decode cX13_readRepeat 24 = .ok (.ifCond .ne 22, 3) := by decide +kernel
theorem dX13_readRepeat_27 : decode cX13_readRepeat 27 = .ok (.aload_n 0, 1) := by decide +kernel
theorem dX13_readRepeat_28 : decode cX13_readRepeat 28 = .ok (.bipush 41, 2) := by decide +kernel
theorem dX13_readRepeat_30 : decode cX13_readRepeat 30 = .ok (.invokevirtual 346, 3) := by decide +kernel
theorem dX13_readRepeat_33 : decode cX13_readRepeat 33 = .ok (.ifCond .ne 13, 3) := by decide +kernel
theorem dX13_readRepeat_36 : decode cX13_readRepeat 36 = .ok (.aload_n 0, 1) := by decide +kernel
theorem dX13_readRepeat_37 : decode cX13_readRepeat 37 = .ok (.iload_n 2, 1) := by decide +kernel
theorem dX13_readRepeat_38 : decode cX13_readRepeat 38 = .ok (.iconst 1, 1) := by decide +kernel
theorem dX13_readRepeat_39 : decode cX13_readRepeat 39 = .ok (.iadd, 1) := by decide +kernel
theorem dX13_readRepeat_40 : decode cX13_readRepeat 40 = .ok (.invokevirtual 405, 3) := by decide +kernel
theorem dX13_readRepeat_43 : decode cX13_readRepeat 43 = .ok (.goto (-23), 3) := by decide +kernel
theorem dX13_readRepeat_46 : decode cX13_readRepeat 46 = .ok (.aload_n 0, 1) := by decide +kernel
theorem dX13_readRepeat_47 : decode cX13_readRepeat 47 = .ok (.bipush 41, 2) := by decide +kernel
theorem dX13_readRepeat_49 : decode cX13_readRepeat 49 = .ok (.invokevirtual 372, 3) := by decide +kernel
theorem dX13_readRepeat_52 : decode cX13_readRepeat 52 = .ok (.aload_n 0, 1) := by decide +kernel
theorem dX13_readRepeat_53 : decode cX13_readRepeat 53 = .ok (.getfield 41, 3) := by decide +kernel
theorem dX13_readRepeat_56 : decode cX13_readRepeat 56 = .ok (.iload_n 1, 1) := by decide +kernel
theorem dX13_readRepeat_57 : decode cX13_readRepeat 57 = .ok (.iconst 2, 1) := by decide +kernel
theorem dX13_readRepeat_58 : decode cX13_readRepeat 58 = .ok (.iadd, 1) := by decide +kernel
theorem dX13_readRepeat_59 : decode cX13_readRepeat 59 = .ok (.aload_n 0, 1) := by decide +kernel
theorem dX13_readRepeat_60 : decode cX13_readRepeat 60 = .ok (.getfield 408, 3) := by decide +kernel
theorem dX13_readRepeat_63 : decode cX13_readRepeat 63 = .ok (.iastore, 1) := by decide +kernel
theorem dX13_readRepeat_64 : decode cX13_readRepeat 64 = .ok (.return_, 1) := by decide +kernel
theorem dX13_readCommand_0 : decode cX13_readCommand 0 = .ok (.aload_n 0, 1) := by decide +kernel
theorem dX13_readCommand_1 : decode cX13_readCommand 1 = .ok (.invokevirtual 411, 3) := by decide +kernel
theorem dX13_readCommand_4 : decode cX13_readCommand 4 = .ok (.istore_n 2, 1) := by decide +kernel
theorem dX13_readCommand_5 : decode cX13_readCommand 5 = .ok (.aload_n 0, 1) := by decide +kernel
theorem dX13_readCommand_6 : decode cX13_readCommand 6 = .ok (.iload_n 2, 1) := by decide +kernel
theorem dX13_readCommand_7 : decode cX13_readCommand 7 = .ok (.iconst (-1), 1) := by decide +kernel
theorem dX13_readCommand_8 : decode cX13_readCommand 8 = .ok (.if_icmp .eq 7, 3) := by decide +kernel
theorem dX13_readCommand_11 : decode cX13_readCommand 11 = .ok (.iconst 1, 1) := by decide +kernel
theorem dX13_readCommand_12 : decode cX13_readCommand 12 = .ok (.goto 4, 3) := by decide +kernel
theorem dX13_readCommand_15 : decode cX13_readCommand 15 = .ok (.iconst 0, 1) := by decide +kernel
theorem dX13_readCommand_16 : decode cX13_readCommand 16 = .ok (.iconst 1, 1) := by decide +kernel
theorem dX13_readCommand_17 : decode cX13_readCommand 17 = .ok (.invokevirtual 349, 3) := by decide +kernel
theorem dX13_readCommand_20 : decode cX13_readCommand 20 = .ok (.aload_n 0, 1) := by decide +kernel
theorem dX13_readCommand_21 : decode cX13_readCommand 21 = .ok (.aload_n 0, 1) := by decide +kernel
theorem dX13_readCommand_22 : decode cX13_readCommand 22 = .ok (.getfield 323, 3) := by decide +kernel
theorem dX13_readCommand_25 : decode cX13_readCommand 25 = .ok (.ifCond .ne 23, 3) := by decide +kernel
theorem dX13_readCommand_28 : decode cX13_readCommand 28 = .ok (.aload_n 0, 1) := by decide +kernel
theorem dX13_readCommand_29 : decode cX13_readCommand 29 = .ok (.getfield 408, 3) := by decide +kernel
theorem dX13_readCommand_32 : decode cX13_readCommand 32 = .ok (.bipush 20, 2) := by decide +kernel
theorem dX13_readCommand_34 : decode cX13_readCommand 34 = .ok (.if_icmp .ge 18, 3) := by decide +kernel
theorem dX13_readCommand_37 : decode cX13_readCommand 37 = .ok (.iload_n 2, 1) := by decide +kernel
theorem dX13_readCommand_38 : decode cX13_readCommand 38 = .ok (.bipush 8, 2) := by decide +kernel
theorem dX13_readCommand_40 : decode cX13_readCommand 40 = .ok (.if_icmp .ne 8, 3) := by decide +kernel
theorem dX13_readCommand_43 : decode cX13_readCommand 43 = .ok (.iload_n 1, 1) := by decide +kernel
theorem dX13_readCommand_44 : decode cX13_readCommand 44 = .ok (.iconst 2, 1) := by decide +kernel
theorem dX13_readCommand_45 : decode cX13_readCommand 45 = .ok (.if_icmp .ge 7, 3) := by decide +kernel
theorem dX13_readCommand_48 : decode cX13_readCommand 48 = .ok (.iconst 1, 1) := by decide +kernel
theorem dX13_readCommand_49 : decode cX13_readCommand 49 = .ok (.goto 4, 3) := by decide +kernel
theorem dX13_readCommand_52 : decode cX13_readCommand 52 = .ok (.iconst 0, 1) := by decide +kernel
theorem dX13_readCommand_53 : decode cX13_readCommand 53 = .ok (.iconst 4, 1) := by decide +kernel
theorem dX13_readCommand_54 : decode cX13_readCommand 54 = .ok (.invokevirtual 349, 3) := by decide +kernel
theorem dX13_readCommand_57 : decode cX13_readCommand 57 = .ok (.aload_n 0, 1) := by decide +kernel
theorem dX13_readCommand_58 : decode cX13_readCommand 58 = .ok (.invokevirtual 353, 3) := by decide +kernel
theorem dX13_readCommand_61 : decode cX13_readCommand 61 = .ok (.aload_n 0, 1) := by decide +kernel
theorem dX13_readCommand_62 : decode cX13_readCommand 62 = .ok (.getfield 323, 3) := by decide +kernel
theorem dX13_readCommand_65 : decode cX13_readCommand 65 = .ok (.ifCond .eq 4, 3) := by decide +kernel
theorem dX13_readCommand_68 : decode cX13_readCommand 68 = .ok (.return_, 1) := by decide +kernel
theorem dX13_readCommand_69 : decode cX13_readCommand 69 = .ok (.iconst 5, 1) := by decide +kernel
theorem dX13_readCommand_70 : decode cX13_readCommand 70 = .ok (.aload_n 0, 1) := by decide +kernel
theorem dX13_readCommand_71 : decode cX13_readCommand 71 = .ok (.getfield 408, 3) := by decide +kernel
theorem dX13_readCommand_74 : decode cX13_readCommand 74 = .ok (.imul, 1) := by decide +kernel
theorem dX13_readCommand_75 : decode cX13_readCommand 75 = .ok (.istore_n 3, 1) := by decide +kernel
theorem dX13_readCommand_76 : decode cX13_readCommand 76 = .ok (.aload_n 0, 1) := by decide +kernel
theorem dX13_readCommand_77 : decode cX13_readCommand 77 = .ok (.getfield 41, 3) := by decide +kernel
theorem dX13_readCommand_80 : decode cX13_readCommand 80 = .ok (.iload_n 3, 1) := by decide +kernel
theorem dX13_readCommand_81 : decode cX13_readCommand 81 = .ok (.iload_n 2, 1) := by decide +kernel
theorem dX13_readCommand_82 : decode cX13_readCommand 82 = .ok (.iastore, 1) := by decide +kernel
theorem dX13_readCommand_83 : decode cX13_readCommand 83 = .ok (.aload_n 0, 1) := by decide +kernel
theorem dX13_readCommand_84 : decode cX13_readCommand 84 = .ok (.dup, 1) := by decide +kernel
theorem dX13_readCommand_85 : decode cX13_readCommand 85 = .ok (.getfield 408, 3) := by decide +kernel
theorem dX13_readCommand_88 : decode cX13_readCommand 88 = .ok (.iconst 1, 1) := by decide +kernel
theorem dX13_readCommand_89 : decode cX13_readCommand 89 = .ok (.iadd, 1) := by decide +kernel
theorem dX13_readCommand_90 : decode cX13_readCommand 90 = .ok (.putfield 408, 3) := by decide +kernel
theorem dX13_readCommand_93 : decode cX13_readCommand 93 = .ok (.iload_n 2, 1) := by decide +kernel
theorem dX13_readCommand_94 : decode cX13_readCommand 94 = .ok (.bipush 8, 2) := by decide +kernel
theorem dX13_readCommand_96 : decode cX13_readCommand 96 = .ok (.if_icmp .ne 12, 3) := by decide +kernel
theorem dX13_readCommand_99 : decode cX13_readCommand 99 = .ok (.aload_n 0, 1) := by decide +kernel
theorem dX13_readCommand_100 : decode cX13_readCommand 100 = .ok (.iload_n 3, 1) := by decide +kernel
theorem dX13_readCommand_101 : decode cX13_readCommand 101 = .ok (.iload_n 1, 1) := by decide +kernel
theorem dX13_readCommand_102 : decode cX13_readCommand 102 = .ok (.invokevirtual 414, 3) := by decide +kernel
theorem dX13_readCommand_105 : decode cX13_readCommand 105 = .ok (.goto 78, 3) := by decide +kernel
theorem dX13_readCommand_108 : decode cX13_readCommand 108 = .ok (.aload_n 0, 1) := by decide +kernel
theorem dX13_readCommand_109 : decode cX13_readCommand 109 = .ok (.getfield 41, 3) := by decide +kernel
theorem dX13_readCommand_112 : decode cX13_readCommand 112 = .ok (.iload_n 3, 1) := by decide +kernel
theorem dX13_readCommand_113 : decode cX13_readCommand 113 = .ok (.iconst 1, 1) := by decide +kernel
theorem dX13_readCommand_114 : decode cX13_readCommand 114 = .ok (.iadd, 1) := by decide +kernel
theorem dX13_readCommand_115 : decode cX13_readCommand 115 = .ok (.aload_n 0, 1) := by decide +kernel
theorem dX13_readCommand_116 : decode cX13_readCommand 116 = .ok (.iload_n 2, 1) := by decide +kernel
theorem dX13_readCommand_117 : decode cX13_readCommand 117 = .ok (.invokevirtual 417, 3) := by decide +kernel
theorem dX13_readCommand_120 : decode cX13_readCommand 120 = .ok (.iastore, 1) := by decide +kernel
theorem dX13_readCommand_121 : decode cX13_readCommand 121 = .ok (.aload_n 0, 1) := by decide +kernel
theorem dX13_readCommand_122 : decode cX13_readCommand 122 = .ok (.getfield 41, 3) := by decide +kernel
theorem dX13_readCommand_125 : decode cX13_readCommand 125 = .ok (.iload_n 3, 1) := by decide +kernel
theorem dX13_readCommand_126 : decode cX13_readCommand 126 = .ok (.iconst 2, 1) := by decide +kernel
theorem dX13_readCommand_127 : decode cX13_readCommand 127 = .ok (.iadd, 1) := by decide +kernel
theorem dX13_readCommand_128 : decode cX13_readCommand 128 = .ok (.aload_n 0, 1) := by decide +kernel
theorem dX13_readCommand_129 : decode cX13_readCommand 129 = .ok (.iload_n 2, 1) := by decide +kernel
theorem dX13_readCommand_130 : decode cX13_readCommand 130 = .ok (.invokevirtual 420, 3) := by decide +kernel
theorem dX13_readCommand_133 : decode cX13_readCommand 133 = .ok (.iastore, 1) := by decide +kernel
theorem dX13_readCommand_134 : decode cX13_readCommand 134 = .ok (.aload_n 0, 1) := by decide +kernel
theorem dX13_readCommand_135 : decode cX13_readCommand 135 = .ok (.getfield 41, 3) := by decide +kernel
theorem dX13_readCommand_138 : decode cX13_readCommand 138 = .ok (.iload_n 3, 1) := by decide +kernel
theorem dX13_readCommand_139 : decode cX13_readCommand 139 = .ok (.iconst 3, 1) := by decide +kernel
theorem dX13_readCommand_140 : decode cX13_readCommand 140 = .ok (.iadd, 1) := by decide +kernel
theorem dX13_readCommand_141 : decode cX13_readCommand 141 = .ok (.iload_n 2, 1) := by decide +kernel
theorem dX13_readCommand_142 : decode cX13_readCommand 142 = .ok (.iconst 1, 1) := by decide +kernel
theorem dX13_readCommand_143 : decode cX13_readCommand 143 = .ok (.if_icmp .ne 13, 3) := by decide +kernel
theorem dX13_readCommand_146 : decode cX13_readCommand 146 = .ok (.aload_n 0, 1) := by decide +kernel
theorem dX13_readCommand_147 : decode cX13_readCommand 147 = .ok (.iconst 1, 1) := by decide +kernel
theorem dX13_readCommand_148 : decode cX13_readCommand 148 = .ok (.bipush 6, 2) := by decide +kernel
theorem dX13_readCommand_150 : decode cX13_readCommand 150 = .ok (.invokevirtual 369, 3) := by decide +kernel
theorem dX13_readCommand_153 : decode cX13_readCommand 153 = .ok (.goto 4, 3) := by decide +kernel
theorem dX13_readCommand_156 : decode cX13_readCommand 156 = .ok (.iconst 0, 1) := by decide +kernel
theorem dX13_readCommand_157 : decode cX13_readCommand 157 = .ok (.iastore, 1) := by decide +kernel
theorem dX13_readCommand_158 : decode cX13_readCommand 158 = .ok (.aload_n 0, 1) := by decide +kernel
theorem dX13_readCommand_159 : decode cX13_readCommand 159 = .ok (.getfield 41, 3) := by decide +kernel
theorem dX13_readCommand_162 : decode cX13_readCommand 162 = .ok (.iload_n 3, 1) := by decide +kernel
theorem dX13_readCommand_163 : decode cX13_readCommand 163 = .ok (.iconst 4, 1) := by decide +kernel
theorem dX13_readCommand_164 : decode cX13_readCommand 164 = .ok (.iadd, 1) := by decide +kernel
theorem dX13_readCommand_165 : decode cX13_readCommand 165 = .ok (.iload_n 2, 1) := by decide +kernel
theorem dX13_readCommand_166 : decode cX13_readCommand 166 = .ok (.iconst 1, 1) := by decide +kernel
theorem dX13_readCommand_167 : decode cX13_readCommand 167 = .ok (.if_icmp .ne 14, 3) := by decide +kernel
theorem dX13_readCommand_170 : decode cX13_readCommand 170 = .ok (.aload_n 0, 1) := by decide +kernel
theorem dX13_readCommand_171 : decode cX13_readCommand 171 = .ok (.iconst 1, 1) := by decide +kernel
theorem dX13_readCommand_172 : decode cX13_readCommand 172 = .ok (.sipush 500, 3) := by decide +kernel
theorem dX13_readCommand_175 : decode cX13_readCommand 175 = .ok (.invokevirtual 369, 3) := by decide +kernel
theorem dX13_readCommand_178 : decode cX13_readCommand 178 = .ok (.goto 4, 3) := by decide +kernel
theorem dX13_readCommand_181 : decode cX13_readCommand 181 = .ok (.iconst 0, 1) := by decide +kernel
theorem dX13_readCommand_182 : decode cX13_readCommand 182 = .ok (.iastore, 1) := by decide +kernel
theorem dX13_readCommand_183 : decode cX13_readCommand 183 = .ok (.aload_n 0, 1) := by decide +kernel
theorem dX13_readCommand_184 : decode cX13_readCommand 184 = .ok (.bipush 59, 2) := by decide +kernel
theorem dX13_readCommand_186 : decode cX13_readCommand 186 = .ok (.invokevirtual 372, 3) := by decide +kernel
theorem dX13_readCommand_189 : decode cX13_readCommand 189 = .ok (.return_, 1) := by decide +kernel
theorem dX13_does_0 : decode cX13_does 0 = .ok (.aload_n 0, 1) := by decide +kernel
theorem dX13_does_1 : decode cX13_does 1 = .ok (.getfield 41, 3) := by decide +kernel
theorem dX13_does_4 : decode cX13_does 4 = .ok (.iload_n 1, 1) := by decide +kernel
theorem dX13_does_5 : decode cX13_does 5 = .ok (.iconst 1, 1) := by decide +kernel
theorem dX13_does_6 : decode cX13_does 6 = .ok (.iadd, 1) := by decide +kernel
theorem dX13_does_7 : decode cX13_does 7 = .ok (.iaload, 1) := by decide +kernel
theorem dX13_does_8 : decode cX13_does 8 = .ok (.istore_n 2, 1) := by decide +kernel
theorem dX13_does_9 : decode cX13_does 9 = .ok (.aload_n 0, 1) := by decide +kernel
theorem dX13_does_10 : decode cX13_does 10 = .ok (.getfield 41, 3) := by decide +kernel
theorem dX13_does_13 : decode cX13_does 13 = .ok (.iload_n 1, 1) := by decide +kernel
theorem dX13_does_14 : decode cX13_does 14 = .ok (.iconst 2, 1) := by decide +kernel
theorem dX13_does_15 : decode cX13_does 15 = .ok (.iadd, 1) := by decide +kernel
theorem dX13_does_16 : decode cX13_does 16 = .ok (.iaload, 1) := by decide +kernel
theorem dX13_does_17 : decode cX13_does 17 = .ok (.istore_n 3, 1) := by decide +kernel
theorem dX13_does_18 : decode cX13_does 18 = .ok (.aload_n 0, 1) := by decide +kernel
theorem dX13_does_19 : decode cX13_does 19 = .ok (.getfield 41, 3) := by decide +kernel
theorem dX13_does_22 : decode cX13_does 22 = .ok (.iload_n 1, 1) := by decide +kernel
theorem dX13_does_23 : decode cX13_does 23 = .ok (.iaload, 1) := by decide +kernel
theorem dX13_does_24 : decode cX13_does 24 = .ok (.tableswitch 106 0 6 #[44, 51, 74, 81, 87, 94, 100], 44) := by decide +kernel
theorem dX13_does_68 : decode cX13_does 68 = .ok (.aload_n 0, 1) := by decide +kernel
theorem dX13_does_69 : decode cX13_does 69 = .ok (.iload_n 2, 1) := by decide +kernel
theorem dX13_does_70 : decode cX13_does 70 = .ok (.iload_n 3, 1) := by decide +kernel
theorem dX13_does_71 : decode cX13_does 71 = .ok (.invokevirtual 257, 3) := by decide +kernel
theorem dX13_does_74 : decode cX13_does 74 = .ok (.ireturn, 1) := by decide +kernel
theorem dX13_does_75 : decode cX13_does 75 = .ok (.aload_n 0, 1) := by decide +kernel
theorem dX13_does_76 : decode cX13_does 76 = .ok (.iload_n 2, 1) := by decide +kernel
theorem dX13_does_77 : decode cX13_does 77 = .ok (.iload_n 3, 1) := by decide +kernel
theorem dX13_does_78 : decode cX13_does 78 = .ok (.aload_n 0, 1) := by decide +kernel
theorem dX13_does_79 : decode cX13_does 79 = .ok (.getfield 41, 3) := by decide +kernel
theorem dX13_does_82 : decode cX13_does 82 = .ok (.iload_n 1, 1) := by decide +kernel
theorem dX13_does_83 : decode cX13_does 83 = .ok (.iconst 3, 1) := by decide +kernel
theorem dX13_does_84 : decode cX13_does 84 = .ok (.iadd, 1) := by decide +kernel
theorem dX13_does_85 : decode cX13_does 85 = .ok (.iaload, 1) := by decide +kernel
theorem dX13_does_86 : decode cX13_does 86 = .ok (.aload_n 0, 1) := by decide +kernel
theorem dX13_does_87 : decode cX13_does 87 = .ok (.getfield 41, 3) := by decide +kernel
theorem dX13_does_90 : decode cX13_does 90 = .ok (.iload_n 1, 1) := by decide +kernel
theorem dX13_does_91 : decode cX13_does 91 = .ok (.iconst 4, 1) := by decide +kernel
theorem dX13_does_92 : decode cX13_does 92 = .ok (.iadd, 1) := by decide +kernel
theorem dX13_does_93 : decode cX13_does 93 = .ok (.iaload, 1) := by decide +kernel
theorem dX13_does_94 : decode cX13_does 94 = .ok (.invokevirtual 267, 3) := by decide +kernel
theorem dX13_does_97 : decode cX13_does 97 = .ok (.ireturn, 1) := by decide +kernel
theorem dX13_does_98 : decode cX13_does 98 = .ok (.aload_n 0, 1) := by decide +kernel
theorem dX13_does_99 : decode cX13_does 99 = .ok (.iload_n 2, 1) := by decide +kernel
theorem dX13_does_100 : decode cX13_does 100 = .ok (.iload_n 3, 1) := by decide +kernel
theorem dX13_does_101 : decode cX13_does 101 = .ok (.invokevirtual 271, 3) := by decide +kernel
theorem dX13_does_104 : decode cX13_does 104 = .ok (.ireturn, 1) := by decide +kernel
theorem dX13_does_105 : decode cX13_does 105 = .ok (.aload_n 0, 1) := by decide +kernel
theorem dX13_does_106 : decode cX13_does 106 = .ok (.iload_n 2, 1) := by decide +kernel
theorem dX13_does_107 : decode cX13_does 107 = .ok (.invokevirtual 274, 3) := by decide +kernel
theorem dX13_does_110 : decode cX13_does 110 = .ok (.ireturn, 1) := by decide +kernel
theorem dX13_does_111 : decode cX13_does 111 = .ok (.aload_n 0, 1) := by decide +kernel
theorem dX13_does_112 : decode cX13_does 112 = .ok (.iload_n 2, 1) := by decide +kernel
theorem dX13_does_113 : decode cX13_does 113 = .ok (.iload_n 3, 1) := by decide +kernel
theorem dX13_does_114 : decode cX13_does 114 = .ok (.invokevirtual 277, 3) := by decide +kernel
theorem dX13_does_117 : decode cX13_does 117 = .ok (.ireturn, 1) := by decide +kernel
theorem dX13_does_118 : decode cX13_does 118 = .ok (.aload_n 0, 1) := by decide +kernel
theorem dX13_does_119 : decode cX13_does 119 = .ok (.iload_n 2, 1) := by decide +kernel
theorem dX13_does_120 : decode cX13_does 120 = .ok (.invokevirtual 280, 3) := by decide +kernel
theorem dX13_does_123 : decode cX13_does 123 = .ok (.ireturn, 1) := by decide +kernel
theorem dX13_does_124 : decode cX13_does 124 = .ok (.aload_n 0, 1) := by decide +kernel
theorem dX13_does_125 : decode cX13_does 125 = .ok (.iload_n 2, 1) := by decide +kernel
theorem dX13_does_126 : decode cX13_does 126 = .ok (.invokevirtual 283, 3) := by decide +kernel
theorem dX13_does_129 : decode cX13_does 129 = .ok (.ireturn, 1) := by decide +kernel
theorem dX13_does_130 : decode cX13_does 130 = .ok (.aload_n 0, 1) := by decide +kernel
theorem dX13_does_131 : decode cX13_does 131 = .ok (.iload_n 2, 1) := by decide +kernel
theorem dX13_does_132 : decode cX13_does 132 = .ok (.invokevirtual 286, 3) := by decide +kernel
theorem dX13_does_135 : decode cX13_does 135 = .ok (.ireturn, 1) := by decide +kernel
theorem dX13_isRepeated_0 : decode cX13_isRepeated 0 = .ok (.iconst 0, 1) := by decide +kernel
theorem dX13_isRepeated_1 : decode cX13_isRepeated 1 = .ok (.istore_n 2, 1) := by decide +kernel
theorem dX13_isRepeated_2 : decode cX13_isRepeated 2 = .ok (.iload_n 2, 1) := by decide +kernel
theorem dX13_isRepeated_3 : decode cX13_isRepeated 3 = .ok (.aload_n 0, 1) := by decide +kernel
theorem dX13_isRepeated_4 : decode cX13_isRepeated 4 = .ok (.getfield 41, 3) := by decide +kernel
theorem dX13_isRepeated_7 : decode cX13_isRepeated 7 = .ok (.iconst 5, 1) := by decide +kernel
theorem dX13_isRepeated_8 : decode cX13_isRepeated 8 = .ok (.iload_n 1, 1) := by decide +kernel
theorem dX13_isRepeated_9 : decode cX13_isRepeated 9 = .ok (.imul, 1) := by decide +kernel
theorem dX13_isRepeated_10 : decode cX13_isRepeated 10 = .ok (.iconst 1, 1) := by decide +kernel
theorem dX13_isRepeated_11 : decode cX13_isRepeated 11 = .ok (.iadd, 1) := by decide +kernel
theorem dX13_isRepeated_12 : decode cX13_isRepeated 12 = .ok (.iaload, 1) := by decide +kernel
theorem dX13_isRepeated_13 : decode cX13_isRepeated 13 = .ok (.if_icmp .ge 31, 3) := by decide +kernel
theorem dX13_isRepeated_16 : decode cX13_isRepeated 16 = .ok (.aload_n 0, 1) := by decide +kernel
theorem dX13_isRepeated_17 : decode cX13_isRepeated 17 = .ok (.iload_n 1, 1) := by decide +kernel
theorem dX13_isRepeated_18 : decode cX13_isRepeated 18 = .ok (.iconst 1, 1) := by decide +kernel
theorem dX13_isRepeated_19 : decode cX13_isRepeated 19 = .ok (.iadd, 1) := by decide +kernel
theorem dX13_isRepeated_20 : decode cX13_isRepeated 20 = .ok (.aload_n 0, 1) := by decide +kernel
theorem dX13_isRepeated_21 : decode cX13_isRepeated 21 = .ok (.getfield 41, 3) := by decide +kernel
theorem dX13_isRepeated_24 : decode cX13_isRepeated 24 = .ok (.iconst 5, 1) := by decide +kernel
theorem dX13_isRepeated_25 : decode cX13_isRepeated 25 = .ok (.iload_n 1, 1) := by decide +kernel
theorem dX13_isRepeated_26 : decode cX13_isRepeated 26 = .ok (.imul, 1) := by decide +kernel
theorem dX13_isRepeated_27 : decode cX13_isRepeated 27 = .ok (.iconst 2, 1) := by decide +kernel
theorem dX13_isRepeated_28 : decode cX13_isRepeated 28 = .ok (.iadd, 1) := by decide +kernel
theorem dX13_isRepeated_29 : decode cX13_isRepeated 29 = .ok (.iaload, 1) := by decide +kernel
theorem dX13_isRepeated_30 : decode cX13_isRepeated 30 = .ok (.invokevirtual 423, 3) := by decide +kernel
theorem dX13_isRepeated_33 : decode cX13_isRepeated 33 = .ok (.ifCond .ne 5, 3) := by decide +kernel
theorem dX13_isRepeated_36 : decode cX13_isRepeated 36 = .ok (.iconst 0, 1) := by decide +kernel
theorem dX13_isRepeated_37 : decode cX13_isRepeated 37 = .ok (.ireturn, 1) := by decide +kernel
theorem dX13_isRepeated_38 : decode cX13_isRepeated 38 = .ok (.iinc 2 1, 3) := by decide +kernel
theorem dX13_isRepeated_41 : decode cX13_isRepeated 41 = .ok (.goto (-39), 3) := by decide +kernel
theorem dX13_isRepeated_44 : decode cX13_isRepeated 44 = .ok (.iconst 1, 1) := by decide +kernel
theorem dX13_isRepeated_45 : decode cX13_isRepeated 45 = .ok (.ireturn, 1) := by decide +kernel
theorem dX13_areDone_0 : decode cX13_areDone 0 = .ok (.iload_n 1, 1) := by decide +kernel
theorem dX13_areDone_1 : decode cX13_areDone 1 = .ok (.istore_n 3, 1) := by decide +kernel
theorem dX13_areDone_2 : decode cX13_areDone 2 = .ok (.iload_n 3, 1) := by decide +kernel
theorem dX13_areDone_3 : decode cX13_areDone 3 = .ok (.iload_n 2, 1) := by decide +kernel
theorem dX13_areDone_4 : decode cX13_areDone 4 = .ok (.if_icmp .ge 97, 3) := by decide +kernel
theorem dX13_areDone_7 : decode cX13_areDone 7 = .ok (.iconst 5, 1) := by decide +kernel
theorem dX13_areDone_8 : decode cX13_areDone 8 = .ok (.iload_n 3, 1) := by decide +kernel
theorem dX13_areDone_9 : decode cX13_areDone 9 = .ok (.imul, 1) := by decide +kernel
theorem dX13_areDone_10 : decode cX13_areDone 10 = .ok (.istore 4, 2) := by decide +kernel
theorem dX13_areDone_12 : decode cX13_areDone 12 = .ok (.aload_n 0, 1) := by decide +kernel
theorem dX13_areDone_13 : decode cX13_areDone 13 = .ok (.getfield 41, 3) := by decide +kernel
theorem dX13_areDone_16 : decode cX13_areDone 16 = .ok (.iload 4, 2) := by decide +kernel
theorem dX13_areDone_18 : decode cX13_areDone 18 = .ok (.iaload, 1) := by decide +kernel
theorem dX13_areDone_19 : decode cX13_areDone 19 = .ok (.bipush 8, 2) := by decide +kernel
theorem dX13_areDone_21 : decode cX13_areDone 21 = .ok (.if_icmp .ne 7, 3) := by decide +kernel
theorem dX13_areDone_24 : decode cX13_areDone 24 = .ok (.iconst 1, 1) := by decide +kernel
theorem dX13_areDone_25 : decode cX13_areDone 25 = .ok (.goto 4, 3) := by decide +kernel
theorem dX13_areDone_28 : decode cX13_areDone 28 = .ok (.iconst 0, 1) := by decide +kernel
theorem dX13_areDone_29 : decode cX13_areDone 29 = .ok (.istore 5, 2) := by decide +kernel
theorem dX13_areDone_31 : decode cX13_areDone 31 = .ok (.iload 5, 2) := by decide +kernel
theorem dX13_areDone_33 : decode cX13_areDone 33 = .ok (.ifCond .eq 14, 3) := by decide +kernel
theorem dX13_areDone_36 : decode cX13_areDone 36 = .ok (.aload_n 0, 1) := by decide +kernel
theorem dX13_areDone_37 : decode cX13_areDone 37 = .ok (.iload_n 3, 1) := by decide +kernel
theorem dX13_areDone_38 : decode cX13_areDone 38 = .ok (.invokevirtual 426, 3) := by decide +kernel
theorem dX13_areDone_41 : decode cX13_areDone 41 = .ok (.ifCond .ne 17, 3) := by decide +kernel
theorem dX13_areDone_44 : decode cX13_areDone 44 = .ok (.goto 12, 3) := by decide +kernel
theorem dX13_areDone_47 : decode cX13_areDone 47 = .ok (.aload_n 0, 1) := by decide +kernel
theorem dX13_areDone_48 : decode cX13_areDone 48 = .ok (.iload 4, 2) := by decide +kernel
theorem dX13_areDone_50 : decode cX13_areDone 50 = .ok (.invokevirtual 429, 3) := by decide +kernel
theorem dX13_areDone_53 : decode cX13_areDone 53 = .ok (.ifCond .eq 5, 3) := by decide +kernel
theorem dX13_areDone_56 : decode cX13_areDone 56 = .ok (.iconst 0, 1) := by decide +kernel
theorem dX13_areDone_57 : decode cX13_areDone 57 = .ok (.ireturn, 1) := by decide +kernel
theorem dX13_areDone_58 : decode cX13_areDone 58 = .ok (.aload_n 0, 1) := by decide +kernel
theorem dX13_areDone_59 : decode cX13_areDone 59 = .ok (.dup, 1) := by decide +kernel
theorem dX13_areDone_60 : decode cX13_areDone 60 = .ok (.getfield 432, 3) := by decide +kernel
theorem dX13_areDone_63 : decode cX13_areDone 63 = .ok (.iload 5, 2) := by decide +kernel
theorem dX13_areDone_65 : decode cX13_areDone 65 = .ok (.ifCond .eq 7, 3) := by decide +kernel
theorem dX13_areDone_68 : decode cX13_areDone 68 = .ok (.iconst 0, 1) := by decide +kernel
theorem dX13_areDone_69 : decode cX13_areDone 69 = .ok (.goto 4, 3) := by decide +kernel
theorem dX13_areDone_72 : decode cX13_areDone 72 = .ok (.iconst 1, 1) := by decide +kernel
theorem dX13_areDone_73 : decode cX13_areDone 73 = .ok (.iadd, 1) := by decide +kernel
theorem dX13_areDone_74 : decode cX13_areDone 74 = .ok (.putfield 432, 3) := by decide +kernel
theorem dX13_areDone_77 : decode cX13_areDone 77 = .ok (.iload 5, 2) := by decide +kernel
theorem dX13_areDone_79 : decode cX13_areDone 79 = .ok (.ifCond .eq 15, 3) := by decide +kernel
theorem dX13_areDone_82 : decode cX13_areDone 82 = .ok (.aload_n 0, 1) := by decide +kernel
theorem dX13_areDone_83 : decode cX13_areDone 83 = .ok (.getfield 41, 3) := by decide +kernel
theorem dX13_areDone_86 : decode cX13_areDone 86 = .ok (.iload 4, 2) := by decide +kernel
theorem dX13_areDone_88 : decode cX13_areDone 88 = .ok (.iconst 2, 1) := by decide +kernel
theorem dX13_areDone_89 : decode cX13_areDone 89 = .ok (.iadd, 1) := by decide +kernel
theorem dX13_areDone_90 : decode cX13_areDone 90 = .ok (.iaload, 1) := by decide +kernel
theorem dX13_areDone_91 : decode cX13_areDone 91 = .ok (.goto 6, 3) := by decide +kernel
theorem dX13_areDone_94 : decode cX13_areDone 94 = .ok (.iload_n 3, 1) := by decide +kernel
theorem dX13_areDone_95 : decode cX13_areDone 95 = .ok (.iconst 1, 1) := by decide +kernel
theorem dX13_areDone_96 : decode cX13_areDone 96 = .ok (.iadd, 1) := by decide +kernel
theorem dX13_areDone_97 : decode cX13_areDone 97 = .ok (.istore_n 3, 1) := by decide +kernel
theorem dX13_areDone_98 : decode cX13_areDone 98 = .ok (.goto (-96), 3) := by decide +kernel
theorem dX13_areDone_101 : decode cX13_areDone 101 = .ok (.iconst 1, 1) := by decide +kernel
theorem dX13_areDone_102 : decode cX13_areDone 102 = .ok (.ireturn, 1) := by decide +kernel
theorem dX13_runScript_0 : decode cX13_runScript 0 = .ok (.aload_n 0, 1) := by decide +kernel
theorem dX13_runScript_1 : decode cX13_runScript 1 = .ok (.aload_n 0, 1) := by decide +kernel
theorem dX13_runScript_2 : decode cX13_runScript 2 = .ok (.iload_n 1, 1) := by decide +kernel
theorem dX13_runScript_3 : decode cX13_runScript 3 = .ok (.invokevirtual 392, 3) := by decide +kernel
theorem dX13_runScript_6 : decode cX13_runScript 6 = .ok (.invokevirtual 82, 3) := by decide +kernel
theorem dX13_runScript_9 : decode cX13_runScript 9 = .ok (.ifCond .eq 5, 3) := by decide +kernel
theorem dX13_runScript_12 : decode cX13_runScript 12 = .ok (.iconst 0, 1) := by decide +kernel
theorem dX13_runScript_13 : decode cX13_runScript 13 = .ok (.ireturn, 1) := by decide +kernel
theorem dX13_runScript_14 : decode cX13_runScript 14 = .ok (.aload_n 0, 1) := by decide +kernel
theorem dX13_runScript_15 : decode cX13_runScript 15 = .ok (.iconst 0, 1) := by decide +kernel
theorem dX13_runScript_16 : decode cX13_runScript 16 = .ok (.putfield 408, 3) := by decide +kernel
theorem dX13_runScript_19 : decode cX13_runScript 19 = .ok (.aload_n 0, 1) := by decide +kernel
theorem dX13_runScript_20 : decode cX13_runScript 20 = .ok (.iload_n 1, 1) := by decide +kernel
theorem dX13_runScript_21 : decode cX13_runScript 21 = .ok (.invokevirtual 395, 3) := by decide +kernel
theorem dX13_runScript_24 : decode cX13_runScript 24 = .ok (.aload_n 0, 1) := by decide +kernel
theorem dX13_runScript_25 : decode cX13_runScript 25 = .ok (.getfield 323, 3) := by decide +kernel
theorem dX13_runScript_28 : decode cX13_runScript 28 = .ok (.ifCond .ne 18, 3) := by decide +kernel
theorem dX13_runScript_31 : decode cX13_runScript 31 = .ok (.aload_n 0, 1) := by decide +kernel
theorem dX13_runScript_32 : decode cX13_runScript 32 = .ok (.getfield 314, 3) := by decide +kernel
theorem dX13_runScript_35 : decode cX13_runScript 35 = .ok (.ifCond .eq 11, 3) := by decide +kernel
theorem dX13_runScript_38 : decode cX13_runScript 38 = .ok (.aload_n 0, 1) := by decide +kernel
theorem dX13_runScript_39 : decode cX13_runScript 39 = .ok (.iconst 0, 1) := by decide +kernel
theorem dX13_runScript_40 : decode cX13_runScript 40 = .ok (.invokevirtual 405, 3) := by decide +kernel
theorem dX13_runScript_43 : decode cX13_runScript 43 = .ok (.goto (-19), 3) := by decide +kernel
theorem dX13_runScript_46 : decode cX13_runScript 46 = .ok (.aload_n 0, 1) := by decide +kernel
theorem dX13_runScript_47 : decode cX13_runScript 47 = .ok (.invokevirtual 401, 3) := by decide +kernel
theorem dX13_runScript_50 : decode cX13_runScript 50 = .ok (.ifCond .eq 5, 3) := by decide +kernel
theorem dX13_runScript_53 : decode cX13_runScript 53 = .ok (.iconst (-1), 1) := by decide +kernel
theorem dX13_runScript_54 : decode cX13_runScript 54 = .ok (.ireturn, 1) := by decide +kernel
theorem dX13_runScript_55 : decode cX13_runScript 55 = .ok (.aload_n 0, 1) := by decide +kernel
theorem dX13_runScript_56 : decode cX13_runScript 56 = .ok (.invokevirtual 254, 3) := by decide +kernel
theorem dX13_runScript_59 : decode cX13_runScript 59 = .ok (.aload_n 0, 1) := by decide +kernel
theorem dX13_runScript_60 : decode cX13_runScript 60 = .ok (.invokevirtual 251, 3) := by decide +kernel
theorem dX13_runScript_63 : decode cX13_runScript 63 = .ok (.aload_n 0, 1) := by decide +kernel
theorem dX13_runScript_64 : decode cX13_runScript 64 = .ok (.iconst 0, 1) := by decide +kernel
theorem dX13_runScript_65 : decode cX13_runScript 65 = .ok (.putfield 432, 3) := by decide +kernel
theorem dX13_runScript_68 : decode cX13_runScript 68 = .ok (.aload_n 0, 1) := by decide +kernel
theorem dX13_runScript_69 : decode cX13_runScript 69 = .ok (.iconst 0, 1) := by decide +kernel
theorem dX13_runScript_70 : decode cX13_runScript 70 = .ok (.aload_n 0, 1) := by decide +kernel
theorem dX13_runScript_71 : decode cX13_runScript 71 = .ok (.getfield 408, 3) := by decide +kernel
theorem dX13_runScript_74 : decode cX13_runScript 74 = .ok (.invokevirtual 423, 3) := by decide +kernel
theorem dX13_runScript_77 : decode cX13_runScript 77 = .ok (.istore_n 2, 1) := by decide +kernel
theorem dX13_runScript_78 : decode cX13_runScript 78 = .ok (.aload_n 0, 1) := by decide +kernel
theorem dX13_runScript_79 : decode cX13_runScript 79 = .ok (.getfield 432, 3) := by decide +kernel
theorem dX13_runScript_82 : decode cX13_runScript 82 = .ok (.ireturn, 1) := by decide +kernel
