theorem dL_most_0 : decode cL_most 0 = .ok (.iload_n 0, 1) := by decide +kernel
theorem dL_most_1 : decode cL_most 1 = .ok (.ldc 7, 2) := by decide +kernel
theorem dL_most_3 : decode cL_most 3 = .ok (.iand, 1) := by decide +kernel
theorem dL_most_4 : decode cL_most 4 = .ok (.iload_n 1, 1) := by decide +kernel
theorem dL_most_5 : decode cL_most 5 = .ok (.irem, 1) := by decide +kernel
theorem dL_most_6 : decode cL_most 6 = .ok (.ireturn, 1) := by decide +kernel
theorem dL_cell_0 : decode cL_cell 0 = .ok (.iload_n 1, 1) := by decide +kernel
theorem dL_cell_1 : decode cL_cell 1 = .ok (.aload_n 0, 1) := by decide +kernel
theorem dL_cell_2 : decode cL_cell 2 = .ok (.arraylength, 1) := by decide +kernel
theorem dL_cell_3 : decode cL_cell 3 = .ok (.if_icmp .ge 9, 3) := by decide +kernel
theorem dL_cell_6 : decode cL_cell 6 = .ok (.aload_n 0, 1) := by decide +kernel
theorem dL_cell_7 : decode cL_cell 7 = .ok (.iload_n 1, 1) := by decide +kernel
theorem dL_cell_8 : decode cL_cell 8 = .ok (.iaload, 1) := by decide +kernel
theorem dL_cell_9 : decode cL_cell 9 = .ok (.goto 7, 3) := by decide +kernel
theorem dL_cell_12 : decode cL_cell 12 = .ok (.bipush 37, 2) := by decide +kernel
theorem dL_cell_14 : decode cL_cell 14 = .ok (.iload_n 1, 1) := by decide +kernel
theorem dL_cell_15 : decode cL_cell 15 = .ok (.imul, 1) := by decide +kernel
theorem dL_cell_16 : decode cL_cell 16 = .ok (.ireturn, 1) := by decide +kernel
theorem dL_add_0 : decode cL_add 0 = .ok (.aload_n 1, 1) := by decide +kernel
theorem dL_add_1 : decode cL_add 1 = .ok (.aload_n 1, 1) := by decide +kernel
theorem dL_add_2 : decode cL_add 2 = .ok (.iconst 5, 1) := by decide +kernel
theorem dL_add_3 : decode cL_add 3 = .ok (.iaload, 1) := by decide +kernel
theorem dL_add_4 : decode cL_add 4 = .ok (.bipush 20, 2) := by decide +kernel
theorem dL_add_6 : decode cL_add 6 = .ok (.irem, 1) := by decide +kernel
theorem dL_add_7 : decode cL_add 7 = .ok (.iconst 4, 1) := by decide +kernel
theorem dL_add_8 : decode cL_add 8 = .ok (.idiv, 1) := by decide +kernel
theorem dL_add_9 : decode cL_add 9 = .ok (.dup2, 1) := by decide +kernel
theorem dL_add_10 : decode cL_add 10 = .ok (.iaload, 1) := by decide +kernel
theorem dL_add_11 : decode cL_add 11 = .ok (.iload_n 2, 1) := by decide +kernel
theorem dL_add_12 : decode cL_add 12 = .ok (.bipush 24, 2) := by decide +kernel
theorem dL_add_14 : decode cL_add 14 = .ok (.bipush 8, 2) := by decide +kernel
theorem dL_add_16 : decode cL_add 16 = .ok (.aload_n 1, 1) := by decide +kernel
theorem dL_add_17 : decode cL_add 17 = .ok (.iconst 5, 1) := by decide +kernel
theorem dL_add_18 : decode cL_add 18 = .ok (.iaload, 1) := by decide +kernel
theorem dL_add_19 : decode cL_add 19 = .ok (.iconst 4, 1) := by decide +kernel
theorem dL_add_20 : decode cL_add 20 = .ok (.irem, 1) := by decide +kernel
theorem dL_add_21 : decode cL_add 21 = .ok (.imul, 1) := by decide +kernel
theorem dL_add_22 : decode cL_add 22 = .ok (.isub, 1) := by decide +kernel
theorem dL_add_23 : decode cL_add 23 = .ok (.ishl, 1) := by decide +kernel
theorem dL_add_24 : decode cL_add 24 = .ok (.ior, 1) := by decide +kernel
theorem dL_add_25 : decode cL_add 25 = .ok (.iastore, 1) := by decide +kernel
theorem dL_add_26 : decode cL_add 26 = .ok (.aload_n 1, 1) := by decide +kernel
theorem dL_add_27 : decode cL_add 27 = .ok (.iconst 5, 1) := by decide +kernel
theorem dL_add_28 : decode cL_add 28 = .ok (.dup2, 1) := by decide +kernel
theorem dL_add_29 : decode cL_add 29 = .ok (.iaload, 1) := by decide +kernel
theorem dL_add_30 : decode cL_add 30 = .ok (.iconst 1, 1) := by decide +kernel
theorem dL_add_31 : decode cL_add 31 = .ok (.iadd, 1) := by decide +kernel
theorem dL_add_32 : decode cL_add 32 = .ok (.iastore, 1) := by decide +kernel
theorem dL_add_33 : decode cL_add 33 = .ok (.aload_n 1, 1) := by decide +kernel
theorem dL_add_34 : decode cL_add 34 = .ok (.iconst 5, 1) := by decide +kernel
theorem dL_add_35 : decode cL_add 35 = .ok (.iaload, 1) := by decide +kernel
theorem dL_add_36 : decode cL_add 36 = .ok (.bipush 20, 2) := by decide +kernel
theorem dL_add_38 : decode cL_add 38 = .ok (.irem, 1) := by decide +kernel
theorem dL_add_39 : decode cL_add 39 = .ok (.ifCond .eq 4, 3) := by decide +kernel
theorem dL_add_42 : decode cL_add 42 = .ok (.return_, 1) := by decide +kernel
theorem dL_add_43 : decode cL_add 43 = .ok (.aload_n 0, 1) := by decide +kernel
theorem dL_add_44 : decode cL_add 44 = .ok (.aload_n 1, 1) := by decide +kernel
theorem dL_add_45 : decode cL_add 45 = .ok (.iconst 0, 1) := by decide +kernel
theorem dL_add_46 : decode cL_add 46 = .ok (.iaload, 1) := by decide +kernel
theorem dL_add_47 : decode cL_add 47 = .ok (.aload_n 1, 1) := by decide +kernel
theorem dL_add_48 : decode cL_add 48 = .ok (.iconst 1, 1) := by decide +kernel
theorem dL_add_49 : decode cL_add 49 = .ok (.iaload, 1) := by decide +kernel
theorem dL_add_50 : decode cL_add 50 = .ok (.aload_n 1, 1) := by decide +kernel
theorem dL_add_51 : decode cL_add 51 = .ok (.iconst 2, 1) := by decide +kernel
theorem dL_add_52 : decode cL_add 52 = .ok (.iaload, 1) := by decide +kernel
theorem dL_add_53 : decode cL_add 53 = .ok (.aload_n 1, 1) := by decide +kernel
theorem dL_add_54 : decode cL_add 54 = .ok (.iconst 3, 1) := by decide +kernel
theorem dL_add_55 : decode cL_add 55 = .ok (.iaload, 1) := by decide +kernel
theorem dL_add_56 : decode cL_add 56 = .ok (.aload_n 1, 1) := by decide +kernel
theorem dL_add_57 : decode cL_add 57 = .ok (.iconst 4, 1) := by decide +kernel
theorem dL_add_58 : decode cL_add 58 = .ok (.iaload, 1) := by decide +kernel
theorem dL_add_59 : decode cL_add 59 = .ok (.invokevirtual 8, 3) := by decide +kernel
theorem dL_add_62 : decode cL_add 62 = .ok (.pop, 1) := by decide +kernel
theorem dL_add_63 : decode cL_add 63 = .ok (.iconst 0, 1) := by decide +kernel
theorem dL_add_64 : decode cL_add 64 = .ok (.istore_n 3, 1) := by decide +kernel
theorem dL_add_65 : decode cL_add 65 = .ok (.iload_n 3, 1) := by decide +kernel
theorem dL_add_66 : decode cL_add 66 = .ok (.iconst 5, 1) := by decide +kernel
theorem dL_add_67 : decode cL_add 67 = .ok (.if_icmp .ge 13, 3) := by decide +kernel
theorem dL_add_70 : decode cL_add 70 = .ok (.aload_n 1, 1) := by decide +kernel
theorem dL_add_71 : decode cL_add 71 = .ok (.iload_n 3, 1) := by decide +kernel
theorem dL_add_72 : decode cL_add 72 = .ok (.iconst 0, 1) := by decide +kernel
theorem dL_add_73 : decode cL_add 73 = .ok (.iastore, 1) := by decide +kernel
theorem dL_add_74 : decode cL_add 74 = .ok (.iinc 3 1, 3) := by decide +kernel
theorem dL_add_77 : decode cL_add 77 = .ok (.goto (-12), 3) := by decide +kernel
theorem dL_add_80 : decode cL_add 80 = .ok (.return_, 1) := by decide +kernel
theorem dL_say_0 : decode cL_say 0 = .ok (.iconst 0, 1) := by decide +kernel
theorem dL_say_1 : decode cL_say 1 = .ok (.istore_n 3, 1) := by decide +kernel
theorem dL_say_2 : decode cL_say 2 = .ok (.iload_n 3, 1) := by decide +kernel
theorem dL_say_3 : decode cL_say 3 = .ok (.aload_n 2, 1) := by decide +kernel
theorem dL_say_4 : decode cL_say 4 = .ok (.invokevirtual 14, 3) := by decide +kernel
theorem dL_say_7 : decode cL_say 7 = .ok (.if_icmp .ge 19, 3) := by decide +kernel
theorem dL_say_10 : decode cL_say 10 = .ok (.aload_n 0, 1) := by decide +kernel
theorem dL_say_11 : decode cL_say 11 = .ok (.aload_n 1, 1) := by decide +kernel
theorem dL_say_12 : decode cL_say 12 = .ok (.aload_n 2, 1) := by decide +kernel
theorem dL_say_13 : decode cL_say 13 = .ok (.iload_n 3, 1) := by decide +kernel
theorem dL_say_14 : decode cL_say 14 = .ok (.invokevirtual 20, 3) := by decide +kernel
theorem dL_say_17 : decode cL_say 17 = .ok (.invokestatic 24, 3) := by decide +kernel
theorem dL_say_20 : decode cL_say 20 = .ok (.iinc 3 1, 3) := by decide +kernel
theorem dL_say_23 : decode cL_say 23 = .ok (.goto (-21), 3) := by decide +kernel
theorem dL_say_26 : decode cL_say 26 = .ok (.return_, 1) := by decide +kernel
theorem dL_end_0 : decode cL_end 0 = .ok (.aload_n 1, 1) := by decide +kernel
theorem dL_end_1 : decode cL_end 1 = .ok (.iconst 5, 1) := by decide +kernel
theorem dL_end_2 : decode cL_end 2 = .ok (.iaload, 1) := by decide +kernel
theorem dL_end_3 : decode cL_end 3 = .ok (.istore_n 2, 1) := by decide +kernel
theorem dL_end_4 : decode cL_end 4 = .ok (.aload_n 1, 1) := by decide +kernel
theorem dL_end_5 : decode cL_end 5 = .ok (.iconst 5, 1) := by decide +kernel
theorem dL_end_6 : decode cL_end 6 = .ok (.iaload, 1) := by decide +kernel
theorem dL_end_7 : decode cL_end 7 = .ok (.bipush 20, 2) := by decide +kernel
theorem dL_end_9 : decode cL_end 9 = .ok (.irem, 1) := by decide +kernel
theorem dL_end_10 : decode cL_end 10 = .ok (.ifCond .eq 13, 3) := by decide +kernel
theorem dL_end_13 : decode cL_end 13 = .ok (.aload_n 0, 1) := by decide +kernel
theorem dL_end_14 : decode cL_end 14 = .ok (.aload_n 1, 1) := by decide +kernel
theorem dL_end_15 : decode cL_end 15 = .ok (.bipush 32, 2) := by decide +kernel
theorem dL_end_17 : decode cL_end 17 = .ok (.invokestatic 24, 3) := by decide +kernel
theorem dL_end_20 : decode cL_end 20 = .ok (.goto (-16), 3) := by decide +kernel
theorem dL_end_23 : decode cL_end 23 = .ok (.aload_n 1, 1) := by decide +kernel
theorem dL_end_24 : decode cL_end 24 = .ok (.iconst 5, 1) := by decide +kernel
theorem dL_end_25 : decode cL_end 25 = .ok (.iconst 0, 1) := by decide +kernel
theorem dL_end_26 : decode cL_end 26 = .ok (.iastore, 1) := by decide +kernel
theorem dL_end_27 : decode cL_end 27 = .ok (.iload_n 2, 1) := by decide +kernel
theorem dL_end_28 : decode cL_end 28 = .ok (.ireturn, 1) := by decide +kernel
theorem dL_all_0 : decode cL_all 0 = .ok (.aload_n 0, 1) := by decide +kernel
theorem dL_all_1 : decode cL_all 1 = .ok (.invokevirtual 30, 3) := by decide +kernel
theorem dL_all_4 : decode cL_all 4 = .ok (.istore_n 1, 1) := by decide +kernel
theorem dL_all_5 : decode cL_all 5 = .ok (.aload_n 0, 1) := by decide +kernel
theorem dL_all_6 : decode cL_all 6 = .ok (.invokevirtual 33, 3) := by decide +kernel
theorem dL_all_9 : decode cL_all 9 = .ok (.istore_n 2, 1) := by decide +kernel
theorem dL_all_10 : decode cL_all 10 = .ok (.aload_n 0, 1) := by decide +kernel
theorem dL_all_11 : decode cL_all 11 = .ok (.invokevirtual 36, 3) := by decide +kernel
theorem dL_all_14 : decode cL_all 14 = .ok (.istore_n 3, 1) := by decide +kernel
theorem dL_all_15 : decode cL_all 15 = .ok (.iconst 5, 1) := by decide +kernel
theorem dL_all_16 : decode cL_all 16 = .ok (.bipush 7, 2) := by decide +kernel
theorem dL_all_18 : decode cL_all 18 = .ok (.iload_n 1, 1) := by decide +kernel
theorem dL_all_19 : decode cL_all 19 = .ok (.imul, 1) := by decide +kernel
theorem dL_all_20 : decode cL_all 20 = .ok (.iadd, 1) := by decide +kernel
theorem dL_all_21 : decode cL_all 21 = .ok (.iconst 4, 1) := by decide +kernel
theorem dL_all_22 : decode cL_all 22 = .ok (.iload_n 2, 1) := by decide +kernel
theorem dL_all_23 : decode cL_all 23 = .ok (.imul, 1) := by decide +kernel
theorem dL_all_24 : decode cL_all 24 = .ok (.iadd, 1) := by decide +kernel
theorem dL_all_25 : decode cL_all 25 = .ok (.iload_n 3, 1) := by decide +kernel
theorem dL_all_26 : decode cL_all 26 = .ok (.iadd, 1) := by decide +kernel
theorem dL_all_27 : decode cL_all 27 = .ok (.newarray .int, 2) := by decide +kernel
theorem dL_all_29 : decode cL_all 29 = .ok (.astore 4, 2) := by decide +kernel
theorem dL_all_31 : decode cL_all 31 = .ok (.iconst 0, 1) := by decide +kernel
theorem dL_all_32 : decode cL_all 32 = .ok (.istore 5, 2) := by decide +kernel
theorem dL_all_34 : decode cL_all 34 = .ok (.aload 4, 2) := by decide +kernel
theorem dL_all_36 : decode cL_all 36 = .ok (.iload 5, 2) := by decide +kernel
theorem dL_all_38 : decode cL_all 38 = .ok (.iinc 5 1, 3) := by decide +kernel
theorem dL_all_41 : decode cL_all 41 = .ok (.aload_n 0, 1) := by decide +kernel
theorem dL_all_42 : decode cL_all 42 = .ok (.invokevirtual 39, 3) := by decide +kernel
theorem dL_all_45 : decode cL_all 45 = .ok (.iastore, 1) := by decide +kernel
theorem dL_all_46 : decode cL_all 46 = .ok (.aload 4, 2) := by decide +kernel
theorem dL_all_48 : decode cL_all 48 = .ok (.iload 5, 2) := by decide +kernel
theorem dL_all_50 : decode cL_all 50 = .ok (.iinc 5 1, 3) := by decide +kernel
theorem dL_all_53 : decode cL_all 53 = .ok (.iload_n 2, 1) := by decide +kernel
theorem dL_all_54 : decode cL_all 54 = .ok (.iastore, 1) := by decide +kernel
theorem dL_all_55 : decode cL_all 55 = .ok (.aload 4, 2) := by decide +kernel
theorem dL_all_57 : decode cL_all 57 = .ok (.iload 5, 2) := by decide +kernel
theorem dL_all_59 : decode cL_all 59 = .ok (.iinc 5 1, 3) := by decide +kernel
theorem dL_all_62 : decode cL_all 62 = .ok (.aload_n 0, 1) := by decide +kernel
theorem dL_all_63 : decode cL_all 63 = .ok (.invokevirtual 42, 3) := by decide +kernel
theorem dL_all_66 : decode cL_all 66 = .ok (.iastore, 1) := by decide +kernel
theorem dL_all_67 : decode cL_all 67 = .ok (.aload 4, 2) := by decide +kernel
theorem dL_all_69 : decode cL_all 69 = .ok (.iload 5, 2) := by decide +kernel
theorem dL_all_71 : decode cL_all 71 = .ok (.iinc 5 1, 3) := by decide +kernel
theorem dL_all_74 : decode cL_all 74 = .ok (.aload_n 0, 1) := by decide +kernel
theorem dL_all_75 : decode cL_all 75 = .ok (.invokevirtual 45, 3) := by decide +kernel
theorem dL_all_78 : decode cL_all 78 = .ok (.iastore, 1) := by decide +kernel
theorem dL_all_79 : decode cL_all 79 = .ok (.aload 4, 2) := by decide +kernel
theorem dL_all_81 : decode cL_all 81 = .ok (.iload 5, 2) := by decide +kernel
theorem dL_all_83 : decode cL_all 83 = .ok (.iinc 5 1, 3) := by decide +kernel
theorem dL_all_86 : decode cL_all 86 = .ok (.aload_n 0, 1) := by decide +kernel
theorem dL_all_87 : decode cL_all 87 = .ok (.invokevirtual 48, 3) := by decide +kernel
theorem dL_all_90 : decode cL_all 90 = .ok (.iastore, 1) := by decide +kernel
theorem dL_all_91 : decode cL_all 91 = .ok (.iconst 0, 1) := by decide +kernel
theorem dL_all_92 : decode cL_all 92 = .ok (.istore 6, 2) := by decide +kernel
theorem dL_all_94 : decode cL_all 94 = .ok (.iload 6, 2) := by decide +kernel
theorem dL_all_96 : decode cL_all 96 = .ok (.iload_n 1, 1) := by decide +kernel
theorem dL_all_97 : decode cL_all 97 = .ok (.if_icmp .ge 108, 3) := by decide +kernel
theorem dL_all_100 : decode cL_all 100 = .ok (.aload 4, 2) := by decide +kernel
theorem dL_all_102 : decode cL_all 102 = .ok (.iload 5, 2) := by decide +kernel
theorem dL_all_104 : decode cL_all 104 = .ok (.iinc 5 1, 3) := by decide +kernel
theorem dL_all_107 : decode cL_all 107 = .ok (.aload_n 0, 1) := by decide +kernel
theorem dL_all_108 : decode cL_all 108 = .ok (.iload 6, 2) := by decide +kernel
theorem dL_all_110 : decode cL_all 110 = .ok (.invokevirtual 51, 3) := by decide +kernel
theorem dL_all_113 : decode cL_all 113 = .ok (.iastore, 1) := by decide +kernel
theorem dL_all_114 : decode cL_all 114 = .ok (.aload 4, 2) := by decide +kernel
theorem dL_all_116 : decode cL_all 116 = .ok (.iload 5, 2) := by decide +kernel
theorem dL_all_118 : decode cL_all 118 = .ok (.iinc 5 1, 3) := by decide +kernel
theorem dL_all_121 : decode cL_all 121 = .ok (.aload_n 0, 1) := by decide +kernel
theorem dL_all_122 : decode cL_all 122 = .ok (.iload 6, 2) := by decide +kernel
theorem dL_all_124 : decode cL_all 124 = .ok (.invokevirtual 55, 3) := by decide +kernel
theorem dL_all_127 : decode cL_all 127 = .ok (.iastore, 1) := by decide +kernel
theorem dL_all_128 : decode cL_all 128 = .ok (.aload 4, 2) := by decide +kernel
theorem dL_all_130 : decode cL_all 130 = .ok (.iload 5, 2) := by decide +kernel
theorem dL_all_132 : decode cL_all 132 = .ok (.iinc 5 1, 3) := by decide +kernel
theorem dL_all_135 : decode cL_all 135 = .ok (.aload_n 0, 1) := by decide +kernel
theorem dL_all_136 : decode cL_all 136 = .ok (.iload 6, 2) := by decide +kernel
theorem dL_all_138 : decode cL_all 138 = .ok (.invokevirtual 58, 3) := by decide +kernel
theorem dL_all_141 : decode cL_all 141 = .ok (.iastore, 1) := by decide +kernel
theorem dL_all_142 : decode cL_all 142 = .ok (.aload 4, 2) := by decide +kernel
theorem dL_all_144 : decode cL_all 144 = .ok (.iload 5, 2) := by decide +kernel
theorem dL_all_146 : decode cL_all 146 = .ok (.iinc 5 1, 3) := by decide +kernel
theorem dL_all_149 : decode cL_all 149 = .ok (.aload_n 0, 1) := by decide +kernel
theorem dL_all_150 : decode cL_all 150 = .ok (.iload 6, 2) := by decide +kernel
theorem dL_all_152 : decode cL_all 152 = .ok (.invokevirtual 61, 3) := by decide +kernel
theorem dL_all_155 : decode cL_all 155 = .ok (.iastore, 1) := by decide +kernel
theorem dL_all_156 : decode cL_all 156 = .ok (.aload 4, 2) := by decide +kernel
theorem dL_all_158 : decode cL_all 158 = .ok (.iload 5, 2) := by decide +kernel
theorem dL_all_160 : decode cL_all 160 = .ok (.iinc 5 1, 3) := by decide +kernel
theorem dL_all_163 : decode cL_all 163 = .ok (.aload_n 0, 1) := by decide +kernel
theorem dL_all_164 : decode cL_all 164 = .ok (.iload 6, 2) := by decide +kernel
theorem dL_all_166 : decode cL_all 166 = .ok (.invokevirtual 64, 3) := by decide +kernel
theorem dL_all_169 : decode cL_all 169 = .ok (.iastore, 1) := by decide +kernel
theorem dL_all_170 : decode cL_all 170 = .ok (.aload 4, 2) := by decide +kernel
theorem dL_all_172 : decode cL_all 172 = .ok (.iload 5, 2) := by decide +kernel
theorem dL_all_174 : decode cL_all 174 = .ok (.iinc 5 1, 3) := by decide +kernel
theorem dL_all_177 : decode cL_all 177 = .ok (.aload_n 0, 1) := by decide +kernel
theorem dL_all_178 : decode cL_all 178 = .ok (.iload 6, 2) := by decide +kernel
theorem dL_all_180 : decode cL_all 180 = .ok (.invokevirtual 67, 3) := by decide +kernel
theorem dL_all_183 : decode cL_all 183 = .ok (.iastore, 1) := by decide +kernel
theorem dL_all_184 : decode cL_all 184 = .ok (.aload 4, 2) := by decide +kernel
theorem dL_all_186 : decode cL_all 186 = .ok (.iload 5, 2) := by decide +kernel
theorem dL_all_188 : decode cL_all 188 = .ok (.iinc 5 1, 3) := by decide +kernel
theorem dL_all_191 : decode cL_all 191 = .ok (.aload_n 0, 1) := by decide +kernel
theorem dL_all_192 : decode cL_all 192 = .ok (.iload 6, 2) := by decide +kernel
theorem dL_all_194 : decode cL_all 194 = .ok (.iconst 0, 1) := by decide +kernel
theorem dL_all_195 : decode cL_all 195 = .ok (.invokevirtual 70, 3) := by decide +kernel
theorem dL_all_198 : decode cL_all 198 = .ok (.iastore, 1) := by decide +kernel
theorem dL_all_199 : decode cL_all 199 = .ok (.iinc 6 1, 3) := by decide +kernel
theorem dL_all_202 : decode cL_all 202 = .ok (.goto (-108), 3) := by decide +kernel
theorem dL_all_205 : decode cL_all 205 = .ok (.iconst 0, 1) := by decide +kernel
theorem dL_all_206 : decode cL_all 206 = .ok (.istore 6, 2) := by decide +kernel
theorem dL_all_208 : decode cL_all 208 = .ok (.iload 6, 2) := by decide +kernel
theorem dL_all_210 : decode cL_all 210 = .ok (.iload_n 2, 1) := by decide +kernel
theorem dL_all_211 : decode cL_all 211 = .ok (.if_icmp .ge 99, 3) := by decide +kernel
theorem dL_all_214 : decode cL_all 214 = .ok (.aload 4, 2) := by decide +kernel
theorem dL_all_216 : decode cL_all 216 = .ok (.iload 5, 2) := by decide +kernel
theorem dL_all_218 : decode cL_all 218 = .ok (.iinc 5 1, 3) := by decide +kernel
theorem dL_all_221 : decode cL_all 221 = .ok (.aload_n 0, 1) := by decide +kernel
theorem dL_all_222 : decode cL_all 222 = .ok (.iload 6, 2) := by decide +kernel
theorem dL_all_224 : decode cL_all 224 = .ok (.invokevirtual 74, 3) := by decide +kernel
theorem dL_all_227 : decode cL_all 227 = .ok (.iastore, 1) := by decide +kernel
theorem dL_all_228 : decode cL_all 228 = .ok (.aload 4, 2) := by decide +kernel
theorem dL_all_230 : decode cL_all 230 = .ok (.iload 5, 2) := by decide +kernel
theorem dL_all_232 : decode cL_all 232 = .ok (.iinc 5 1, 3) := by decide +kernel
theorem dL_all_235 : decode cL_all 235 = .ok (.aload_n 0, 1) := by decide +kernel
theorem dL_all_236 : decode cL_all 236 = .ok (.iload 6, 2) := by decide +kernel
theorem dL_all_238 : decode cL_all 238 = .ok (.invokevirtual 77, 3) := by decide +kernel
theorem dL_all_241 : decode cL_all 241 = .ok (.iastore, 1) := by decide +kernel
theorem dL_all_242 : decode cL_all 242 = .ok (.aload 4, 2) := by decide +kernel
theorem dL_all_244 : decode cL_all 244 = .ok (.iload 5, 2) := by decide +kernel
theorem dL_all_246 : decode cL_all 246 = .ok (.iinc 5 1, 3) := by decide +kernel
theorem dL_all_249 : decode cL_all 249 = .ok (.aload_n 0, 1) := by decide +kernel
theorem dL_all_250 : decode cL_all 250 = .ok (.iload 6, 2) := by decide +kernel
theorem dL_all_252 : decode cL_all 252 = .ok (.invokevirtual 80, 3) := by decide +kernel
theorem dL_all_255 : decode cL_all 255 = .ok (.iastore, 1) := by decide +kernel
theorem dL_all_256 : decode cL_all 256 = .ok (.aload 4, 2) := by decide +kernel
theorem dL_all_258 : decode cL_all 258 = .ok (.iload 5, 2) := by decide +kernel
theorem dL_all_260 : decode cL_all 260 = .ok (.iinc 5 1, 3) := by decide +kernel
theorem dL_all_263 : decode cL_all 263 = .ok (.aload_n 0, 1) := by decide +kernel
theorem dL_all_264 : decode cL_all 264 = .ok (.iload 6, 2) := by decide +kernel
theorem dL_all_266 : decode cL_all 266 = .ok (.invokevirtual 83, 3) := by decide +kernel
theorem dL_all_269 : decode cL_all 269 = .ok (.ifCond .eq 7, 3) := by decide +kernel
theorem dL_all_272 : decode cL_all 272 = .ok (.iconst 0, 1) := by decide +kernel
theorem dL_all_273 : decode cL_all 273 = .ok (.goto 30, 3) := by decide +kernel
theorem dL_all_276 : decode cL_all 276 = .ok (.aload_n 0, 1) := by decide +kernel
theorem dL_all_277 : decode cL_all 277 = .ok (.iload 6, 2) := by decide +kernel
theorem dL_all_279 : decode cL_all 279 = .ok (.invokevirtual 87, 3) := by decide +kernel
theorem dL_all_282 : decode cL_all 282 = .ok (.ifCond .eq 7, 3) := by decide +kernel
theorem dL_all_285 : decode cL_all 285 = .ok (.iconst 1, 1) := by decide +kernel
theorem dL_all_286 : decode cL_all 286 = .ok (.goto 17, 3) := by decide +kernel
theorem dL_all_289 : decode cL_all 289 = .ok (.aload_n 0, 1) := by decide +kernel
theorem dL_all_290 : decode cL_all 290 = .ok (.iload 6, 2) := by decide +kernel
theorem dL_all_292 : decode cL_all 292 = .ok (.invokevirtual 90, 3) := by decide +kernel
theorem dL_all_295 : decode cL_all 295 = .ok (.ifCond .eq 7, 3) := by decide +kernel
theorem dL_all_298 : decode cL_all 298 = .ok (.iconst 2, 1) := by decide +kernel
theorem dL_all_299 : decode cL_all 299 = .ok (.goto 4, 3) := by decide +kernel
theorem dL_all_302 : decode cL_all 302 = .ok (.iconst 3, 1) := by decide +kernel
theorem dL_all_303 : decode cL_all 303 = .ok (.iastore, 1) := by decide +kernel
theorem dL_all_304 : decode cL_all 304 = .ok (.iinc 6 1, 3) := by decide +kernel
theorem dL_all_307 : decode cL_all 307 = .ok (.goto (-99), 3) := by decide +kernel
theorem dL_all_310 : decode cL_all 310 = .ok (.iconst 0, 1) := by decide +kernel
theorem dL_all_311 : decode cL_all 311 = .ok (.istore 6, 2) := by decide +kernel
theorem dL_all_313 : decode cL_all 313 = .ok (.iload 6, 2) := by decide +kernel
theorem dL_all_315 : decode cL_all 315 = .ok (.iload_n 3, 1) := by decide +kernel
theorem dL_all_316 : decode cL_all 316 = .ok (.if_icmp .ge 23, 3) := by decide +kernel
theorem dL_all_319 : decode cL_all 319 = .ok (.aload 4, 2) := by decide +kernel
theorem dL_all_321 : decode cL_all 321 = .ok (.iload 5, 2) := by decide +kernel
theorem dL_all_323 : decode cL_all 323 = .ok (.iinc 5 1, 3) := by decide +kernel
theorem dL_all_326 : decode cL_all 326 = .ok (.aload_n 0, 1) := by decide +kernel
theorem dL_all_327 : decode cL_all 327 = .ok (.iload 6, 2) := by decide +kernel
theorem dL_all_329 : decode cL_all 329 = .ok (.invokevirtual 93, 3) := by decide +kernel
theorem dL_all_332 : decode cL_all 332 = .ok (.iastore, 1) := by decide +kernel
theorem dL_all_333 : decode cL_all 333 = .ok (.iinc 6 1, 3) := by decide +kernel
theorem dL_all_336 : decode cL_all 336 = .ok (.goto (-23), 3) := by decide +kernel
theorem dL_all_339 : decode cL_all 339 = .ok (.aload 4, 2) := by decide +kernel
theorem dL_all_341 : decode cL_all 341 = .ok (.areturn, 1) := by decide +kernel
theorem dL_alike_0 : decode cL_alike 0 = .ok (.aload_n 0, 1) := by decide +kernel
theorem dL_alike_1 : decode cL_alike 1 = .ok (.arraylength, 1) := by decide +kernel
theorem dL_alike_2 : decode cL_alike 2 = .ok (.aload_n 1, 1) := by decide +kernel
theorem dL_alike_3 : decode cL_alike 3 = .ok (.arraylength, 1) := by decide +kernel
theorem dL_alike_4 : decode cL_alike 4 = .ok (.if_icmp .eq 5, 3) := by decide +kernel
theorem dL_alike_7 : decode cL_alike 7 = .ok (.iconst 0, 1) := by decide +kernel
theorem dL_alike_8 : decode cL_alike 8 = .ok (.ireturn, 1) := by decide +kernel
theorem dL_alike_9 : decode cL_alike 9 = .ok (.iconst 0, 1) := by decide +kernel
theorem dL_alike_10 : decode cL_alike 10 = .ok (.istore_n 2, 1) := by decide +kernel
theorem dL_alike_11 : decode cL_alike 11 = .ok (.iload_n 2, 1) := by decide +kernel
theorem dL_alike_12 : decode cL_alike 12 = .ok (.aload_n 0, 1) := by decide +kernel
theorem dL_alike_13 : decode cL_alike 13 = .ok (.arraylength, 1) := by decide +kernel
theorem dL_alike_14 : decode cL_alike 14 = .ok (.if_icmp .ge 20, 3) := by decide +kernel
theorem dL_alike_17 : decode cL_alike 17 = .ok (.aload_n 0, 1) := by decide +kernel
theorem dL_alike_18 : decode cL_alike 18 = .ok (.iload_n 2, 1) := by decide +kernel
theorem dL_alike_19 : decode cL_alike 19 = .ok (.iaload, 1) := by decide +kernel
theorem dL_alike_20 : decode cL_alike 20 = .ok (.aload_n 1, 1) := by decide +kernel
theorem dL_alike_21 : decode cL_alike 21 = .ok (.iload_n 2, 1) := by decide +kernel
theorem dL_alike_22 : decode cL_alike 22 = .ok (.iaload, 1) := by decide +kernel
theorem dL_alike_23 : decode cL_alike 23 = .ok (.if_icmp .eq 5, 3) := by decide +kernel
theorem dL_alike_26 : decode cL_alike 26 = .ok (.iconst 0, 1) := by decide +kernel
theorem dL_alike_27 : decode cL_alike 27 = .ok (.ireturn, 1) := by decide +kernel
theorem dL_alike_28 : decode cL_alike 28 = .ok (.iinc 2 1, 3) := by decide +kernel
theorem dL_alike_31 : decode cL_alike 31 = .ok (.goto (-20), 3) := by decide +kernel
theorem dL_alike_34 : decode cL_alike 34 = .ok (.iconst 1, 1) := by decide +kernel
theorem dL_alike_35 : decode cL_alike 35 = .ok (.ireturn, 1) := by decide +kernel
theorem dL_pairs_0 : decode cL_pairs 0 = .ok (.iconst 0, 1) := by decide +kernel
theorem dL_pairs_1 : decode cL_pairs 1 = .ok (.istore_n 1, 1) := by decide +kernel
theorem dL_pairs_2 : decode cL_pairs 2 = .ok (.iconst 0, 1) := by decide +kernel
theorem dL_pairs_3 : decode cL_pairs 3 = .ok (.istore_n 2, 1) := by decide +kernel
theorem dL_pairs_4 : decode cL_pairs 4 = .ok (.iload_n 2, 1) := by decide +kernel
theorem dL_pairs_5 : decode cL_pairs 5 = .ok (.aload_n 0, 1) := by decide +kernel
theorem dL_pairs_6 : decode cL_pairs 6 = .ok (.invokevirtual 30, 3) := by decide +kernel
theorem dL_pairs_9 : decode cL_pairs 9 = .ok (.if_icmp .ge 23, 3) := by decide +kernel
theorem dL_pairs_12 : decode cL_pairs 12 = .ok (.iload_n 1, 1) := by decide +kernel
theorem dL_pairs_13 : decode cL_pairs 13 = .ok (.aload_n 0, 1) := by decide +kernel
theorem dL_pairs_14 : decode cL_pairs 14 = .ok (.iload_n 2, 1) := by decide +kernel
theorem dL_pairs_15 : decode cL_pairs 15 = .ok (.invokevirtual 64, 3) := by decide +kernel
theorem dL_pairs_18 : decode cL_pairs 18 = .ok (.aload_n 0, 1) := by decide +kernel
theorem dL_pairs_19 : decode cL_pairs 19 = .ok (.iload_n 2, 1) := by decide +kernel
theorem dL_pairs_20 : decode cL_pairs 20 = .ok (.invokevirtual 67, 3) := by decide +kernel
theorem dL_pairs_23 : decode cL_pairs 23 = .ok (.iadd, 1) := by decide +kernel
theorem dL_pairs_24 : decode cL_pairs 24 = .ok (.iadd, 1) := by decide +kernel
theorem dL_pairs_25 : decode cL_pairs 25 = .ok (.istore_n 1, 1) := by decide +kernel
theorem dL_pairs_26 : decode cL_pairs 26 = .ok (.iinc 2 1, 3) := by decide +kernel
theorem dL_pairs_29 : decode cL_pairs 29 = .ok (.goto (-25), 3) := by decide +kernel
theorem dL_pairs_32 : decode cL_pairs 32 = .ok (.iconst 0, 1) := by decide +kernel
theorem dL_pairs_33 : decode cL_pairs 33 = .ok (.istore_n 2, 1) := by decide +kernel
theorem dL_pairs_34 : decode cL_pairs 34 = .ok (.iload_n 2, 1) := by decide +kernel
theorem dL_pairs_35 : decode cL_pairs 35 = .ok (.aload_n 0, 1) := by decide +kernel
theorem dL_pairs_36 : decode cL_pairs 36 = .ok (.invokevirtual 36, 3) := by decide +kernel
theorem dL_pairs_39 : decode cL_pairs 39 = .ok (.if_icmp .ge 17, 3) := by decide +kernel
theorem dL_pairs_42 : decode cL_pairs 42 = .ok (.iload_n 1, 1) := by decide +kernel
theorem dL_pairs_43 : decode cL_pairs 43 = .ok (.aload_n 0, 1) := by decide +kernel
theorem dL_pairs_44 : decode cL_pairs 44 = .ok (.iload_n 2, 1) := by decide +kernel
theorem dL_pairs_45 : decode cL_pairs 45 = .ok (.invokevirtual 93, 3) := by decide +kernel
theorem dL_pairs_48 : decode cL_pairs 48 = .ok (.iadd, 1) := by decide +kernel
theorem dL_pairs_49 : decode cL_pairs 49 = .ok (.istore_n 1, 1) := by decide +kernel
theorem dL_pairs_50 : decode cL_pairs 50 = .ok (.iinc 2 1, 3) := by decide +kernel
theorem dL_pairs_53 : decode cL_pairs 53 = .ok (.goto (-19), 3) := by decide +kernel
theorem dL_pairs_56 : decode cL_pairs 56 = .ok (.iload_n 1, 1) := by decide +kernel
theorem dL_pairs_57 : decode cL_pairs 57 = .ok (.ireturn, 1) := by decide +kernel
theorem dL_isCanal_0 : decode cL_isCanal 0 = .ok (.iconst 0, 1) := by decide +kernel
theorem dL_isCanal_1 : decode cL_isCanal 1 = .ok (.istore_n 1, 1) := by decide +kernel
theorem dL_isCanal_2 : decode cL_isCanal 2 = .ok (.iconst 0, 1) := by decide +kernel
theorem dL_isCanal_3 : decode cL_isCanal 3 = .ok (.istore_n 2, 1) := by decide +kernel
theorem dL_isCanal_4 : decode cL_isCanal 4 = .ok (.iconst 0, 1) := by decide +kernel
theorem dL_isCanal_5 : decode cL_isCanal 5 = .ok (.istore_n 3, 1) := by decide +kernel
theorem dL_isCanal_6 : decode cL_isCanal 6 = .ok (.iconst 0, 1) := by decide +kernel
theorem dL_isCanal_7 : decode cL_isCanal 7 = .ok (.istore 4, 2) := by decide +kernel
theorem dL_isCanal_9 : decode cL_isCanal 9 = .ok (.iload 4, 2) := by decide +kernel
theorem dL_isCanal_11 : decode cL_isCanal 11 = .ok (.aload_n 0, 1) := by decide +kernel
theorem dL_isCanal_12 : decode cL_isCanal 12 = .ok (.invokevirtual 36, 3) := by decide +kernel
theorem dL_isCanal_15 : decode cL_isCanal 15 = .ok (.if_icmp .ge 91, 3) := by decide +kernel
theorem dL_isCanal_18 : decode cL_isCanal 18 = .ok (.iload_n 1, 1) := by decide +kernel
theorem dL_isCanal_19 : decode cL_isCanal 19 = .ok (.aload_n 0, 1) := by decide +kernel
theorem dL_isCanal_20 : decode cL_isCanal 20 = .ok (.iload 4, 2) := by decide +kernel
theorem dL_isCanal_22 : decode cL_isCanal 22 = .ok (.invokevirtual 96, 3) := by decide +kernel
theorem dL_isCanal_25 : decode cL_isCanal 25 = .ok (.iadd, 1) := by decide +kernel
theorem dL_isCanal_26 : decode cL_isCanal 26 = .ok (.istore_n 1, 1) := by decide +kernel
theorem dL_isCanal_27 : decode cL_isCanal 27 = .ok (.iload_n 3, 1) := by decide +kernel
theorem dL_isCanal_28 : decode cL_isCanal 28 = .ok (.aload_n 0, 1) := by decide +kernel
theorem dL_isCanal_29 : decode cL_isCanal 29 = .ok (.iload 4, 2) := by decide +kernel
theorem dL_isCanal_31 : decode cL_isCanal 31 = .ok (.invokevirtual 99, 3) := by decide +kernel
theorem dL_isCanal_34 : decode cL_isCanal 34 = .ok (.iadd, 1) := by decide +kernel
theorem dL_isCanal_35 : decode cL_isCanal 35 = .ok (.istore_n 3, 1) := by decide +kernel
theorem dL_isCanal_36 : decode cL_isCanal 36 = .ok (.aload_n 0, 1) := by decide +kernel
theorem dL_isCanal_37 : decode cL_isCanal 37 = .ok (.iload 4, 2) := by decide +kernel
theorem dL_isCanal_39 : decode cL_isCanal 39 = .ok (.iload 4, 2) := by decide +kernel
theorem dL_isCanal_41 : decode cL_isCanal 41 = .ok (.invokevirtual 102, 3) := by decide +kernel
theorem dL_isCanal_44 : decode cL_isCanal 44 = .ok (.ifCond .ne 54, 3) := by decide +kernel
theorem dL_isCanal_47 : decode cL_isCanal 47 = .ok (.aload_n 0, 1) := by decide +kernel
theorem dL_isCanal_48 : decode cL_isCanal 48 = .ok (.iconst 0, 1) := by decide +kernel
theorem dL_isCanal_49 : decode cL_isCanal 49 = .ok (.iload 4, 2) := by decide +kernel
theorem dL_isCanal_51 : decode cL_isCanal 51 = .ok (.invokevirtual 102, 3) := by decide +kernel
theorem dL_isCanal_54 : decode cL_isCanal 54 = .ok (.aload_n 0, 1) := by decide +kernel
theorem dL_isCanal_55 : decode cL_isCanal 55 = .ok (.iload 4, 2) := by decide +kernel
theorem dL_isCanal_57 : decode cL_isCanal 57 = .ok (.aload_n 0, 1) := by decide +kernel
theorem dL_isCanal_58 : decode cL_isCanal 58 = .ok (.invokevirtual 36, 3) := by decide +kernel
theorem dL_isCanal_61 : decode cL_isCanal 61 = .ok (.iconst 1, 1) := by decide +kernel
theorem dL_isCanal_62 : decode cL_isCanal 62 = .ok (.isub, 1) := by decide +kernel
theorem dL_isCanal_63 : decode cL_isCanal 63 = .ok (.invokevirtual 102, 3) := by decide +kernel
theorem dL_isCanal_66 : decode cL_isCanal 66 = .ok (.iadd, 1) := by decide +kernel
theorem dL_isCanal_67 : decode cL_isCanal 67 = .ok (.aload_n 0, 1) := by decide +kernel
theorem dL_isCanal_68 : decode cL_isCanal 68 = .ok (.iconst 0, 1) := by decide +kernel
theorem dL_isCanal_69 : decode cL_isCanal 69 = .ok (.aload_n 0, 1) := by decide +kernel
theorem dL_isCanal_70 : decode cL_isCanal 70 = .ok (.invokevirtual 36, 3) := by decide +kernel
theorem dL_isCanal_73 : decode cL_isCanal 73 = .ok (.iconst 1, 1) := by decide +kernel
theorem dL_isCanal_74 : decode cL_isCanal 74 = .ok (.isub, 1) := by decide +kernel
theorem dL_isCanal_75 : decode cL_isCanal 75 = .ok (.invokevirtual 102, 3) := by decide +kernel
theorem dL_isCanal_78 : decode cL_isCanal 78 = .ok (.if_icmp .ne 20, 3) := by decide +kernel
theorem dL_isCanal_81 : decode cL_isCanal 81 = .ok (.aload_n 0, 1) := by decide +kernel
theorem dL_isCanal_82 : decode cL_isCanal 82 = .ok (.iload 4, 2) := by decide +kernel
theorem dL_isCanal_84 : decode cL_isCanal 84 = .ok (.iconst 0, 1) := by decide +kernel
theorem dL_isCanal_85 : decode cL_isCanal 85 = .ok (.invokevirtual 102, 3) := by decide +kernel
theorem dL_isCanal_88 : decode cL_isCanal 88 = .ok (.aload_n 0, 1) := by decide +kernel
theorem dL_isCanal_89 : decode cL_isCanal 89 = .ok (.iconst 0, 1) := by decide +kernel
theorem dL_isCanal_90 : decode cL_isCanal 90 = .ok (.iload 4, 2) := by decide +kernel
theorem dL_isCanal_92 : decode cL_isCanal 92 = .ok (.invokevirtual 102, 3) := by decide +kernel
theorem dL_isCanal_95 : decode cL_isCanal 95 = .ok (.if_icmp .eq 5, 3) := by decide +kernel
theorem dL_isCanal_98 : decode cL_isCanal 98 = .ok (.iconst 0, 1) := by decide +kernel
theorem dL_isCanal_99 : decode cL_isCanal 99 = .ok (.ireturn, 1) := by decide +kernel
theorem dL_isCanal_100 : decode cL_isCanal 100 = .ok (.iinc 4 1, 3) := by decide +kernel
theorem dL_isCanal_103 : decode cL_isCanal 103 = .ok (.goto (-94), 3) := by decide +kernel
theorem dL_isCanal_106 : decode cL_isCanal 106 = .ok (.iconst 0, 1) := by decide +kernel
theorem dL_isCanal_107 : decode cL_isCanal 107 = .ok (.istore 4, 2) := by decide +kernel
theorem dL_isCanal_109 : decode cL_isCanal 109 = .ok (.iload 4, 2) := by decide +kernel
theorem dL_isCanal_111 : decode cL_isCanal 111 = .ok (.aload_n 0, 1) := by decide +kernel
theorem dL_isCanal_112 : decode cL_isCanal 112 = .ok (.invokevirtual 36, 3) := by decide +kernel
theorem dL_isCanal_115 : decode cL_isCanal 115 = .ok (.iconst 1, 1) := by decide +kernel
theorem dL_isCanal_116 : decode cL_isCanal 116 = .ok (.isub, 1) := by decide +kernel
theorem dL_isCanal_117 : decode cL_isCanal 117 = .ok (.if_icmp .ge 133, 3) := by decide +kernel
theorem dL_isCanal_120 : decode cL_isCanal 120 = .ok (.aload_n 0, 1) := by decide +kernel
theorem dL_isCanal_121 : decode cL_isCanal 121 = .ok (.iload 4, 2) := by decide +kernel
theorem dL_isCanal_123 : decode cL_isCanal 123 = .ok (.invokevirtual 105, 3) := by decide +kernel
theorem dL_isCanal_126 : decode cL_isCanal 126 = .ok (.istore 5, 2) := by decide +kernel
theorem dL_isCanal_128 : decode cL_isCanal 128 = .ok (.iload 5, 2) := by decide +kernel
theorem dL_isCanal_130 : decode cL_isCanal 130 = .ok (.ifCond .ge 6, 3) := by decide +kernel
theorem dL_isCanal_133 : decode cL_isCanal 133 = .ok (.goto 111, 3) := by decide +kernel
theorem dL_isCanal_136 : decode cL_isCanal 136 = .ok (.iinc 2 1, 3) := by decide +kernel
theorem dL_isCanal_139 : decode cL_isCanal 139 = .ok (.aload_n 0, 1) := by decide +kernel
theorem dL_isCanal_140 : decode cL_isCanal 140 = .ok (.iload 4, 2) := by decide +kernel
theorem dL_isCanal_142 : decode cL_isCanal 142 = .ok (.invokevirtual 108, 3) := by decide +kernel
theorem dL_isCanal_145 : decode cL_isCanal 145 = .ok (.ifCond .eq 97, 3) := by decide +kernel
theorem dL_isCanal_148 : decode cL_isCanal 148 = .ok (.aload_n 0, 1) := by decide +kernel
theorem dL_isCanal_149 : decode cL_isCanal 149 = .ok (.iload 5, 2) := by decide +kernel
theorem dL_isCanal_151 : decode cL_isCanal 151 = .ok (.invokevirtual 58, 3) := by decide +kernel
theorem dL_isCanal_154 : decode cL_isCanal 154 = .ok (.iconst 1, 1) := by decide +kernel
theorem dL_isCanal_155 : decode cL_isCanal 155 = .ok (.if_icmp .lt 87, 3) := by decide +kernel
theorem dL_isCanal_158 : decode cL_isCanal 158 = .ok (.aload_n 0, 1) := by decide +kernel
theorem dL_isCanal_159 : decode cL_isCanal 159 = .ok (.iload 5, 2) := by decide +kernel
theorem dL_isCanal_161 : decode cL_isCanal 161 = .ok (.invokevirtual 58, 3) := by decide +kernel
theorem dL_isCanal_164 : decode cL_isCanal 164 = .ok (.aload_n 0, 1) := by decide +kernel
theorem dL_isCanal_165 : decode cL_isCanal 165 = .ok (.iload 4, 2) := by decide +kernel
theorem dL_isCanal_167 : decode cL_isCanal 167 = .ok (.invokevirtual 108, 3) := by decide +kernel
theorem dL_isCanal_170 : decode cL_isCanal 170 = .ok (.if_icmp .gt 72, 3) := by decide +kernel
theorem dL_isCanal_173 : decode cL_isCanal 173 = .ok (.aload_n 0, 1) := by decide +kernel
theorem dL_isCanal_174 : decode cL_isCanal 174 = .ok (.iload 5, 2) := by decide +kernel
theorem dL_isCanal_176 : decode cL_isCanal 176 = .ok (.invokevirtual 55, 3) := by decide +kernel
theorem dL_isCanal_179 : decode cL_isCanal 179 = .ok (.aload_n 0, 1) := by decide +kernel
theorem dL_isCanal_180 : decode cL_isCanal 180 = .ok (.iload 5, 2) := by decide +kernel
theorem dL_isCanal_182 : decode cL_isCanal 182 = .ok (.invokevirtual 51, 3) := by decide +kernel
theorem dL_isCanal_185 : decode cL_isCanal 185 = .ok (.if_icmp .le 14, 3) := by decide +kernel
theorem dL_isCanal_188 : decode cL_isCanal 188 = .ok (.aload_n 0, 1) := by decide +kernel
theorem dL_isCanal_189 : decode cL_isCanal 189 = .ok (.iload 5, 2) := by decide +kernel
theorem dL_isCanal_191 : decode cL_isCanal 191 = .ok (.invokevirtual 51, 3) := by decide +kernel
theorem dL_isCanal_194 : decode cL_isCanal 194 = .ok (.iload 4, 2) := by decide +kernel
theorem dL_isCanal_196 : decode cL_isCanal 196 = .ok (.if_icmp .ne 46, 3) := by decide +kernel
theorem dL_isCanal_199 : decode cL_isCanal 199 = .ok (.aload_n 0, 1) := by decide +kernel
theorem dL_isCanal_200 : decode cL_isCanal 200 = .ok (.iload 5, 2) := by decide +kernel
theorem dL_isCanal_202 : decode cL_isCanal 202 = .ok (.invokevirtual 55, 3) := by decide +kernel
theorem dL_isCanal_205 : decode cL_isCanal 205 = .ok (.aload_n 0, 1) := by decide +kernel
theorem dL_isCanal_206 : decode cL_isCanal 206 = .ok (.iload 5, 2) := by decide +kernel
theorem dL_isCanal_208 : decode cL_isCanal 208 = .ok (.invokevirtual 51, 3) := by decide +kernel
theorem dL_isCanal_211 : decode cL_isCanal 211 = .ok (.if_icmp .ge 16, 3) := by decide +kernel
theorem dL_isCanal_214 : decode cL_isCanal 214 = .ok (.aload_n 0, 1) := by decide +kernel
theorem dL_isCanal_215 : decode cL_isCanal 215 = .ok (.iload 5, 2) := by decide +kernel
theorem dL_isCanal_217 : decode cL_isCanal 217 = .ok (.invokevirtual 51, 3) := by decide +kernel
theorem dL_isCanal_220 : decode cL_isCanal 220 = .ok (.iload 4, 2) := by decide +kernel
theorem dL_isCanal_222 : decode cL_isCanal 222 = .ok (.iconst 1, 1) := by decide +kernel
theorem dL_isCanal_223 : decode cL_isCanal 223 = .ok (.iadd, 1) := by decide +kernel
theorem dL_isCanal_224 : decode cL_isCanal 224 = .ok (.if_icmp .ne 18, 3) := by decide +kernel
theorem dL_isCanal_227 : decode cL_isCanal 227 = .ok (.aload_n 0, 1) := by decide +kernel
theorem dL_isCanal_228 : decode cL_isCanal 228 = .ok (.iload 5, 2) := by decide +kernel
theorem dL_isCanal_230 : decode cL_isCanal 230 = .ok (.invokevirtual 55, 3) := by decide +kernel
theorem dL_isCanal_233 : decode cL_isCanal 233 = .ok (.aload_n 0, 1) := by decide +kernel
theorem dL_isCanal_234 : decode cL_isCanal 234 = .ok (.iload 5, 2) := by decide +kernel
theorem dL_isCanal_236 : decode cL_isCanal 236 = .ok (.invokevirtual 51, 3) := by decide +kernel
theorem dL_isCanal_239 : decode cL_isCanal 239 = .ok (.if_icmp .ne 5, 3) := by decide +kernel
theorem dL_isCanal_242 : decode cL_isCanal 242 = .ok (.iconst 0, 1) := by decide +kernel
theorem dL_isCanal_243 : decode cL_isCanal 243 = .ok (.ireturn, 1) := by decide +kernel
theorem dL_isCanal_244 : decode cL_isCanal 244 = .ok (.iinc 4 1, 3) := by decide +kernel
theorem dL_isCanal_247 : decode cL_isCanal 247 = .ok (.goto (-138), 3) := by decide +kernel
theorem dL_isCanal_250 : decode cL_isCanal 250 = .ok (.iconst 0, 1) := by decide +kernel
theorem dL_isCanal_251 : decode cL_isCanal 251 = .ok (.istore 4, 2) := by decide +kernel
theorem dL_isCanal_253 : decode cL_isCanal 253 = .ok (.iconst 0, 1) := by decide +kernel
theorem dL_isCanal_254 : decode cL_isCanal 254 = .ok (.istore 5, 2) := by decide +kernel
theorem dL_isCanal_256 : decode cL_isCanal 256 = .ok (.iconst 0, 1) := by decide +kernel
theorem dL_isCanal_257 : decode cL_isCanal 257 = .ok (.istore 6, 2) := by decide +kernel
theorem dL_isCanal_259 : decode cL_isCanal 259 = .ok (.iload 6, 2) := by decide +kernel
theorem dL_isCanal_261 : decode cL_isCanal 261 = .ok (.aload_n 0, 1) := by decide +kernel
theorem dL_isCanal_262 : decode cL_isCanal 262 = .ok (.invokevirtual 30, 3) := by decide +kernel
theorem dL_isCanal_265 : decode cL_isCanal 265 = .ok (.if_icmp .ge 326, 3) := by decide +kernel
theorem dL_isCanal_268 : decode cL_isCanal 268 = .ok (.iconst 0, 1) := by decide +kernel
theorem dL_isCanal_269 : decode cL_isCanal 269 = .ok (.istore 7, 2) := by decide +kernel
theorem dL_isCanal_271 : decode cL_isCanal 271 = .ok (.iconst 0, 1) := by decide +kernel
theorem dL_isCanal_272 : decode cL_isCanal 272 = .ok (.istore 8, 2) := by decide +kernel
theorem dL_isCanal_274 : decode cL_isCanal 274 = .ok (.iload 8, 2) := by decide +kernel
theorem dL_isCanal_276 : decode cL_isCanal 276 = .ok (.aload_n 0, 1) := by decide +kernel
theorem dL_isCanal_277 : decode cL_isCanal 277 = .ok (.iload 6, 2) := by decide +kernel
theorem dL_isCanal_279 : decode cL_isCanal 279 = .ok (.invokevirtual 111, 3) := by decide +kernel
theorem dL_isCanal_282 : decode cL_isCanal 282 = .ok (.if_icmp .ge 76, 3) := by decide +kernel
theorem dL_isCanal_285 : decode cL_isCanal 285 = .ok (.aload_n 0, 1) := by decide +kernel
theorem dL_isCanal_286 : decode cL_isCanal 286 = .ok (.iload 6, 2) := by decide +kernel
theorem dL_isCanal_288 : decode cL_isCanal 288 = .ok (.iload 8, 2) := by decide +kernel
theorem dL_isCanal_290 : decode cL_isCanal 290 = .ok (.invokevirtual 70, 3) := by decide +kernel
theorem dL_isCanal_293 : decode cL_isCanal 293 = .ok (.istore 9, 2) := by decide +kernel
theorem dL_isCanal_295 : decode cL_isCanal 295 = .ok (.iload 9, 2) := by decide +kernel
theorem dL_isCanal_297 : decode cL_isCanal 297 = .ok (.ifCond .lt 42, 3) := by decide +kernel
theorem dL_isCanal_300 : decode cL_isCanal 300 = .ok (.aload_n 0, 1) := by decide +kernel
theorem dL_isCanal_301 : decode cL_isCanal 301 = .ok (.iload 9, 2) := by decide +kernel
theorem dL_isCanal_303 : decode cL_isCanal 303 = .ok (.invokevirtual 77, 3) := by decide +kernel
theorem dL_isCanal_306 : decode cL_isCanal 306 = .ok (.iload 6, 2) := by decide +kernel
theorem dL_isCanal_308 : decode cL_isCanal 308 = .ok (.if_icmp .ne 31, 3) := by decide +kernel
theorem dL_isCanal_311 : decode cL_isCanal 311 = .ok (.aload_n 0, 1) := by decide +kernel
theorem dL_isCanal_312 : decode cL_isCanal 312 = .ok (.iload 9, 2) := by decide +kernel
theorem dL_isCanal_314 : decode cL_isCanal 314 = .ok (.invokevirtual 87, 3) := by decide +kernel
theorem dL_isCanal_317 : decode cL_isCanal 317 = .ok (.ifCond .ne 22, 3) := by decide +kernel
theorem dL_isCanal_320 : decode cL_isCanal 320 = .ok (.aload_n 0, 1) := by decide +kernel
theorem dL_isCanal_321 : decode cL_isCanal 321 = .ok (.iload 9, 2) := by decide +kernel
theorem dL_isCanal_323 : decode cL_isCanal 323 = .ok (.invokevirtual 83, 3) := by decide +kernel
theorem dL_isCanal_326 : decode cL_isCanal 326 = .ok (.ifCond .ne 13, 3) := by decide +kernel
theorem dL_isCanal_329 : decode cL_isCanal 329 = .ok (.aload_n 0, 1) := by decide +kernel
theorem dL_isCanal_330 : decode cL_isCanal 330 = .ok (.iload 9, 2) := by decide +kernel
theorem dL_isCanal_332 : decode cL_isCanal 332 = .ok (.invokevirtual 74, 3) := by decide +kernel
theorem dL_isCanal_335 : decode cL_isCanal 335 = .ok (.iconst 1, 1) := by decide +kernel
theorem dL_isCanal_336 : decode cL_isCanal 336 = .ok (.if_icmp .ge 5, 3) := by decide +kernel
theorem dL_isCanal_339 : decode cL_isCanal 339 = .ok (.iconst 0, 1) := by decide +kernel
theorem dL_isCanal_340 : decode cL_isCanal 340 = .ok (.ireturn, 1) := by decide +kernel
theorem dL_isCanal_341 : decode cL_isCanal 341 = .ok (.iload 7, 2) := by decide +kernel
theorem dL_isCanal_343 : decode cL_isCanal 343 = .ok (.aload_n 0, 1) := by decide +kernel
theorem dL_isCanal_344 : decode cL_isCanal 344 = .ok (.iload 9, 2) := by decide +kernel
theorem dL_isCanal_346 : decode cL_isCanal 346 = .ok (.invokevirtual 114, 3) := by decide +kernel
theorem dL_isCanal_349 : decode cL_isCanal 349 = .ok (.iadd, 1) := by decide +kernel
theorem dL_isCanal_350 : decode cL_isCanal 350 = .ok (.istore 7, 2) := by decide +kernel
theorem dL_isCanal_352 : decode cL_isCanal 352 = .ok (.iinc 8 1, 3) := by decide +kernel
theorem dL_isCanal_355 : decode cL_isCanal 355 = .ok (.goto (-81), 3) := by decide +kernel
theorem dL_isCanal_358 : decode cL_isCanal 358 = .ok (.iload 4, 2) := by decide +kernel
theorem dL_isCanal_360 : decode cL_isCanal 360 = .ok (.aload_n 0, 1) := by decide +kernel
theorem dL_isCanal_361 : decode cL_isCanal 361 = .ok (.iload 6, 2) := by decide +kernel
theorem dL_isCanal_363 : decode cL_isCanal 363 = .ok (.invokevirtual 111, 3) := by decide +kernel
theorem dL_isCanal_366 : decode cL_isCanal 366 = .ok (.iadd, 1) := by decide +kernel
theorem dL_isCanal_367 : decode cL_isCanal 367 = .ok (.istore 4, 2) := by decide +kernel
theorem dL_isCanal_369 : decode cL_isCanal 369 = .ok (.iload 5, 2) := by decide +kernel
theorem dL_isCanal_371 : decode cL_isCanal 371 = .ok (.aload_n 0, 1) := by decide +kernel
theorem dL_isCanal_372 : decode cL_isCanal 372 = .ok (.iload 6, 2) := by decide +kernel
theorem dL_isCanal_374 : decode cL_isCanal 374 = .ok (.invokevirtual 117, 3) := by decide +kernel
theorem dL_isCanal_377 : decode cL_isCanal 377 = .ok (.iadd, 1) := by decide +kernel
theorem dL_isCanal_378 : decode cL_isCanal 378 = .ok (.istore 5, 2) := by decide +kernel
theorem dL_isCanal_380 : decode cL_isCanal 380 = .ok (.aload_n 0, 1) := by decide +kernel
theorem dL_isCanal_381 : decode cL_isCanal 381 = .ok (.iload 6, 2) := by decide +kernel
theorem dL_isCanal_383 : decode cL_isCanal 383 = .ok (.invokevirtual 51, 3) := by decide +kernel
theorem dL_isCanal_386 : decode cL_isCanal 386 = .ok (.aload_n 0, 1) := by decide +kernel
theorem dL_isCanal_387 : decode cL_isCanal 387 = .ok (.iload 6, 2) := by decide +kernel
theorem dL_isCanal_389 : decode cL_isCanal 389 = .ok (.invokevirtual 55, 3) := by decide +kernel
theorem dL_isCanal_392 : decode cL_isCanal 392 = .ok (.if_icmp .ne 7, 3) := by decide +kernel
theorem dL_isCanal_395 : decode cL_isCanal 395 = .ok (.iconst 1, 1) := by decide +kernel
theorem dL_isCanal_396 : decode cL_isCanal 396 = .ok (.goto 4, 3) := by decide +kernel
theorem dL_isCanal_399 : decode cL_isCanal 399 = .ok (.iconst 0, 1) := by decide +kernel
theorem dL_isCanal_400 : decode cL_isCanal 400 = .ok (.istore 8, 2) := by decide +kernel
theorem dL_isCanal_402 : decode cL_isCanal 402 = .ok (.aload_n 0, 1) := by decide +kernel
theorem dL_isCanal_403 : decode cL_isCanal 403 = .ok (.iload 6, 2) := by decide +kernel
theorem dL_isCanal_405 : decode cL_isCanal 405 = .ok (.invokevirtual 120, 3) := by decide +kernel
theorem dL_isCanal_408 : decode cL_isCanal 408 = .ok (.iload 7, 2) := by decide +kernel
theorem dL_isCanal_410 : decode cL_isCanal 410 = .ok (.if_icmp .gt 82, 3) := by decide +kernel
theorem dL_isCanal_413 : decode cL_isCanal 413 = .ok (.aload_n 0, 1) := by decide +kernel
theorem dL_isCanal_414 : decode cL_isCanal 414 = .ok (.iload 6, 2) := by decide +kernel
theorem dL_isCanal_416 : decode cL_isCanal 416 = .ok (.invokevirtual 111, 3) := by decide +kernel
theorem dL_isCanal_419 : decode cL_isCanal 419 = .ok (.aload_n 0, 1) := by decide +kernel
theorem dL_isCanal_420 : decode cL_isCanal 420 = .ok (.iload 6, 2) := by decide +kernel
theorem dL_isCanal_422 : decode cL_isCanal 422 = .ok (.invokevirtual 117, 3) := by decide +kernel
theorem dL_isCanal_425 : decode cL_isCanal 425 = .ok (.iadd, 1) := by decide +kernel
theorem dL_isCanal_426 : decode cL_isCanal 426 = .ok (.iconst 4, 1) := by decide +kernel
theorem dL_isCanal_427 : decode cL_isCanal 427 = .ok (.if_icmp .gt 65, 3) := by decide +kernel
theorem dL_isCanal_430 : decode cL_isCanal 430 = .ok (.aload_n 0, 1) := by decide +kernel
theorem dL_isCanal_431 : decode cL_isCanal 431 = .ok (.iload 6, 2) := by decide +kernel
theorem dL_isCanal_433 : decode cL_isCanal 433 = .ok (.invokevirtual 61, 3) := by decide +kernel
theorem dL_isCanal_436 : decode cL_isCanal 436 = .ok (.ifCond .lt 56, 3) := by decide +kernel
theorem dL_isCanal_439 : decode cL_isCanal 439 = .ok (.aload_n 0, 1) := by decide +kernel
theorem dL_isCanal_440 : decode cL_isCanal 440 = .ok (.iload 6, 2) := by decide +kernel
theorem dL_isCanal_442 : decode cL_isCanal 442 = .ok (.invokevirtual 61, 3) := by decide +kernel
theorem dL_isCanal_445 : decode cL_isCanal 445 = .ok (.bipush 99, 2) := by decide +kernel
theorem dL_isCanal_447 : decode cL_isCanal 447 = .ok (.if_icmp .gt 45, 3) := by decide +kernel
theorem dL_isCanal_450 : decode cL_isCanal 450 = .ok (.aload_n 0, 1) := by decide +kernel
theorem dL_isCanal_451 : decode cL_isCanal 451 = .ok (.iload 6, 2) := by decide +kernel
theorem dL_isCanal_453 : decode cL_isCanal 453 = .ok (.invokevirtual 64, 3) := by decide +kernel
theorem dL_isCanal_456 : decode cL_isCanal 456 = .ok (.ifCond .lt 36, 3) := by decide +kernel
theorem dL_isCanal_459 : decode cL_isCanal 459 = .ok (.aload_n 0, 1) := by decide +kernel
theorem dL_isCanal_460 : decode cL_isCanal 460 = .ok (.iload 6, 2) := by decide +kernel
theorem dL_isCanal_462 : decode cL_isCanal 462 = .ok (.invokevirtual 123, 3) := by decide +kernel
theorem dL_isCanal_465 : decode cL_isCanal 465 = .ok (.ifCond .ne 7, 3) := by decide +kernel
theorem dL_isCanal_468 : decode cL_isCanal 468 = .ok (.iconst 1, 1) := by decide +kernel
theorem dL_isCanal_469 : decode cL_isCanal 469 = .ok (.goto 4, 3) := by decide +kernel
theorem dL_isCanal_472 : decode cL_isCanal 472 = .ok (.iconst 0, 1) := by decide +kernel
theorem dL_isCanal_473 : decode cL_isCanal 473 = .ok (.iload 8, 2) := by decide +kernel
theorem dL_isCanal_475 : decode cL_isCanal 475 = .ok (.if_icmp .ne 17, 3) := by decide +kernel
theorem dL_isCanal_478 : decode cL_isCanal 478 = .ok (.aload_n 0, 1) := by decide +kernel
theorem dL_isCanal_479 : decode cL_isCanal 479 = .ok (.iload 6, 2) := by decide +kernel
theorem dL_isCanal_481 : decode cL_isCanal 481 = .ok (.invokevirtual 58, 3) := by decide +kernel
theorem dL_isCanal_484 : decode cL_isCanal 484 = .ok (.ifCond .le 10, 3) := by decide +kernel
theorem dL_isCanal_487 : decode cL_isCanal 487 = .ok (.iload 8, 2) := by decide +kernel
theorem dL_isCanal_489 : decode cL_isCanal 489 = .ok (.ifCond .eq 5, 3) := by decide +kernel
theorem dL_isCanal_492 : decode cL_isCanal 492 = .ok (.iconst 0, 1) := by decide +kernel
theorem dL_isCanal_493 : decode cL_isCanal 493 = .ok (.ireturn, 1) := by decide +kernel
theorem dL_isCanal_494 : decode cL_isCanal 494 = .ok (.iconst 0, 1) := by decide +kernel
theorem dL_isCanal_495 : decode cL_isCanal 495 = .ok (.istore 9, 2) := by decide +kernel
theorem dL_isCanal_497 : decode cL_isCanal 497 = .ok (.iload 9, 2) := by decide +kernel
theorem dL_isCanal_499 : decode cL_isCanal 499 = .ok (.aload_n 0, 1) := by decide +kernel
theorem dL_isCanal_500 : decode cL_isCanal 500 = .ok (.invokevirtual 36, 3) := by decide +kernel
theorem dL_isCanal_503 : decode cL_isCanal 503 = .ok (.if_icmp .ge 82, 3) := by decide +kernel
theorem dL_isCanal_506 : decode cL_isCanal 506 = .ok (.aload_n 0, 1) := by decide +kernel
theorem dL_isCanal_507 : decode cL_isCanal 507 = .ok (.iload 6, 2) := by decide +kernel
theorem dL_isCanal_509 : decode cL_isCanal 509 = .ok (.iload 9, 2) := by decide +kernel
theorem dL_isCanal_511 : decode cL_isCanal 511 = .ok (.invokevirtual 126, 3) := by decide +kernel
theorem dL_isCanal_514 : decode cL_isCanal 514 = .ok (.istore 10, 2) := by decide +kernel
theorem dL_isCanal_516 : decode cL_isCanal 516 = .ok (.iload 10, 2) := by decide +kernel
theorem dL_isCanal_518 : decode cL_isCanal 518 = .ok (.iconst 1, 1) := by decide +kernel
theorem dL_isCanal_519 : decode cL_isCanal 519 = .ok (.if_icmp .ne 7, 3) := by decide +kernel
theorem dL_isCanal_522 : decode cL_isCanal 522 = .ok (.iconst 1, 1) := by decide +kernel
theorem dL_isCanal_523 : decode cL_isCanal 523 = .ok (.goto 4, 3) := by decide +kernel
theorem dL_isCanal_526 : decode cL_isCanal 526 = .ok (.iconst 0, 1) := by decide +kernel
theorem dL_isCanal_527 : decode cL_isCanal 527 = .ok (.aload_n 0, 1) := by decide +kernel
theorem dL_isCanal_528 : decode cL_isCanal 528 = .ok (.iload 6, 2) := by decide +kernel
theorem dL_isCanal_530 : decode cL_isCanal 530 = .ok (.invokevirtual 58, 3) := by decide +kernel
theorem dL_isCanal_533 : decode cL_isCanal 533 = .ok (.ifCond .le 7, 3) := by decide +kernel
theorem dL_isCanal_536 : decode cL_isCanal 536 = .ok (.iconst 1, 1) := by decide +kernel
theorem dL_isCanal_537 : decode cL_isCanal 537 = .ok (.goto 4, 3) := by decide +kernel
theorem dL_isCanal_540 : decode cL_isCanal 540 = .ok (.iconst 0, 1) := by decide +kernel
theorem dL_isCanal_541 : decode cL_isCanal 541 = .ok (.if_icmp .ne 36, 3) := by decide +kernel
theorem dL_isCanal_544 : decode cL_isCanal 544 = .ok (.iload 10, 2) := by decide +kernel
theorem dL_isCanal_546 : decode cL_isCanal 546 = .ok (.iconst 2, 1) := by decide +kernel
theorem dL_isCanal_547 : decode cL_isCanal 547 = .ok (.if_icmp .ne 14, 3) := by decide +kernel
theorem dL_isCanal_550 : decode cL_isCanal 550 = .ok (.aload_n 0, 1) := by decide +kernel
theorem dL_isCanal_551 : decode cL_isCanal 551 = .ok (.iload 6, 2) := by decide +kernel
theorem dL_isCanal_553 : decode cL_isCanal 553 = .ok (.invokevirtual 55, 3) := by decide +kernel
theorem dL_isCanal_556 : decode cL_isCanal 556 = .ok (.iload 9, 2) := by decide +kernel
theorem dL_isCanal_558 : decode cL_isCanal 558 = .ok (.if_icmp .ne 19, 3) := by decide +kernel
theorem dL_isCanal_561 : decode cL_isCanal 561 = .ok (.iload 10, 2) := by decide +kernel
theorem dL_isCanal_563 : decode cL_isCanal 563 = .ok (.ifCond .ne 16, 3) := by decide +kernel
theorem dL_isCanal_566 : decode cL_isCanal 566 = .ok (.aload_n 0, 1) := by decide +kernel
theorem dL_isCanal_567 : decode cL_isCanal 567 = .ok (.iload 6, 2) := by decide +kernel
theorem dL_isCanal_569 : decode cL_isCanal 569 = .ok (.invokevirtual 55, 3) := by decide +kernel
theorem dL_isCanal_572 : decode cL_isCanal 572 = .ok (.iload 9, 2) := by decide +kernel
theorem dL_isCanal_574 : decode cL_isCanal 574 = .ok (.if_icmp .ne 5, 3) := by decide +kernel
theorem dL_isCanal_577 : decode cL_isCanal 577 = .ok (.iconst 0, 1) := by decide +kernel
theorem dL_isCanal_578 : decode cL_isCanal 578 = .ok (.ireturn, 1) := by decide +kernel
theorem dL_isCanal_579 : decode cL_isCanal 579 = .ok (.iinc 9 1, 3) := by decide +kernel
theorem dL_isCanal_582 : decode cL_isCanal 582 = .ok (.goto (-85), 3) := by decide +kernel
theorem dL_isCanal_585 : decode cL_isCanal 585 = .ok (.iinc 6 1, 3) := by decide +kernel
theorem dL_isCanal_588 : decode cL_isCanal 588 = .ok (.goto (-329), 3) := by decide +kernel
theorem dL_isCanal_591 : decode cL_isCanal 591 = .ok (.iconst 0, 1) := by decide +kernel
theorem dL_isCanal_592 : decode cL_isCanal 592 = .ok (.istore 6, 2) := by decide +kernel
theorem dL_isCanal_594 : decode cL_isCanal 594 = .ok (.iconst 0, 1) := by decide +kernel
theorem dL_isCanal_595 : decode cL_isCanal 595 = .ok (.istore 7, 2) := by decide +kernel
theorem dL_isCanal_597 : decode cL_isCanal 597 = .ok (.iconst 0, 1) := by decide +kernel
theorem dL_isCanal_598 : decode cL_isCanal 598 = .ok (.istore 8, 2) := by decide +kernel
theorem dL_isCanal_600 : decode cL_isCanal 600 = .ok (.iconst 0, 1) := by decide +kernel
theorem dL_isCanal_601 : decode cL_isCanal 601 = .ok (.istore 9, 2) := by decide +kernel
theorem dL_isCanal_603 : decode cL_isCanal 603 = .ok (.aload_n 0, 1) := by decide +kernel
theorem dL_isCanal_604 : decode cL_isCanal 604 = .ok (.invokevirtual 129, 3) := by decide +kernel
theorem dL_isCanal_607 : decode cL_isCanal 607 = .ok (.istore 10, 2) := by decide +kernel
theorem dL_isCanal_609 : decode cL_isCanal 609 = .ok (.iconst 0, 1) := by decide +kernel
theorem dL_isCanal_610 : decode cL_isCanal 610 = .ok (.istore 11, 2) := by decide +kernel
theorem dL_isCanal_612 : decode cL_isCanal 612 = .ok (.iload 11, 2) := by decide +kernel
theorem dL_isCanal_614 : decode cL_isCanal 614 = .ok (.aload_n 0, 1) := by decide +kernel
theorem dL_isCanal_615 : decode cL_isCanal 615 = .ok (.invokevirtual 33, 3) := by decide +kernel
theorem dL_isCanal_618 : decode cL_isCanal 618 = .ok (.if_icmp .ge 333, 3) := by decide +kernel
theorem dL_isCanal_621 : decode cL_isCanal 621 = .ok (.iload 6, 2) := by decide +kernel
theorem dL_isCanal_623 : decode cL_isCanal 623 = .ok (.aload_n 0, 1) := by decide +kernel
theorem dL_isCanal_624 : decode cL_isCanal 624 = .ok (.iload 11, 2) := by decide +kernel
theorem dL_isCanal_626 : decode cL_isCanal 626 = .ok (.invokevirtual 83, 3) := by decide +kernel
theorem dL_isCanal_629 : decode cL_isCanal 629 = .ok (.ifCond .eq 7, 3) := by decide +kernel
theorem dL_isCanal_632 : decode cL_isCanal 632 = .ok (.iconst 1, 1) := by decide +kernel
theorem dL_isCanal_633 : decode cL_isCanal 633 = .ok (.goto 4, 3) := by decide +kernel
theorem dL_isCanal_636 : decode cL_isCanal 636 = .ok (.iconst 0, 1) := by decide +kernel
theorem dL_isCanal_637 : decode cL_isCanal 637 = .ok (.iadd, 1) := by decide +kernel
theorem dL_isCanal_638 : decode cL_isCanal 638 = .ok (.istore 6, 2) := by decide +kernel
theorem dL_isCanal_640 : decode cL_isCanal 640 = .ok (.iload 7, 2) := by decide +kernel
theorem dL_isCanal_642 : decode cL_isCanal 642 = .ok (.aload_n 0, 1) := by decide +kernel
theorem dL_isCanal_643 : decode cL_isCanal 643 = .ok (.iload 11, 2) := by decide +kernel
theorem dL_isCanal_645 : decode cL_isCanal 645 = .ok (.invokevirtual 90, 3) := by decide +kernel
theorem dL_isCanal_648 : decode cL_isCanal 648 = .ok (.ifCond .eq 7, 3) := by decide +kernel
theorem dL_isCanal_651 : decode cL_isCanal 651 = .ok (.iconst 1, 1) := by decide +kernel
theorem dL_isCanal_652 : decode cL_isCanal 652 = .ok (.goto 4, 3) := by decide +kernel
theorem dL_isCanal_655 : decode cL_isCanal 655 = .ok (.iconst 0, 1) := by decide +kernel
theorem dL_isCanal_656 : decode cL_isCanal 656 = .ok (.iadd, 1) := by decide +kernel
theorem dL_isCanal_657 : decode cL_isCanal 657 = .ok (.istore 7, 2) := by decide +kernel
theorem dL_isCanal_659 : decode cL_isCanal 659 = .ok (.iload 9, 2) := by decide +kernel
theorem dL_isCanal_661 : decode cL_isCanal 661 = .ok (.aload_n 0, 1) := by decide +kernel
theorem dL_isCanal_662 : decode cL_isCanal 662 = .ok (.iload 11, 2) := by decide +kernel
theorem dL_isCanal_664 : decode cL_isCanal 664 = .ok (.invokevirtual 90, 3) := by decide +kernel
theorem dL_isCanal_667 : decode cL_isCanal 667 = .ok (.ifCond .eq 12, 3) := by decide +kernel
theorem dL_isCanal_670 : decode cL_isCanal 670 = .ok (.aload_n 0, 1) := by decide +kernel
theorem dL_isCanal_671 : decode cL_isCanal 671 = .ok (.iload 11, 2) := by decide +kernel
theorem dL_isCanal_673 : decode cL_isCanal 673 = .ok (.invokevirtual 114, 3) := by decide +kernel
theorem dL_isCanal_676 : decode cL_isCanal 676 = .ok (.goto 4, 3) := by decide +kernel
theorem dL_isCanal_679 : decode cL_isCanal 679 = .ok (.iconst 0, 1) := by decide +kernel
theorem dL_isCanal_680 : decode cL_isCanal 680 = .ok (.iadd, 1) := by decide +kernel
theorem dL_isCanal_681 : decode cL_isCanal 681 = .ok (.istore 9, 2) := by decide +kernel
theorem dL_isCanal_683 : decode cL_isCanal 683 = .ok (.aload_n 0, 1) := by decide +kernel
theorem dL_isCanal_684 : decode cL_isCanal 684 = .ok (.iload 11, 2) := by decide +kernel
theorem dL_isCanal_686 : decode cL_isCanal 686 = .ok (.invokevirtual 77, 3) := by decide +kernel
theorem dL_isCanal_689 : decode cL_isCanal 689 = .ok (.ifCond .lt 7, 3) := by decide +kernel
theorem dL_isCanal_692 : decode cL_isCanal 692 = .ok (.iconst 1, 1) := by decide +kernel
theorem dL_isCanal_693 : decode cL_isCanal 693 = .ok (.goto 4, 3) := by decide +kernel
theorem dL_isCanal_696 : decode cL_isCanal 696 = .ok (.iconst 0, 1) := by decide +kernel
theorem dL_isCanal_697 : decode cL_isCanal 697 = .ok (.istore 12, 2) := by decide +kernel
theorem dL_isCanal_699 : decode cL_isCanal 699 = .ok (.iload 11, 2) := by decide +kernel
theorem dL_isCanal_701 : decode cL_isCanal 701 = .ok (.aload_n 0, 1) := by decide +kernel
theorem dL_isCanal_702 : decode cL_isCanal 702 = .ok (.invokevirtual 39, 3) := by decide +kernel
theorem dL_isCanal_705 : decode cL_isCanal 705 = .ok (.aload_n 0, 1) := by decide +kernel
theorem dL_isCanal_706 : decode cL_isCanal 706 = .ok (.invokevirtual 33, 3) := by decide +kernel
theorem dL_isCanal_709 : decode cL_isCanal 709 = .ok (.irem, 1) := by decide +kernel
theorem dL_isCanal_710 : decode cL_isCanal 710 = .ok (.if_icmp .ne 12, 3) := by decide +kernel
theorem dL_isCanal_713 : decode cL_isCanal 713 = .ok (.aload_n 0, 1) := by decide +kernel
theorem dL_isCanal_714 : decode cL_isCanal 714 = .ok (.iload 11, 2) := by decide +kernel
theorem dL_isCanal_716 : decode cL_isCanal 716 = .ok (.invokevirtual 132, 3) := by decide +kernel
theorem dL_isCanal_719 : decode cL_isCanal 719 = .ok (.goto 9, 3) := by decide +kernel
theorem dL_isCanal_722 : decode cL_isCanal 722 = .ok (.aload_n 0, 1) := by decide +kernel
theorem dL_isCanal_723 : decode cL_isCanal 723 = .ok (.iload 11, 2) := by decide +kernel
theorem dL_isCanal_725 : decode cL_isCanal 725 = .ok (.invokevirtual 90, 3) := by decide +kernel
theorem dL_isCanal_728 : decode cL_isCanal 728 = .ok (.istore 13, 2) := by decide +kernel
theorem dL_isCanal_730 : decode cL_isCanal 730 = .ok (.iload 8, 2) := by decide +kernel
theorem dL_isCanal_732 : decode cL_isCanal 732 = .ok (.iload 12, 2) := by decide +kernel
theorem dL_isCanal_734 : decode cL_isCanal 734 = .ok (.ifCond .ne 25, 3) := by decide +kernel
theorem dL_isCanal_737 : decode cL_isCanal 737 = .ok (.aload_n 0, 1) := by decide +kernel
theorem dL_isCanal_738 : decode cL_isCanal 738 = .ok (.iload 11, 2) := by decide +kernel
theorem dL_isCanal_740 : decode cL_isCanal 740 = .ok (.invokevirtual 83, 3) := by decide +kernel
theorem dL_isCanal_743 : decode cL_isCanal 743 = .ok (.ifCond .ne 16, 3) := by decide +kernel
theorem dL_isCanal_746 : decode cL_isCanal 746 = .ok (.aload_n 0, 1) := by decide +kernel
theorem dL_isCanal_747 : decode cL_isCanal 747 = .ok (.iload 11, 2) := by decide +kernel
theorem dL_isCanal_749 : decode cL_isCanal 749 = .ok (.invokevirtual 90, 3) := by decide +kernel
theorem dL_isCanal_752 : decode cL_isCanal 752 = .ok (.ifCond .ne 7, 3) := by decide +kernel
theorem dL_isCanal_755 : decode cL_isCanal 755 = .ok (.iconst 1, 1) := by decide +kernel
theorem dL_isCanal_756 : decode cL_isCanal 756 = .ok (.goto 4, 3) := by decide +kernel
theorem dL_isCanal_759 : decode cL_isCanal 759 = .ok (.iconst 0, 1) := by decide +kernel
theorem dL_isCanal_760 : decode cL_isCanal 760 = .ok (.iadd, 1) := by decide +kernel
theorem dL_isCanal_761 : decode cL_isCanal 761 = .ok (.istore 8, 2) := by decide +kernel
theorem dL_isCanal_763 : decode cL_isCanal 763 = .ok (.aload_n 0, 1) := by decide +kernel
theorem dL_isCanal_764 : decode cL_isCanal 764 = .ok (.iload 11, 2) := by decide +kernel
theorem dL_isCanal_766 : decode cL_isCanal 766 = .ok (.invokevirtual 87, 3) := by decide +kernel
theorem dL_isCanal_769 : decode cL_isCanal 769 = .ok (.ifCond .eq 17, 3) := by decide +kernel
theorem dL_isCanal_772 : decode cL_isCanal 772 = .ok (.iload 12, 2) := by decide +kernel
theorem dL_isCanal_774 : decode cL_isCanal 774 = .ok (.ifCond .eq 106, 3) := by decide +kernel
theorem dL_isCanal_777 : decode cL_isCanal 777 = .ok (.aload_n 0, 1) := by decide +kernel
theorem dL_isCanal_778 : decode cL_isCanal 778 = .ok (.iload 11, 2) := by decide +kernel
theorem dL_isCanal_780 : decode cL_isCanal 780 = .ok (.invokevirtual 74, 3) := by decide +kernel
theorem dL_isCanal_783 : decode cL_isCanal 783 = .ok (.ifCond .ne 97, 3) := by decide +kernel
theorem dL_isCanal_786 : decode cL_isCanal 786 = .ok (.aload_n 0, 1) := by decide +kernel
theorem dL_isCanal_787 : decode cL_isCanal 787 = .ok (.iload 11, 2) := by decide +kernel
theorem dL_isCanal_789 : decode cL_isCanal 789 = .ok (.invokevirtual 90, 3) := by decide +kernel
theorem dL_isCanal_792 : decode cL_isCanal 792 = .ok (.ifCond .eq 22, 3) := by decide +kernel
theorem dL_isCanal_795 : decode cL_isCanal 795 = .ok (.iload 12, 2) := by decide +kernel
theorem dL_isCanal_797 : decode cL_isCanal 797 = .ok (.ifCond .ne 83, 3) := by decide +kernel
theorem dL_isCanal_800 : decode cL_isCanal 800 = .ok (.aload_n 0, 1) := by decide +kernel
theorem dL_isCanal_801 : decode cL_isCanal 801 = .ok (.iload 11, 2) := by decide +kernel
theorem dL_isCanal_803 : decode cL_isCanal 803 = .ok (.invokevirtual 74, 3) := by decide +kernel
theorem dL_isCanal_806 : decode cL_isCanal 806 = .ok (.ifCond .ne 74, 3) := by decide +kernel
theorem dL_isCanal_809 : decode cL_isCanal 809 = .ok (.iload 13, 2) := by decide +kernel
theorem dL_isCanal_811 : decode cL_isCanal 811 = .ok (.ifCond .eq 69, 3) := by decide +kernel
theorem dL_isCanal_814 : decode cL_isCanal 814 = .ok (.aload_n 0, 1) := by decide +kernel
theorem dL_isCanal_815 : decode cL_isCanal 815 = .ok (.iload 11, 2) := by decide +kernel
theorem dL_isCanal_817 : decode cL_isCanal 817 = .ok (.invokevirtual 83, 3) := by decide +kernel
theorem dL_isCanal_820 : decode cL_isCanal 820 = .ok (.ifCond .eq 33, 3) := by decide +kernel
theorem dL_isCanal_823 : decode cL_isCanal 823 = .ok (.iload 12, 2) := by decide +kernel
theorem dL_isCanal_825 : decode cL_isCanal 825 = .ok (.ifCond .ne 55, 3) := by decide +kernel
theorem dL_isCanal_828 : decode cL_isCanal 828 = .ok (.iload 13, 2) := by decide +kernel
theorem dL_isCanal_830 : decode cL_isCanal 830 = .ok (.ifCond .ne 50, 3) := by decide +kernel
theorem dL_isCanal_833 : decode cL_isCanal 833 = .ok (.iload 10, 2) := by decide +kernel
theorem dL_isCanal_835 : decode cL_isCanal 835 = .ok (.ifCond .lt 45, 3) := by decide +kernel
theorem dL_isCanal_838 : decode cL_isCanal 838 = .ok (.aload_n 0, 1) := by decide +kernel
theorem dL_isCanal_839 : decode cL_isCanal 839 = .ok (.iload 11, 2) := by decide +kernel
theorem dL_isCanal_841 : decode cL_isCanal 841 = .ok (.invokevirtual 80, 3) := by decide +kernel
theorem dL_isCanal_844 : decode cL_isCanal 844 = .ok (.aload_n 0, 1) := by decide +kernel
theorem dL_isCanal_845 : decode cL_isCanal 845 = .ok (.iload 10, 2) := by decide +kernel
theorem dL_isCanal_847 : decode cL_isCanal 847 = .ok (.invokevirtual 80, 3) := by decide +kernel
theorem dL_isCanal_850 : decode cL_isCanal 850 = .ok (.if_icmp .lt 30, 3) := by decide +kernel
theorem dL_isCanal_853 : decode cL_isCanal 853 = .ok (.aload_n 0, 1) := by decide +kernel
theorem dL_isCanal_854 : decode cL_isCanal 854 = .ok (.iload 11, 2) := by decide +kernel
theorem dL_isCanal_856 : decode cL_isCanal 856 = .ok (.invokevirtual 83, 3) := by decide +kernel
theorem dL_isCanal_859 : decode cL_isCanal 859 = .ok (.ifCond .ne 8, 3) := by decide +kernel
theorem dL_isCanal_862 : decode cL_isCanal 862 = .ok (.iload 12, 2) := by decide +kernel
theorem dL_isCanal_864 : decode cL_isCanal 864 = .ok (.ifCond .eq 18, 3) := by decide +kernel
theorem dL_isCanal_867 : decode cL_isCanal 867 = .ok (.aload_n 0, 1) := by decide +kernel
theorem dL_isCanal_868 : decode cL_isCanal 868 = .ok (.iload 11, 2) := by decide +kernel
theorem dL_isCanal_870 : decode cL_isCanal 870 = .ok (.invokevirtual 80, 3) := by decide +kernel
theorem dL_isCanal_873 : decode cL_isCanal 873 = .ok (.aload_n 0, 1) := by decide +kernel
theorem dL_isCanal_874 : decode cL_isCanal 874 = .ok (.invokevirtual 39, 3) := by decide +kernel
theorem dL_isCanal_877 : decode cL_isCanal 877 = .ok (.if_icmp .ge 5, 3) := by decide +kernel
theorem dL_isCanal_880 : decode cL_isCanal 880 = .ok (.iconst 0, 1) := by decide +kernel
theorem dL_isCanal_881 : decode cL_isCanal 881 = .ok (.ireturn, 1) := by decide +kernel
theorem dL_isCanal_882 : decode cL_isCanal 882 = .ok (.aload_n 0, 1) := by decide +kernel
theorem dL_isCanal_883 : decode cL_isCanal 883 = .ok (.iload 11, 2) := by decide +kernel
theorem dL_isCanal_885 : decode cL_isCanal 885 = .ok (.invokevirtual 135, 3) := by decide +kernel
theorem dL_isCanal_888 : decode cL_isCanal 888 = .ok (.istore 14, 2) := by decide +kernel
theorem dL_isCanal_890 : decode cL_isCanal 890 = .ok (.iconst 0, 1) := by decide +kernel
theorem dL_isCanal_891 : decode cL_isCanal 891 = .ok (.istore 15, 2) := by decide +kernel
theorem dL_isCanal_893 : decode cL_isCanal 893 = .ok (.iload 15, 2) := by decide +kernel
theorem dL_isCanal_895 : decode cL_isCanal 895 = .ok (.aload_n 0, 1) := by decide +kernel
theorem dL_isCanal_896 : decode cL_isCanal 896 = .ok (.invokevirtual 30, 3) := by decide +kernel
theorem dL_isCanal_899 : decode cL_isCanal 899 = .ok (.if_icmp .ge 46, 3) := by decide +kernel
theorem dL_isCanal_902 : decode cL_isCanal 902 = .ok (.aload_n 0, 1) := by decide +kernel
theorem dL_isCanal_903 : decode cL_isCanal 903 = .ok (.aload_n 0, 1) := by decide +kernel
theorem dL_isCanal_904 : decode cL_isCanal 904 = .ok (.iload 15, 2) := by decide +kernel
theorem dL_isCanal_906 : decode cL_isCanal 906 = .ok (.invokevirtual 51, 3) := by decide +kernel
theorem dL_isCanal_909 : decode cL_isCanal 909 = .ok (.aload_n 0, 1) := by decide +kernel
theorem dL_isCanal_910 : decode cL_isCanal 910 = .ok (.iload 11, 2) := by decide +kernel
theorem dL_isCanal_912 : decode cL_isCanal 912 = .ok (.invokevirtual 138, 3) := by decide +kernel
theorem dL_isCanal_915 : decode cL_isCanal 915 = .ok (.invokevirtual 102, 3) := by decide +kernel
theorem dL_isCanal_918 : decode cL_isCanal 918 = .ok (.aload_n 0, 1) := by decide +kernel
theorem dL_isCanal_919 : decode cL_isCanal 919 = .ok (.aload_n 0, 1) := by decide +kernel
theorem dL_isCanal_920 : decode cL_isCanal 920 = .ok (.iload 14, 2) := by decide +kernel
theorem dL_isCanal_922 : decode cL_isCanal 922 = .ok (.invokevirtual 51, 3) := by decide +kernel
theorem dL_isCanal_925 : decode cL_isCanal 925 = .ok (.aload_n 0, 1) := by decide +kernel
theorem dL_isCanal_926 : decode cL_isCanal 926 = .ok (.iload 11, 2) := by decide +kernel
theorem dL_isCanal_928 : decode cL_isCanal 928 = .ok (.invokevirtual 138, 3) := by decide +kernel
theorem dL_isCanal_931 : decode cL_isCanal 931 = .ok (.invokevirtual 102, 3) := by decide +kernel
theorem dL_isCanal_934 : decode cL_isCanal 934 = .ok (.if_icmp .ge 5, 3) := by decide +kernel
theorem dL_isCanal_937 : decode cL_isCanal 937 = .ok (.iconst 0, 1) := by decide +kernel
theorem dL_isCanal_938 : decode cL_isCanal 938 = .ok (.ireturn, 1) := by decide +kernel
theorem dL_isCanal_939 : decode cL_isCanal 939 = .ok (.iinc 15 1, 3) := by decide +kernel
theorem dL_isCanal_942 : decode cL_isCanal 942 = .ok (.goto (-49), 3) := by decide +kernel
theorem dL_isCanal_945 : decode cL_isCanal 945 = .ok (.iinc 11 1, 3) := by decide +kernel
theorem dL_isCanal_948 : decode cL_isCanal 948 = .ok (.goto (-336), 3) := by decide +kernel
theorem dL_isCanal_951 : decode cL_isCanal 951 = .ok (.iload_n 1, 1) := by decide +kernel
theorem dL_isCanal_952 : decode cL_isCanal 952 = .ok (.iload_n 2, 1) := by decide +kernel
theorem dL_isCanal_953 : decode cL_isCanal 953 = .ok (.iadd, 1) := by decide +kernel
theorem dL_isCanal_954 : decode cL_isCanal 954 = .ok (.aload_n 0, 1) := by decide +kernel
theorem dL_isCanal_955 : decode cL_isCanal 955 = .ok (.invokevirtual 30, 3) := by decide +kernel
theorem dL_isCanal_958 : decode cL_isCanal 958 = .ok (.if_icmp .ne 115, 3) := by decide +kernel
theorem dL_isCanal_961 : decode cL_isCanal 961 = .ok (.iload_n 3, 1) := by decide +kernel
theorem dL_isCanal_962 : decode cL_isCanal 962 = .ok (.iload 6, 2) := by decide +kernel
theorem dL_isCanal_964 : decode cL_isCanal 964 = .ok (.iload 4, 2) := by decide +kernel
theorem dL_isCanal_966 : decode cL_isCanal 966 = .ok (.iadd, 1) := by decide +kernel
theorem dL_isCanal_967 : decode cL_isCanal 967 = .ok (.iload 5, 2) := by decide +kernel
theorem dL_isCanal_969 : decode cL_isCanal 969 = .ok (.iadd, 1) := by decide +kernel
theorem dL_isCanal_970 : decode cL_isCanal 970 = .ok (.if_icmp .ne 103, 3) := by decide +kernel
theorem dL_isCanal_973 : decode cL_isCanal 973 = .ok (.iload 8, 2) := by decide +kernel
theorem dL_isCanal_975 : decode cL_isCanal 975 = .ok (.aload_n 0, 1) := by decide +kernel
theorem dL_isCanal_976 : decode cL_isCanal 976 = .ok (.invokevirtual 48, 3) := by decide +kernel
theorem dL_isCanal_979 : decode cL_isCanal 979 = .ok (.if_icmp .ne 94, 3) := by decide +kernel
theorem dL_isCanal_982 : decode cL_isCanal 982 = .ok (.iload 9, 2) := by decide +kernel
theorem dL_isCanal_984 : decode cL_isCanal 984 = .ok (.aload_n 0, 1) := by decide +kernel
theorem dL_isCanal_985 : decode cL_isCanal 985 = .ok (.invokevirtual 45, 3) := by decide +kernel
theorem dL_isCanal_988 : decode cL_isCanal 988 = .ok (.if_icmp .ne 85, 3) := by decide +kernel
theorem dL_isCanal_991 : decode cL_isCanal 991 = .ok (.iload_n 3, 1) := by decide +kernel
theorem dL_isCanal_992 : decode cL_isCanal 992 = .ok (.iload 7, 2) := by decide +kernel
theorem dL_isCanal_994 : decode cL_isCanal 994 = .ok (.iadd, 1) := by decide +kernel
theorem dL_isCanal_995 : decode cL_isCanal 995 = .ok (.iload 8, 2) := by decide +kernel
theorem dL_isCanal_997 : decode cL_isCanal 997 = .ok (.iadd, 1) := by decide +kernel
theorem dL_isCanal_998 : decode cL_isCanal 998 = .ok (.aload_n 0, 1) := by decide +kernel
theorem dL_isCanal_999 : decode cL_isCanal 999 = .ok (.invokevirtual 33, 3) := by decide +kernel
theorem dL_isCanal_1002 : decode cL_isCanal 1002 = .ok (.if_icmp .ne 71, 3) := by decide +kernel
theorem dL_isCanal_1005 : decode cL_isCanal 1005 = .ok (.aload_n 0, 1) := by decide +kernel
theorem dL_isCanal_1006 : decode cL_isCanal 1006 = .ok (.invokevirtual 141, 3) := by decide +kernel
theorem dL_isCanal_1009 : decode cL_isCanal 1009 = .ok (.iload 7, 2) := by decide +kernel
theorem dL_isCanal_1011 : decode cL_isCanal 1011 = .ok (.iload 8, 2) := by decide +kernel
theorem dL_isCanal_1013 : decode cL_isCanal 1013 = .ok (.iadd, 1) := by decide +kernel
theorem dL_isCanal_1014 : decode cL_isCanal 1014 = .ok (.ifCond .ne 7, 3) := by decide +kernel
theorem dL_isCanal_1017 : decode cL_isCanal 1017 = .ok (.fconst 0, 1) := by decide +kernel
theorem dL_isCanal_1018 : decode cL_isCanal 1018 = .ok (.goto 13, 3) := by decide +kernel
theorem dL_isCanal_1021 : decode cL_isCanal 1021 = .ok (.iload 7, 2) := by decide +kernel
theorem dL_isCanal_1023 : decode cL_isCanal 1023 = .ok (.i2f, 1) := by decide +kernel
theorem dL_isCanal_1024 : decode cL_isCanal 1024 = .ok (.iload 7, 2) := by decide +kernel
theorem dL_isCanal_1026 : decode cL_isCanal 1026 = .ok (.iload 8, 2) := by decide +kernel
theorem dL_isCanal_1028 : decode cL_isCanal 1028 = .ok (.iadd, 1) := by decide +kernel
theorem dL_isCanal_1029 : decode cL_isCanal 1029 = .ok (.i2f, 1) := by decide +kernel
theorem dL_isCanal_1030 : decode cL_isCanal 1030 = .ok (.fdiv, 1) := by decide +kernel
theorem dL_isCanal_1031 : decode cL_isCanal 1031 = .ok (.fcmp .l, 1) := by decide +kernel
theorem dL_isCanal_1032 : decode cL_isCanal 1032 = .ok (.ifCond .ne 41, 3) := by decide +kernel
theorem dL_isCanal_1035 : decode cL_isCanal 1035 = .ok (.aload_n 0, 1) := by decide +kernel
theorem dL_isCanal_1036 : decode cL_isCanal 1036 = .ok (.iconst 0, 1) := by decide +kernel
theorem dL_isCanal_1037 : decode cL_isCanal 1037 = .ok (.invokevirtual 145, 3) := by decide +kernel
theorem dL_isCanal_1040 : decode cL_isCanal 1040 = .ok (.aload_n 0, 1) := by decide +kernel
theorem dL_isCanal_1041 : decode cL_isCanal 1041 = .ok (.invokevirtual 42, 3) := by decide +kernel
theorem dL_isCanal_1044 : decode cL_isCanal 1044 = .ok (.if_icmp .ne 29, 3) := by decide +kernel
theorem dL_isCanal_1047 : decode cL_isCanal 1047 = .ok (.aload_n 0, 1) := by decide +kernel
theorem dL_isCanal_1048 : decode cL_isCanal 1048 = .ok (.invokevirtual 148, 3) := by decide +kernel
theorem dL_isCanal_1051 : decode cL_isCanal 1051 = .ok (.iconst 2, 1) := by decide +kernel
theorem dL_isCanal_1052 : decode cL_isCanal 1052 = .ok (.aload_n 0, 1) := by decide +kernel
theorem dL_isCanal_1053 : decode cL_isCanal 1053 = .ok (.invokevirtual 36, 3) := by decide +kernel
theorem dL_isCanal_1056 : decode cL_isCanal 1056 = .ok (.imul, 1) := by decide +kernel
theorem dL_isCanal_1057 : decode cL_isCanal 1057 = .ok (.iconst 1, 1) := by decide +kernel
theorem dL_isCanal_1058 : decode cL_isCanal 1058 = .ok (.isub, 1) := by decide +kernel
theorem dL_isCanal_1059 : decode cL_isCanal 1059 = .ok (.if_icmp .ne 14, 3) := by decide +kernel
theorem dL_isCanal_1062 : decode cL_isCanal 1062 = .ok (.aload_n 0, 1) := by decide +kernel
theorem dL_isCanal_1063 : decode cL_isCanal 1063 = .ok (.invokevirtual 151, 3) := by decide +kernel
theorem dL_isCanal_1066 : decode cL_isCanal 1066 = .ok (.ifCond .ne 7, 3) := by decide +kernel
theorem dL_isCanal_1069 : decode cL_isCanal 1069 = .ok (.iconst 1, 1) := by decide +kernel
theorem dL_isCanal_1070 : decode cL_isCanal 1070 = .ok (.goto 4, 3) := by decide +kernel
theorem dL_isCanal_1073 : decode cL_isCanal 1073 = .ok (.iconst 0, 1) := by decide +kernel
theorem dL_isCanal_1074 : decode cL_isCanal 1074 = .ok (.ireturn, 1) := by decide +kernel
theorem dL_act_0 : decode cL_act 0 = .ok (.iload_n 1, 1) := by decide +kernel
theorem dL_act_1 : decode cL_act 1 = .ok (.bipush 24, 2) := by decide +kernel
theorem dL_act_3 : decode cL_act 3 = .ok (.invokestatic 154, 3) := by decide +kernel
theorem dL_act_6 : decode cL_act 6 = .ok (.istore_n 2, 1) := by decide +kernel
theorem dL_act_7 : decode cL_act 7 = .ok (.iload_n 1, 1) := by decide +kernel
theorem dL_act_8 : decode cL_act 8 = .ok (.iconst 4, 1) := by decide +kernel
theorem dL_act_9 : decode cL_act 9 = .ok (.ishr, 1) := by decide +kernel
theorem dL_act_10 : decode cL_act 10 = .ok (.istore_n 3, 1) := by decide +kernel
theorem dL_act_11 : decode cL_act 11 = .ok (.iload_n 3, 1) := by decide +kernel
theorem dL_act_12 : decode cL_act 12 = .ok (.aload_n 0, 1) := by decide +kernel
theorem dL_act_13 : decode cL_act 13 = .ok (.invokevirtual 30, 3) := by decide +kernel
theorem dL_act_16 : decode cL_act 16 = .ok (.invokestatic 154, 3) := by decide +kernel
theorem dL_act_19 : decode cL_act 19 = .ok (.istore 4, 2) := by decide +kernel
theorem dL_act_21 : decode cL_act 21 = .ok (.iload_n 3, 1) := by decide +kernel
theorem dL_act_22 : decode cL_act 22 = .ok (.iconst 2, 1) := by decide +kernel
theorem dL_act_23 : decode cL_act 23 = .ok (.ishr, 1) := by decide +kernel
theorem dL_act_24 : decode cL_act 24 = .ok (.aload_n 0, 1) := by decide +kernel
theorem dL_act_25 : decode cL_act 25 = .ok (.invokevirtual 36, 3) := by decide +kernel
theorem dL_act_28 : decode cL_act 28 = .ok (.invokestatic 154, 3) := by decide +kernel
theorem dL_act_31 : decode cL_act 31 = .ok (.istore 5, 2) := by decide +kernel
theorem dL_act_33 : decode cL_act 33 = .ok (.aload_n 0, 1) := by decide +kernel
theorem dL_act_34 : decode cL_act 34 = .ok (.invokevirtual 33, 3) := by decide +kernel
theorem dL_act_37 : decode cL_act 37 = .ok (.istore 6, 2) := by decide +kernel
theorem dL_act_39 : decode cL_act 39 = .ok (.iload_n 2, 1) := by decide +kernel
theorem dL_act_40 : decode cL_act 40 = .ok (.bipush 6, 2) := by decide +kernel
theorem dL_act_42 : decode cL_act 42 = .ok (.if_icmp .ge 170, 3) := by decide +kernel
theorem dL_act_45 : decode cL_act 45 = .ok (.aload_n 0, 1) := by decide +kernel
theorem dL_act_46 : decode cL_act 46 = .ok (.iload 4, 2) := by decide +kernel
theorem dL_act_48 : decode cL_act 48 = .ok (.iload 5, 2) := by decide +kernel
theorem dL_act_50 : decode cL_act 50 = .ok (.invokevirtual 126, 3) := by decide +kernel
theorem dL_act_53 : decode cL_act 53 = .ok (.istore 7, 2) := by decide +kernel
theorem dL_act_55 : decode cL_act 55 = .ok (.iload 7, 2) := by decide +kernel
theorem dL_act_57 : decode cL_act 57 = .ok (.ifCond .le 63, 3) := by decide +kernel
theorem dL_act_60 : decode cL_act 60 = .ok (.iload 7, 2) := by decide +kernel
theorem dL_act_62 : decode cL_act 62 = .ok (.iconst 1, 1) := by decide +kernel
theorem dL_act_63 : decode cL_act 63 = .ok (.if_icmp .ne 20, 3) := by decide +kernel
theorem dL_act_66 : decode cL_act 66 = .ok (.aload_n 0, 1) := by decide +kernel
theorem dL_act_67 : decode cL_act 67 = .ok (.iload 4, 2) := by decide +kernel
theorem dL_act_69 : decode cL_act 69 = .ok (.invokevirtual 58, 3) := by decide +kernel
theorem dL_act_72 : decode cL_act 72 = .ok (.ifCond .le 7, 3) := by decide +kernel
theorem dL_act_75 : decode cL_act 75 = .ok (.iconst 1, 1) := by decide +kernel
theorem dL_act_76 : decode cL_act 76 = .ok (.goto 43, 3) := by decide +kernel
theorem dL_act_79 : decode cL_act 79 = .ok (.iconst 0, 1) := by decide +kernel
theorem dL_act_80 : decode cL_act 80 = .ok (.goto 39, 3) := by decide +kernel
theorem dL_act_83 : decode cL_act 83 = .ok (.iload 7, 2) := by decide +kernel
theorem dL_act_85 : decode cL_act 85 = .ok (.iconst 2, 1) := by decide +kernel
theorem dL_act_86 : decode cL_act 86 = .ok (.if_icmp .ne 22, 3) := by decide +kernel
theorem dL_act_89 : decode cL_act 89 = .ok (.aload_n 0, 1) := by decide +kernel
theorem dL_act_90 : decode cL_act 90 = .ok (.iload 4, 2) := by decide +kernel
theorem dL_act_92 : decode cL_act 92 = .ok (.invokevirtual 55, 3) := by decide +kernel
theorem dL_act_95 : decode cL_act 95 = .ok (.iload 5, 2) := by decide +kernel
theorem dL_act_97 : decode cL_act 97 = .ok (.if_icmp .ne 7, 3) := by decide +kernel
theorem dL_act_100 : decode cL_act 100 = .ok (.iconst 1, 1) := by decide +kernel
theorem dL_act_101 : decode cL_act 101 = .ok (.goto 18, 3) := by decide +kernel
theorem dL_act_104 : decode cL_act 104 = .ok (.iconst 0, 1) := by decide +kernel
theorem dL_act_105 : decode cL_act 105 = .ok (.goto 14, 3) := by decide +kernel
theorem dL_act_108 : decode cL_act 108 = .ok (.iload 7, 2) := by decide +kernel
theorem dL_act_110 : decode cL_act 110 = .ok (.iconst 3, 1) := by decide +kernel
theorem dL_act_111 : decode cL_act 111 = .ok (.if_icmp .ne 7, 3) := by decide +kernel
theorem dL_act_114 : decode cL_act 114 = .ok (.iconst 1, 1) := by decide +kernel
theorem dL_act_115 : decode cL_act 115 = .ok (.goto 4, 3) := by decide +kernel
theorem dL_act_118 : decode cL_act 118 = .ok (.iconst 0, 1) := by decide +kernel
theorem dL_act_119 : decode cL_act 119 = .ok (.ireturn, 1) := by decide +kernel
theorem dL_act_120 : decode cL_act 120 = .ok (.aload_n 0, 1) := by decide +kernel
theorem dL_act_121 : decode cL_act 121 = .ok (.iload 4, 2) := by decide +kernel
theorem dL_act_123 : decode cL_act 123 = .ok (.invokevirtual 51, 3) := by decide +kernel
theorem dL_act_126 : decode cL_act 126 = .ok (.istore 8, 2) := by decide +kernel
theorem dL_act_128 : decode cL_act 128 = .ok (.aload_n 0, 1) := by decide +kernel
theorem dL_act_129 : decode cL_act 129 = .ok (.iload 8, 2) := by decide +kernel
theorem dL_act_131 : decode cL_act 131 = .ok (.iload 5, 2) := by decide +kernel
theorem dL_act_133 : decode cL_act 133 = .ok (.invokevirtual 102, 3) := by decide +kernel
theorem dL_act_136 : decode cL_act 136 = .ok (.istore 9, 2) := by decide +kernel
theorem dL_act_138 : decode cL_act 138 = .ok (.aload_n 0, 1) := by decide +kernel
theorem dL_act_139 : decode cL_act 139 = .ok (.iload 4, 2) := by decide +kernel
theorem dL_act_141 : decode cL_act 141 = .ok (.iload 5, 2) := by decide +kernel
theorem dL_act_143 : decode cL_act 143 = .ok (.invokevirtual 157, 3) := by decide +kernel
theorem dL_act_146 : decode cL_act 146 = .ok (.iload 9, 2) := by decide +kernel
theorem dL_act_148 : decode cL_act 148 = .ok (.if_icmp .ne 62, 3) := by decide +kernel
theorem dL_act_151 : decode cL_act 151 = .ok (.aload_n 0, 1) := by decide +kernel
theorem dL_act_152 : decode cL_act 152 = .ok (.iload 4, 2) := by decide +kernel
theorem dL_act_154 : decode cL_act 154 = .ok (.invokevirtual 55, 3) := by decide +kernel
theorem dL_act_157 : decode cL_act 157 = .ok (.iload 5, 2) := by decide +kernel
theorem dL_act_159 : decode cL_act 159 = .ok (.if_icmp .ne 51, 3) := by decide +kernel
theorem dL_act_162 : decode cL_act 162 = .ok (.aload_n 0, 1) := by decide +kernel
theorem dL_act_163 : decode cL_act 163 = .ok (.iload 4, 2) := by decide +kernel
theorem dL_act_165 : decode cL_act 165 = .ok (.invokevirtual 51, 3) := by decide +kernel
theorem dL_act_168 : decode cL_act 168 = .ok (.iload 8, 2) := by decide +kernel
theorem dL_act_170 : decode cL_act 170 = .ok (.if_icmp .ne 40, 3) := by decide +kernel
theorem dL_act_173 : decode cL_act 173 = .ok (.aload_n 0, 1) := by decide +kernel
theorem dL_act_174 : decode cL_act 174 = .ok (.iload 4, 2) := by decide +kernel
theorem dL_act_176 : decode cL_act 176 = .ok (.iload 5, 2) := by decide +kernel
theorem dL_act_178 : decode cL_act 178 = .ok (.invokevirtual 126, 3) := by decide +kernel
theorem dL_act_181 : decode cL_act 181 = .ok (.iconst 2, 1) := by decide +kernel
theorem dL_act_182 : decode cL_act 182 = .ok (.if_icmp .ne 28, 3) := by decide +kernel
theorem dL_act_185 : decode cL_act 185 = .ok (.aload_n 0, 1) := by decide +kernel
theorem dL_act_186 : decode cL_act 186 = .ok (.iload 4, 2) := by decide +kernel
theorem dL_act_188 : decode cL_act 188 = .ok (.invokevirtual 123, 3) := by decide +kernel
theorem dL_act_191 : decode cL_act 191 = .ok (.iload 9, 2) := by decide +kernel
theorem dL_act_193 : decode cL_act 193 = .ok (.if_icmp .ge 13, 3) := by decide +kernel
theorem dL_act_196 : decode cL_act 196 = .ok (.aload_n 0, 1) := by decide +kernel
theorem dL_act_197 : decode cL_act 197 = .ok (.iload 4, 2) := by decide +kernel
theorem dL_act_199 : decode cL_act 199 = .ok (.invokevirtual 123, 3) := by decide +kernel
theorem dL_act_202 : decode cL_act 202 = .ok (.iconst (-1), 1) := by decide +kernel
theorem dL_act_203 : decode cL_act 203 = .ok (.if_icmp .ne 7, 3) := by decide +kernel
theorem dL_act_206 : decode cL_act 206 = .ok (.iconst 1, 1) := by decide +kernel
theorem dL_act_207 : decode cL_act 207 = .ok (.goto 4, 3) := by decide +kernel
theorem dL_act_210 : decode cL_act 210 = .ok (.iconst 0, 1) := by decide +kernel
theorem dL_act_211 : decode cL_act 211 = .ok (.ireturn, 1) := by decide +kernel
theorem dL_act_212 : decode cL_act 212 = .ok (.iload_n 2, 1) := by decide +kernel
theorem dL_act_213 : decode cL_act 213 = .ok (.bipush 8, 2) := by decide +kernel
theorem dL_act_215 : decode cL_act 215 = .ok (.if_icmp .lt 8, 3) := by decide +kernel
theorem dL_act_218 : decode cL_act 218 = .ok (.iload 6, 2) := by decide +kernel
theorem dL_act_220 : decode cL_act 220 = .ok (.ifCond .ne 135, 3) := by decide +kernel
theorem dL_act_223 : decode cL_act 223 = .ok (.iload 6, 2) := by decide +kernel
theorem dL_act_225 : decode cL_act 225 = .ok (.bipush 30, 2) := by decide +kernel
theorem dL_act_227 : decode cL_act 227 = .ok (.if_icmp .ne 18, 3) := by decide +kernel
theorem dL_act_230 : decode cL_act 230 = .ok (.aload_n 0, 1) := by decide +kernel
theorem dL_act_231 : decode cL_act 231 = .ok (.invokevirtual 33, 3) := by decide +kernel
theorem dL_act_234 : decode cL_act 234 = .ok (.bipush 30, 2) := by decide +kernel
theorem dL_act_236 : decode cL_act 236 = .ok (.if_icmp .ne 7, 3) := by decide +kernel
theorem dL_act_239 : decode cL_act 239 = .ok (.iconst 1, 1) := by decide +kernel
theorem dL_act_240 : decode cL_act 240 = .ok (.goto 4, 3) := by decide +kernel
theorem dL_act_243 : decode cL_act 243 = .ok (.iconst 0, 1) := by decide +kernel
theorem dL_act_244 : decode cL_act 244 = .ok (.ireturn, 1) := by decide +kernel
theorem dL_act_245 : decode cL_act 245 = .ok (.iconst 1, 1) := by decide +kernel
theorem dL_act_246 : decode cL_act 246 = .ok (.iload_n 3, 1) := by decide +kernel
theorem dL_act_247 : decode cL_act 247 = .ok (.iconst 4, 1) := by decide +kernel
theorem dL_act_248 : decode cL_act 248 = .ok (.invokestatic 154, 3) := by decide +kernel
theorem dL_act_251 : decode cL_act 251 = .ok (.iadd, 1) := by decide +kernel
theorem dL_act_252 : decode cL_act 252 = .ok (.istore 7, 2) := by decide +kernel
theorem dL_act_254 : decode cL_act 254 = .ok (.iconst 1, 1) := by decide +kernel
theorem dL_act_255 : decode cL_act 255 = .ok (.iload_n 3, 1) := by decide +kernel
theorem dL_act_256 : decode cL_act 256 = .ok (.iconst 3, 1) := by decide +kernel
theorem dL_act_257 : decode cL_act 257 = .ok (.ishr, 1) := by decide +kernel
theorem dL_act_258 : decode cL_act 258 = .ok (.bipush 6, 2) := by decide +kernel
theorem dL_act_260 : decode cL_act 260 = .ok (.invokestatic 154, 3) := by decide +kernel
theorem dL_act_263 : decode cL_act 263 = .ok (.iadd, 1) := by decide +kernel
theorem dL_act_264 : decode cL_act 264 = .ok (.istore 8, 2) := by decide +kernel
theorem dL_act_266 : decode cL_act 266 = .ok (.iconst 1, 1) := by decide +kernel
theorem dL_act_267 : decode cL_act 267 = .ok (.iload_n 3, 1) := by decide +kernel
theorem dL_act_268 : decode cL_act 268 = .ok (.iconst 4, 1) := by decide +kernel
theorem dL_act_269 : decode cL_act 269 = .ok (.ishr, 1) := by decide +kernel
theorem dL_act_270 : decode cL_act 270 = .ok (.bipush 60, 2) := by decide +kernel
theorem dL_act_272 : decode cL_act 272 = .ok (.invokestatic 154, 3) := by decide +kernel
theorem dL_act_275 : decode cL_act 275 = .ok (.iadd, 1) := by decide +kernel
theorem dL_act_276 : decode cL_act 276 = .ok (.istore 9, 2) := by decide +kernel
theorem dL_act_278 : decode cL_act 278 = .ok (.aload_n 0, 1) := by decide +kernel
theorem dL_act_279 : decode cL_act 279 = .ok (.iload 5, 2) := by decide +kernel
theorem dL_act_281 : decode cL_act 281 = .ok (.iload 7, 2) := by decide +kernel
theorem dL_act_283 : decode cL_act 283 = .ok (.iload 8, 2) := by decide +kernel
theorem dL_act_285 : decode cL_act 285 = .ok (.iload 9, 2) := by decide +kernel
theorem dL_act_287 : decode cL_act 287 = .ok (.invokevirtual 160, 3) := by decide +kernel
theorem dL_act_290 : decode cL_act 290 = .ok (.iload 6, 2) := by decide +kernel
theorem dL_act_292 : decode cL_act 292 = .ok (.if_icmp .ne 61, 3) := by decide +kernel
theorem dL_act_295 : decode cL_act 295 = .ok (.aload_n 0, 1) := by decide +kernel
theorem dL_act_296 : decode cL_act 296 = .ok (.iload 6, 2) := by decide +kernel
theorem dL_act_298 : decode cL_act 298 = .ok (.invokevirtual 83, 3) := by decide +kernel
theorem dL_act_301 : decode cL_act 301 = .ok (.ifCond .eq 52, 3) := by decide +kernel
theorem dL_act_304 : decode cL_act 304 = .ok (.aload_n 0, 1) := by decide +kernel
theorem dL_act_305 : decode cL_act 305 = .ok (.iload 6, 2) := by decide +kernel
theorem dL_act_307 : decode cL_act 307 = .ok (.invokevirtual 80, 3) := by decide +kernel
theorem dL_act_310 : decode cL_act 310 = .ok (.aload_n 0, 1) := by decide +kernel
theorem dL_act_311 : decode cL_act 311 = .ok (.invokevirtual 39, 3) := by decide +kernel
theorem dL_act_314 : decode cL_act 314 = .ok (.iload 9, 2) := by decide +kernel
theorem dL_act_316 : decode cL_act 316 = .ok (.iadd, 1) := by decide +kernel
theorem dL_act_317 : decode cL_act 317 = .ok (.iconst 1, 1) := by decide +kernel
theorem dL_act_318 : decode cL_act 318 = .ok (.isub, 1) := by decide +kernel
theorem dL_act_319 : decode cL_act 319 = .ok (.if_icmp .ne 34, 3) := by decide +kernel
theorem dL_act_322 : decode cL_act 322 = .ok (.aload_n 0, 1) := by decide +kernel
theorem dL_act_323 : decode cL_act 323 = .ok (.iload 6, 2) := by decide +kernel
theorem dL_act_325 : decode cL_act 325 = .ok (.invokevirtual 164, 3) := by decide +kernel
theorem dL_act_328 : decode cL_act 328 = .ok (.iload 7, 2) := by decide +kernel
theorem dL_act_330 : decode cL_act 330 = .ok (.iconst 3, 1) := by decide +kernel
theorem dL_act_331 : decode cL_act 331 = .ok (.iload 8, 2) := by decide +kernel
theorem dL_act_333 : decode cL_act 333 = .ok (.iadd, 1) := by decide +kernel
theorem dL_act_334 : decode cL_act 334 = .ok (.imul, 1) := by decide +kernel
theorem dL_act_335 : decode cL_act 335 = .ok (.if_icmp .ne 18, 3) := by decide +kernel
theorem dL_act_338 : decode cL_act 338 = .ok (.aload_n 0, 1) := by decide +kernel
theorem dL_act_339 : decode cL_act 339 = .ok (.iload 6, 2) := by decide +kernel
theorem dL_act_341 : decode cL_act 341 = .ok (.invokevirtual 74, 3) := by decide +kernel
theorem dL_act_344 : decode cL_act 344 = .ok (.iload 8, 2) := by decide +kernel
theorem dL_act_346 : decode cL_act 346 = .ok (.if_icmp .ne 7, 3) := by decide +kernel
theorem dL_act_349 : decode cL_act 349 = .ok (.iconst 1, 1) := by decide +kernel
theorem dL_act_350 : decode cL_act 350 = .ok (.goto 4, 3) := by decide +kernel
theorem dL_act_353 : decode cL_act 353 = .ok (.iconst 0, 1) := by decide +kernel
theorem dL_act_354 : decode cL_act 354 = .ok (.ireturn, 1) := by decide +kernel
theorem dL_act_355 : decode cL_act 355 = .ok (.iload_n 3, 1) := by decide +kernel
theorem dL_act_356 : decode cL_act 356 = .ok (.iconst 3, 1) := by decide +kernel
theorem dL_act_357 : decode cL_act 357 = .ok (.ishr, 1) := by decide +kernel
theorem dL_act_358 : decode cL_act 358 = .ok (.iload 6, 2) := by decide +kernel
theorem dL_act_360 : decode cL_act 360 = .ok (.invokestatic 154, 3) := by decide +kernel
theorem dL_act_363 : decode cL_act 363 = .ok (.istore 7, 2) := by decide +kernel
theorem dL_act_365 : decode cL_act 365 = .ok (.iload_n 2, 1) := by decide +kernel
theorem dL_act_366 : decode cL_act 366 = .ok (.bipush 12, 2) := by decide +kernel
theorem dL_act_368 : decode cL_act 368 = .ok (.if_icmp .ge 125, 3) := by decide +kernel
theorem dL_act_371 : decode cL_act 371 = .ok (.aload_n 0, 1) := by decide +kernel
theorem dL_act_372 : decode cL_act 372 = .ok (.iload 4, 2) := by decide +kernel
theorem dL_act_374 : decode cL_act 374 = .ok (.invokevirtual 111, 3) := by decide +kernel
theorem dL_act_377 : decode cL_act 377 = .ok (.istore 8, 2) := by decide +kernel
theorem dL_act_379 : decode cL_act 379 = .ok (.aload_n 0, 1) := by decide +kernel
theorem dL_act_380 : decode cL_act 380 = .ok (.iload 7, 2) := by decide +kernel
theorem dL_act_382 : decode cL_act 382 = .ok (.invokevirtual 83, 3) := by decide +kernel
theorem dL_act_385 : decode cL_act 385 = .ok (.ifCond .eq 16, 3) := by decide +kernel
theorem dL_act_388 : decode cL_act 388 = .ok (.iload 8, 2) := by decide +kernel
theorem dL_act_390 : decode cL_act 390 = .ok (.aload_n 0, 1) := by decide +kernel
theorem dL_act_391 : decode cL_act 391 = .ok (.iload 4, 2) := by decide +kernel
theorem dL_act_393 : decode cL_act 393 = .ok (.invokevirtual 117, 3) := by decide +kernel
theorem dL_act_396 : decode cL_act 396 = .ok (.iadd, 1) := by decide +kernel
theorem dL_act_397 : decode cL_act 397 = .ok (.iconst 4, 1) := by decide +kernel
theorem dL_act_398 : decode cL_act 398 = .ok (.if_icmp .ne 24, 3) := by decide +kernel
theorem dL_act_401 : decode cL_act 401 = .ok (.aload_n 0, 1) := by decide +kernel
theorem dL_act_402 : decode cL_act 402 = .ok (.iload 7, 2) := by decide +kernel
theorem dL_act_404 : decode cL_act 404 = .ok (.invokevirtual 83, 3) := by decide +kernel
theorem dL_act_407 : decode cL_act 407 = .ok (.ifCond .eq 9, 3) := by decide +kernel
theorem dL_act_410 : decode cL_act 410 = .ok (.iload 8, 2) := by decide +kernel
theorem dL_act_412 : decode cL_act 412 = .ok (.iconst 4, 1) := by decide +kernel
theorem dL_act_413 : decode cL_act 413 = .ok (.if_icmp .gt 7, 3) := by decide +kernel
theorem dL_act_416 : decode cL_act 416 = .ok (.iconst 1, 1) := by decide +kernel
theorem dL_act_417 : decode cL_act 417 = .ok (.goto 4, 3) := by decide +kernel
theorem dL_act_420 : decode cL_act 420 = .ok (.iconst 0, 1) := by decide +kernel
theorem dL_act_421 : decode cL_act 421 = .ok (.ireturn, 1) := by decide +kernel
theorem dL_act_422 : decode cL_act 422 = .ok (.aload_n 0, 1) := by decide +kernel
theorem dL_act_423 : decode cL_act 423 = .ok (.iload 4, 2) := by decide +kernel
theorem dL_act_425 : decode cL_act 425 = .ok (.invokevirtual 120, 3) := by decide +kernel
theorem dL_act_428 : decode cL_act 428 = .ok (.istore 9, 2) := by decide +kernel
theorem dL_act_430 : decode cL_act 430 = .ok (.aload_n 0, 1) := by decide +kernel
theorem dL_act_431 : decode cL_act 431 = .ok (.iload 4, 2) := by decide +kernel
theorem dL_act_433 : decode cL_act 433 = .ok (.iload 7, 2) := by decide +kernel
theorem dL_act_435 : decode cL_act 435 = .ok (.invokevirtual 167, 3) := by decide +kernel
theorem dL_act_438 : decode cL_act 438 = .ok (.iload 8, 2) := by decide +kernel
theorem dL_act_440 : decode cL_act 440 = .ok (.iconst 1, 1) := by decide +kernel
theorem dL_act_441 : decode cL_act 441 = .ok (.iadd, 1) := by decide +kernel
theorem dL_act_442 : decode cL_act 442 = .ok (.if_icmp .ne 49, 3) := by decide +kernel
theorem dL_act_445 : decode cL_act 445 = .ok (.aload_n 0, 1) := by decide +kernel
theorem dL_act_446 : decode cL_act 446 = .ok (.iload 4, 2) := by decide +kernel
theorem dL_act_448 : decode cL_act 448 = .ok (.iload 8, 2) := by decide +kernel
theorem dL_act_450 : decode cL_act 450 = .ok (.invokevirtual 70, 3) := by decide +kernel
theorem dL_act_453 : decode cL_act 453 = .ok (.iload 7, 2) := by decide +kernel
theorem dL_act_455 : decode cL_act 455 = .ok (.if_icmp .ne 36, 3) := by decide +kernel
theorem dL_act_458 : decode cL_act 458 = .ok (.aload_n 0, 1) := by decide +kernel
theorem dL_act_459 : decode cL_act 459 = .ok (.iload 7, 2) := by decide +kernel
theorem dL_act_461 : decode cL_act 461 = .ok (.invokevirtual 77, 3) := by decide +kernel
theorem dL_act_464 : decode cL_act 464 = .ok (.iload 4, 2) := by decide +kernel
theorem dL_act_466 : decode cL_act 466 = .ok (.if_icmp .ne 25, 3) := by decide +kernel
theorem dL_act_469 : decode cL_act 469 = .ok (.aload_n 0, 1) := by decide +kernel
theorem dL_act_470 : decode cL_act 470 = .ok (.iload 4, 2) := by decide +kernel
theorem dL_act_472 : decode cL_act 472 = .ok (.invokevirtual 120, 3) := by decide +kernel
theorem dL_act_475 : decode cL_act 475 = .ok (.iload 9, 2) := by decide +kernel
theorem dL_act_477 : decode cL_act 477 = .ok (.aload_n 0, 1) := by decide +kernel
theorem dL_act_478 : decode cL_act 478 = .ok (.iload 7, 2) := by decide +kernel
theorem dL_act_480 : decode cL_act 480 = .ok (.invokevirtual 114, 3) := by decide +kernel
theorem dL_act_483 : decode cL_act 483 = .ok (.iadd, 1) := by decide +kernel
theorem dL_act_484 : decode cL_act 484 = .ok (.if_icmp .ne 7, 3) := by decide +kernel
theorem dL_act_487 : decode cL_act 487 = .ok (.iconst 1, 1) := by decide +kernel
theorem dL_act_488 : decode cL_act 488 = .ok (.goto 4, 3) := by decide +kernel
theorem dL_act_491 : decode cL_act 491 = .ok (.iconst 0, 1) := by decide +kernel
theorem dL_act_492 : decode cL_act 492 = .ok (.ireturn, 1) := by decide +kernel
theorem dL_act_493 : decode cL_act 493 = .ok (.iload_n 2, 1) := by decide +kernel
theorem dL_act_494 : decode cL_act 494 = .ok (.bipush 12, 2) := by decide +kernel
theorem dL_act_496 : decode cL_act 496 = .ok (.if_icmp .ne 107, 3) := by decide +kernel
theorem dL_act_499 : decode cL_act 499 = .ok (.aload_n 0, 1) := by decide +kernel
theorem dL_act_500 : decode cL_act 500 = .ok (.iload 7, 2) := by decide +kernel
theorem dL_act_502 : decode cL_act 502 = .ok (.invokevirtual 77, 3) := by decide +kernel
theorem dL_act_505 : decode cL_act 505 = .ok (.istore 8, 2) := by decide +kernel
theorem dL_act_507 : decode cL_act 507 = .ok (.iload 8, 2) := by decide +kernel
theorem dL_act_509 : decode cL_act 509 = .ok (.ifCond .ge 18, 3) := by decide +kernel
theorem dL_act_512 : decode cL_act 512 = .ok (.aload_n 0, 1) := by decide +kernel
theorem dL_act_513 : decode cL_act 513 = .ok (.iload 7, 2) := by decide +kernel
theorem dL_act_515 : decode cL_act 515 = .ok (.invokevirtual 87, 3) := by decide +kernel
theorem dL_act_518 : decode cL_act 518 = .ok (.ifCond .ne 7, 3) := by decide +kernel
theorem dL_act_521 : decode cL_act 521 = .ok (.iconst 1, 1) := by decide +kernel
theorem dL_act_522 : decode cL_act 522 = .ok (.goto 4, 3) := by decide +kernel
theorem dL_act_525 : decode cL_act 525 = .ok (.iconst 0, 1) := by decide +kernel
theorem dL_act_526 : decode cL_act 526 = .ok (.ireturn, 1) := by decide +kernel
theorem dL_act_527 : decode cL_act 527 = .ok (.aload_n 0, 1) := by decide +kernel
theorem dL_act_528 : decode cL_act 528 = .ok (.iload 8, 2) := by decide +kernel
theorem dL_act_530 : decode cL_act 530 = .ok (.invokevirtual 61, 3) := by decide +kernel
theorem dL_act_533 : decode cL_act 533 = .ok (.istore 9, 2) := by decide +kernel
theorem dL_act_535 : decode cL_act 535 = .ok (.aload_n 0, 1) := by decide +kernel
theorem dL_act_536 : decode cL_act 536 = .ok (.iload 7, 2) := by decide +kernel
theorem dL_act_538 : decode cL_act 538 = .ok (.invokevirtual 170, 3) := by decide +kernel
theorem dL_act_541 : decode cL_act 541 = .ok (.iload 8, 2) := by decide +kernel
theorem dL_act_543 : decode cL_act 543 = .ok (.if_icmp .ne 58, 3) := by decide +kernel
theorem dL_act_546 : decode cL_act 546 = .ok (.aload_n 0, 1) := by decide +kernel
theorem dL_act_547 : decode cL_act 547 = .ok (.iload 7, 2) := by decide +kernel
theorem dL_act_549 : decode cL_act 549 = .ok (.invokevirtual 83, 3) := by decide +kernel
theorem dL_act_552 : decode cL_act 552 = .ok (.ifCond .eq 49, 3) := by decide +kernel
theorem dL_act_555 : decode cL_act 555 = .ok (.aload_n 0, 1) := by decide +kernel
theorem dL_act_556 : decode cL_act 556 = .ok (.iload 8, 2) := by decide +kernel
theorem dL_act_558 : decode cL_act 558 = .ok (.invokevirtual 61, 3) := by decide +kernel
theorem dL_act_561 : decode cL_act 561 = .ok (.iload 9, 2) := by decide +kernel
theorem dL_act_563 : decode cL_act 563 = .ok (.if_icmp .ne 38, 3) := by decide +kernel
theorem dL_act_566 : decode cL_act 566 = .ok (.aload_n 0, 1) := by decide +kernel
theorem dL_act_567 : decode cL_act 567 = .ok (.iload 7, 2) := by decide +kernel
theorem dL_act_569 : decode cL_act 569 = .ok (.invokevirtual 74, 3) := by decide +kernel
theorem dL_act_572 : decode cL_act 572 = .ok (.aload_n 0, 1) := by decide +kernel
theorem dL_act_573 : decode cL_act 573 = .ok (.iload 7, 2) := by decide +kernel
theorem dL_act_575 : decode cL_act 575 = .ok (.invokevirtual 114, 3) := by decide +kernel
theorem dL_act_578 : decode cL_act 578 = .ok (.imul, 1) := by decide +kernel
theorem dL_act_579 : decode cL_act 579 = .ok (.iconst 3, 1) := by decide +kernel
theorem dL_act_580 : decode cL_act 580 = .ok (.aload_n 0, 1) := by decide +kernel
theorem dL_act_581 : decode cL_act 581 = .ok (.iload 7, 2) := by decide +kernel
theorem dL_act_583 : decode cL_act 583 = .ok (.invokevirtual 114, 3) := by decide +kernel
theorem dL_act_586 : decode cL_act 586 = .ok (.imul, 1) := by decide +kernel
theorem dL_act_587 : decode cL_act 587 = .ok (.iadd, 1) := by decide +kernel
theorem dL_act_588 : decode cL_act 588 = .ok (.aload_n 0, 1) := by decide +kernel
theorem dL_act_589 : decode cL_act 589 = .ok (.iload 7, 2) := by decide +kernel
theorem dL_act_591 : decode cL_act 591 = .ok (.invokevirtual 164, 3) := by decide +kernel
theorem dL_act_594 : decode cL_act 594 = .ok (.if_icmp .ne 7, 3) := by decide +kernel
theorem dL_act_597 : decode cL_act 597 = .ok (.iconst 1, 1) := by decide +kernel
theorem dL_act_598 : decode cL_act 598 = .ok (.goto 4, 3) := by decide +kernel
theorem dL_act_601 : decode cL_act 601 = .ok (.iconst 0, 1) := by decide +kernel
theorem dL_act_602 : decode cL_act 602 = .ok (.ireturn, 1) := by decide +kernel
theorem dL_act_603 : decode cL_act 603 = .ok (.aload_n 0, 1) := by decide +kernel
theorem dL_act_604 : decode cL_act 604 = .ok (.iload 4, 2) := by decide +kernel
theorem dL_act_606 : decode cL_act 606 = .ok (.invokevirtual 58, 3) := by decide +kernel
theorem dL_act_609 : decode cL_act 609 = .ok (.ifCond .le 7, 3) := by decide +kernel
theorem dL_act_612 : decode cL_act 612 = .ok (.iconst 1, 1) := by decide +kernel
theorem dL_act_613 : decode cL_act 613 = .ok (.goto 4, 3) := by decide +kernel
theorem dL_act_616 : decode cL_act 616 = .ok (.iconst 0, 1) := by decide +kernel
theorem dL_act_617 : decode cL_act 617 = .ok (.istore 8, 2) := by decide +kernel
theorem dL_act_619 : decode cL_act 619 = .ok (.iload 8, 2) := by decide +kernel
theorem dL_act_621 : decode cL_act 621 = .ok (.ifCond .ne 16, 3) := by decide +kernel
theorem dL_act_624 : decode cL_act 624 = .ok (.aload_n 0, 1) := by decide +kernel
theorem dL_act_625 : decode cL_act 625 = .ok (.iload 4, 2) := by decide +kernel
theorem dL_act_627 : decode cL_act 627 = .ok (.invokevirtual 51, 3) := by decide +kernel
theorem dL_act_630 : decode cL_act 630 = .ok (.ifCond .ne 7, 3) := by decide +kernel
theorem dL_act_633 : decode cL_act 633 = .ok (.iconst 1, 1) := by decide +kernel
theorem dL_act_634 : decode cL_act 634 = .ok (.goto 4, 3) := by decide +kernel
theorem dL_act_637 : decode cL_act 637 = .ok (.iconst 0, 1) := by decide +kernel
theorem dL_act_638 : decode cL_act 638 = .ok (.istore 9, 2) := by decide +kernel
theorem dL_act_640 : decode cL_act 640 = .ok (.iload_n 2, 1) := by decide +kernel
theorem dL_act_641 : decode cL_act 641 = .ok (.bipush 15, 2) := by decide +kernel
theorem dL_act_643 : decode cL_act 643 = .ok (.if_icmp .ge 76, 3) := by decide +kernel
theorem dL_act_646 : decode cL_act 646 = .ok (.aload_n 0, 1) := by decide +kernel
theorem dL_act_647 : decode cL_act 647 = .ok (.iload 4, 2) := by decide +kernel
theorem dL_act_649 : decode cL_act 649 = .ok (.invokevirtual 61, 3) := by decide +kernel
theorem dL_act_652 : decode cL_act 652 = .ok (.istore 10, 2) := by decide +kernel
theorem dL_act_654 : decode cL_act 654 = .ok (.aload_n 0, 1) := by decide +kernel
theorem dL_act_655 : decode cL_act 655 = .ok (.invokevirtual 42, 3) := by decide +kernel
theorem dL_act_658 : decode cL_act 658 = .ok (.istore 11, 2) := by decide +kernel
theorem dL_act_660 : decode cL_act 660 = .ok (.iconst 1, 1) := by decide +kernel
theorem dL_act_661 : decode cL_act 661 = .ok (.iload_n 3, 1) := by decide +kernel
theorem dL_act_662 : decode cL_act 662 = .ok (.bipush 20, 2) := by decide +kernel
theorem dL_act_664 : decode cL_act 664 = .ok (.invokestatic 154, 3) := by decide +kernel
theorem dL_act_667 : decode cL_act 667 = .ok (.iadd, 1) := by decide +kernel
theorem dL_act_668 : decode cL_act 668 = .ok (.istore 12, 2) := by decide +kernel
theorem dL_act_670 : decode cL_act 670 = .ok (.iload 9, 2) := by decide +kernel
theorem dL_act_672 : decode cL_act 672 = .ok (.ifCond .eq 41, 3) := by decide +kernel
theorem dL_act_675 : decode cL_act 675 = .ok (.iload 10, 2) := by decide +kernel
theorem dL_act_677 : decode cL_act 677 = .ok (.iload 12, 2) := by decide +kernel
theorem dL_act_679 : decode cL_act 679 = .ok (.iadd, 1) := by decide +kernel
theorem dL_act_680 : decode cL_act 680 = .ok (.bipush 99, 2) := by decide +kernel
theorem dL_act_682 : decode cL_act 682 = .ok (.if_icmp .gt 31, 3) := by decide +kernel
theorem dL_act_685 : decode cL_act 685 = .ok (.aload_n 0, 1) := by decide +kernel
theorem dL_act_686 : decode cL_act 686 = .ok (.iload 4, 2) := by decide +kernel
theorem dL_act_688 : decode cL_act 688 = .ok (.iload 12, 2) := by decide +kernel
theorem dL_act_690 : decode cL_act 690 = .ok (.invokevirtual 173, 3) := by decide +kernel
theorem dL_act_693 : decode cL_act 693 = .ok (.iload 10, 2) := by decide +kernel
theorem dL_act_695 : decode cL_act 695 = .ok (.iload 12, 2) := by decide +kernel
theorem dL_act_697 : decode cL_act 697 = .ok (.iadd, 1) := by decide +kernel
theorem dL_act_698 : decode cL_act 698 = .ok (.if_icmp .ne 19, 3) := by decide +kernel
theorem dL_act_701 : decode cL_act 701 = .ok (.aload_n 0, 1) := by decide +kernel
theorem dL_act_702 : decode cL_act 702 = .ok (.invokevirtual 42, 3) := by decide +kernel
theorem dL_act_705 : decode cL_act 705 = .ok (.iload 11, 2) := by decide +kernel
theorem dL_act_707 : decode cL_act 707 = .ok (.iload 12, 2) := by decide +kernel
theorem dL_act_709 : decode cL_act 709 = .ok (.isub, 1) := by decide +kernel
theorem dL_act_710 : decode cL_act 710 = .ok (.if_icmp .ne 7, 3) := by decide +kernel
theorem dL_act_713 : decode cL_act 713 = .ok (.iconst 1, 1) := by decide +kernel
theorem dL_act_714 : decode cL_act 714 = .ok (.goto 4, 3) := by decide +kernel
theorem dL_act_717 : decode cL_act 717 = .ok (.iconst 0, 1) := by decide +kernel
theorem dL_act_718 : decode cL_act 718 = .ok (.ireturn, 1) := by decide +kernel
theorem dL_act_719 : decode cL_act 719 = .ok (.aload_n 0, 1) := by decide +kernel
theorem dL_act_720 : decode cL_act 720 = .ok (.invokestatic 176, 3) := by decide +kernel
theorem dL_act_723 : decode cL_act 723 = .ok (.istore 10, 2) := by decide +kernel
theorem dL_act_725 : decode cL_act 725 = .ok (.iload_n 2, 1) := by decide +kernel
theorem dL_act_726 : decode cL_act 726 = .ok (.bipush 17, 2) := by decide +kernel
theorem dL_act_728 : decode cL_act 728 = .ok (.if_icmp .ge 99, 3) := by decide +kernel
theorem dL_act_731 : decode cL_act 731 = .ok (.iload 8, 2) := by decide +kernel
theorem dL_act_733 : decode cL_act 733 = .ok (.ifCond .eq 21, 3) := by decide +kernel
theorem dL_act_736 : decode cL_act 736 = .ok (.aload_n 0, 1) := by decide +kernel
theorem dL_act_737 : decode cL_act 737 = .ok (.iload 4, 2) := by decide +kernel
theorem dL_act_739 : decode cL_act 739 = .ok (.iload 5, 2) := by decide +kernel
theorem dL_act_741 : decode cL_act 741 = .ok (.invokevirtual 126, 3) := by decide +kernel
theorem dL_act_744 : decode cL_act 744 = .ok (.iconst 1, 1) := by decide +kernel
theorem dL_act_745 : decode cL_act 745 = .ok (.if_icmp .ne 7, 3) := by decide +kernel
theorem dL_act_748 : decode cL_act 748 = .ok (.iconst 1, 1) := by decide +kernel
theorem dL_act_749 : decode cL_act 749 = .ok (.goto 4, 3) := by decide +kernel
theorem dL_act_752 : decode cL_act 752 = .ok (.iconst 0, 1) := by decide +kernel
theorem dL_act_753 : decode cL_act 753 = .ok (.ireturn, 1) := by decide +kernel
theorem dL_act_754 : decode cL_act 754 = .ok (.aload_n 0, 1) := by decide +kernel
theorem dL_act_755 : decode cL_act 755 = .ok (.aload_n 0, 1) := by decide +kernel
theorem dL_act_756 : decode cL_act 756 = .ok (.iload 4, 2) := by decide +kernel
theorem dL_act_758 : decode cL_act 758 = .ok (.invokevirtual 51, 3) := by decide +kernel
theorem dL_act_761 : decode cL_act 761 = .ok (.invokevirtual 93, 3) := by decide +kernel
theorem dL_act_764 : decode cL_act 764 = .ok (.istore 11, 2) := by decide +kernel
theorem dL_act_766 : decode cL_act 766 = .ok (.aload_n 0, 1) := by decide +kernel
theorem dL_act_767 : decode cL_act 767 = .ok (.iload 4, 2) := by decide +kernel
theorem dL_act_769 : decode cL_act 769 = .ok (.invokevirtual 67, 3) := by decide +kernel
theorem dL_act_772 : decode cL_act 772 = .ok (.istore 12, 2) := by decide +kernel
theorem dL_act_774 : decode cL_act 774 = .ok (.aload_n 0, 1) := by decide +kernel
theorem dL_act_775 : decode cL_act 775 = .ok (.iload 4, 2) := by decide +kernel
theorem dL_act_777 : decode cL_act 777 = .ok (.invokevirtual 180, 3) := by decide +kernel
theorem dL_act_780 : decode cL_act 780 = .ok (.iload 11, 2) := by decide +kernel
theorem dL_act_782 : decode cL_act 782 = .ok (.if_icmp .ne 43, 3) := by decide +kernel
theorem dL_act_785 : decode cL_act 785 = .ok (.aload_n 0, 1) := by decide +kernel
theorem dL_act_786 : decode cL_act 786 = .ok (.iload 4, 2) := by decide +kernel
theorem dL_act_788 : decode cL_act 788 = .ok (.invokevirtual 67, 3) := by decide +kernel
theorem dL_act_791 : decode cL_act 791 = .ok (.iload 12, 2) := by decide +kernel
theorem dL_act_793 : decode cL_act 793 = .ok (.iload 11, 2) := by decide +kernel
theorem dL_act_795 : decode cL_act 795 = .ok (.iadd, 1) := by decide +kernel
theorem dL_act_796 : decode cL_act 796 = .ok (.if_icmp .ne 29, 3) := by decide +kernel
theorem dL_act_799 : decode cL_act 799 = .ok (.aload_n 0, 1) := by decide +kernel
theorem dL_act_800 : decode cL_act 800 = .ok (.aload_n 0, 1) := by decide +kernel
theorem dL_act_801 : decode cL_act 801 = .ok (.iload 4, 2) := by decide +kernel
theorem dL_act_803 : decode cL_act 803 = .ok (.invokevirtual 51, 3) := by decide +kernel
theorem dL_act_806 : decode cL_act 806 = .ok (.invokevirtual 93, 3) := by decide +kernel
theorem dL_act_809 : decode cL_act 809 = .ok (.ifCond .ne 16, 3) := by decide +kernel
theorem dL_act_812 : decode cL_act 812 = .ok (.aload_n 0, 1) := by decide +kernel
theorem dL_act_813 : decode cL_act 813 = .ok (.invokestatic 176, 3) := by decide +kernel
theorem dL_act_816 : decode cL_act 816 = .ok (.iload 10, 2) := by decide +kernel
theorem dL_act_818 : decode cL_act 818 = .ok (.if_icmp .ne 7, 3) := by decide +kernel
theorem dL_act_821 : decode cL_act 821 = .ok (.iconst 1, 1) := by decide +kernel
theorem dL_act_822 : decode cL_act 822 = .ok (.goto 4, 3) := by decide +kernel
theorem dL_act_825 : decode cL_act 825 = .ok (.iconst 0, 1) := by decide +kernel
theorem dL_act_826 : decode cL_act 826 = .ok (.ireturn, 1) := by decide +kernel
theorem dL_act_827 : decode cL_act 827 = .ok (.iload_n 2, 1) := by decide +kernel
theorem dL_act_828 : decode cL_act 828 = .ok (.bipush 17, 2) := by decide +kernel
theorem dL_act_830 : decode cL_act 830 = .ok (.if_icmp .ne 58, 3) := by decide +kernel
theorem dL_act_833 : decode cL_act 833 = .ok (.aload_n 0, 1) := by decide +kernel
theorem dL_act_834 : decode cL_act 834 = .ok (.iload 4, 2) := by decide +kernel
theorem dL_act_836 : decode cL_act 836 = .ok (.invokevirtual 64, 3) := by decide +kernel
theorem dL_act_839 : decode cL_act 839 = .ok (.aload_n 0, 1) := by decide +kernel
theorem dL_act_840 : decode cL_act 840 = .ok (.iload 4, 2) := by decide +kernel
theorem dL_act_842 : decode cL_act 842 = .ok (.invokevirtual 67, 3) := by decide +kernel
theorem dL_act_845 : decode cL_act 845 = .ok (.iadd, 1) := by decide +kernel
theorem dL_act_846 : decode cL_act 846 = .ok (.istore 11, 2) := by decide +kernel
theorem dL_act_848 : decode cL_act 848 = .ok (.iload 9, 2) := by decide +kernel
theorem dL_act_850 : decode cL_act 850 = .ok (.ifCond .eq 32, 3) := by decide +kernel
theorem dL_act_853 : decode cL_act 853 = .ok (.aload_n 0, 1) := by decide +kernel
theorem dL_act_854 : decode cL_act 854 = .ok (.iload 4, 2) := by decide +kernel
theorem dL_act_856 : decode cL_act 856 = .ok (.invokevirtual 183, 3) := by decide +kernel
theorem dL_act_859 : decode cL_act 859 = .ok (.iload 11, 2) := by decide +kernel
theorem dL_act_861 : decode cL_act 861 = .ok (.if_icmp .ne 25, 3) := by decide +kernel
theorem dL_act_864 : decode cL_act 864 = .ok (.aload_n 0, 1) := by decide +kernel
theorem dL_act_865 : decode cL_act 865 = .ok (.iload 4, 2) := by decide +kernel
theorem dL_act_867 : decode cL_act 867 = .ok (.invokevirtual 67, 3) := by decide +kernel
theorem dL_act_870 : decode cL_act 870 = .ok (.ifCond .ne 16, 3) := by decide +kernel
theorem dL_act_873 : decode cL_act 873 = .ok (.aload_n 0, 1) := by decide +kernel
theorem dL_act_874 : decode cL_act 874 = .ok (.invokestatic 176, 3) := by decide +kernel
theorem dL_act_877 : decode cL_act 877 = .ok (.iload 10, 2) := by decide +kernel
theorem dL_act_879 : decode cL_act 879 = .ok (.if_icmp .ne 7, 3) := by decide +kernel
theorem dL_act_882 : decode cL_act 882 = .ok (.iconst 1, 1) := by decide +kernel
theorem dL_act_883 : decode cL_act 883 = .ok (.goto 4, 3) := by decide +kernel
theorem dL_act_886 : decode cL_act 886 = .ok (.iconst 0, 1) := by decide +kernel
theorem dL_act_887 : decode cL_act 887 = .ok (.ireturn, 1) := by decide +kernel
theorem dL_act_888 : decode cL_act 888 = .ok (.iconst 1, 1) := by decide +kernel
theorem dL_act_889 : decode cL_act 889 = .ok (.iload_n 3, 1) := by decide +kernel
theorem dL_act_890 : decode cL_act 890 = .ok (.iload_n 3, 1) := by decide +kernel
theorem dL_act_891 : decode cL_act 891 = .ok (.iconst 3, 1) := by decide +kernel
theorem dL_act_892 : decode cL_act 892 = .ok (.ishr, 1) := by decide +kernel
theorem dL_act_893 : decode cL_act 893 = .ok (.iconst 4, 1) := by decide +kernel
theorem dL_act_894 : decode cL_act 894 = .ok (.invokestatic 154, 3) := by decide +kernel
theorem dL_act_897 : decode cL_act 897 = .ok (.ifCond .ne 8, 3) := by decide +kernel
theorem dL_act_900 : decode cL_act 900 = .ok (.bipush 60, 2) := by decide +kernel
theorem dL_act_902 : decode cL_act 902 = .ok (.goto 5, 3) := by decide +kernel
theorem dL_act_905 : decode cL_act 905 = .ok (.bipush 7, 2) := by decide +kernel
theorem dL_act_907 : decode cL_act 907 = .ok (.invokestatic 154, 3) := by decide +kernel
theorem dL_act_910 : decode cL_act 910 = .ok (.iadd, 1) := by decide +kernel
theorem dL_act_911 : decode cL_act 911 = .ok (.istore 11, 2) := by decide +kernel
theorem dL_act_913 : decode cL_act 913 = .ok (.aload_n 0, 1) := by decide +kernel
theorem dL_act_914 : decode cL_act 914 = .ok (.iload 11, 2) := by decide +kernel
theorem dL_act_916 : decode cL_act 916 = .ok (.invokevirtual 145, 3) := by decide +kernel
theorem dL_act_919 : decode cL_act 919 = .ok (.istore 12, 2) := by decide +kernel
theorem dL_act_921 : decode cL_act 921 = .ok (.aload_n 0, 1) := by decide +kernel
theorem dL_act_922 : decode cL_act 922 = .ok (.iload 4, 2) := by decide +kernel
theorem dL_act_924 : decode cL_act 924 = .ok (.invokevirtual 123, 3) := by decide +kernel
theorem dL_act_927 : decode cL_act 927 = .ok (.istore 13, 2) := by decide +kernel
theorem dL_act_929 : decode cL_act 929 = .ok (.aload_n 0, 1) := by decide +kernel
theorem dL_act_930 : decode cL_act 930 = .ok (.iload 7, 2) := by decide +kernel
theorem dL_act_932 : decode cL_act 932 = .ok (.invokevirtual 132, 3) := by decide +kernel
theorem dL_act_935 : decode cL_act 935 = .ok (.istore 14, 2) := by decide +kernel
theorem dL_act_937 : decode cL_act 937 = .ok (.iconst 0, 1) := by decide +kernel
theorem dL_act_938 : decode cL_act 938 = .ok (.istore 15, 2) := by decide +kernel
theorem dL_act_940 : decode cL_act 940 = .ok (.iconst 0, 1) := by decide +kernel
theorem dL_act_941 : decode cL_act 941 = .ok (.istore 16, 2) := by decide +kernel
theorem dL_act_943 : decode cL_act 943 = .ok (.iload 16, 2) := by decide +kernel
theorem dL_act_945 : decode cL_act 945 = .ok (.iload 6, 2) := by decide +kernel
theorem dL_act_947 : decode cL_act 947 = .ok (.if_icmp .ge 28, 3) := by decide +kernel
theorem dL_act_950 : decode cL_act 950 = .ok (.iload 15, 2) := by decide +kernel
theorem dL_act_952 : decode cL_act 952 = .ok (.aload_n 0, 1) := by decide +kernel
theorem dL_act_953 : decode cL_act 953 = .ok (.iload 16, 2) := by decide +kernel
theorem dL_act_955 : decode cL_act 955 = .ok (.invokevirtual 90, 3) := by decide +kernel
theorem dL_act_958 : decode cL_act 958 = .ok (.ifCond .eq 7, 3) := by decide +kernel
theorem dL_act_961 : decode cL_act 961 = .ok (.iconst 1, 1) := by decide +kernel
theorem dL_act_962 : decode cL_act 962 = .ok (.goto 4, 3) := by decide +kernel
theorem dL_act_965 : decode cL_act 965 = .ok (.iconst 0, 1) := by decide +kernel
theorem dL_act_966 : decode cL_act 966 = .ok (.isub, 1) := by decide +kernel
theorem dL_act_967 : decode cL_act 967 = .ok (.istore 15, 2) := by decide +kernel
theorem dL_act_969 : decode cL_act 969 = .ok (.iinc 16 1, 3) := by decide +kernel
theorem dL_act_972 : decode cL_act 972 = .ok (.goto (-29), 3) := by decide +kernel
theorem dL_act_975 : decode cL_act 975 = .ok (.aload_n 0, 1) := by decide +kernel
theorem dL_act_976 : decode cL_act 976 = .ok (.invokevirtual 39, 3) := by decide +kernel
theorem dL_act_979 : decode cL_act 979 = .ok (.istore 16, 2) := by decide +kernel
theorem dL_act_981 : decode cL_act 981 = .ok (.aload_n 0, 1) := by decide +kernel
theorem dL_act_982 : decode cL_act 982 = .ok (.iload 4, 2) := by decide +kernel
theorem dL_act_984 : decode cL_act 984 = .ok (.invokevirtual 55, 3) := by decide +kernel
theorem dL_act_987 : decode cL_act 987 = .ok (.istore 17, 2) := by decide +kernel
theorem dL_act_989 : decode cL_act 989 = .ok (.aload_n 0, 1) := by decide +kernel
theorem dL_act_990 : decode cL_act 990 = .ok (.iload 11, 2) := by decide +kernel
theorem dL_act_992 : decode cL_act 992 = .ok (.invokevirtual 186, 3) := by decide +kernel
theorem dL_act_995 : decode cL_act 995 = .ok (.istore 18, 2) := by decide +kernel
theorem dL_act_997 : decode cL_act 997 = .ok (.iconst 0, 1) := by decide +kernel
theorem dL_act_998 : decode cL_act 998 = .ok (.istore 19, 2) := by decide +kernel
theorem dL_act_1000 : decode cL_act 1000 = .ok (.iload 19, 2) := by decide +kernel
theorem dL_act_1002 : decode cL_act 1002 = .ok (.iload 6, 2) := by decide +kernel
theorem dL_act_1004 : decode cL_act 1004 = .ok (.if_icmp .ge 28, 3) := by decide +kernel
theorem dL_act_1007 : decode cL_act 1007 = .ok (.iload 15, 2) := by decide +kernel
theorem dL_act_1009 : decode cL_act 1009 = .ok (.aload_n 0, 1) := by decide +kernel
theorem dL_act_1010 : decode cL_act 1010 = .ok (.iload 19, 2) := by decide +kernel
theorem dL_act_1012 : decode cL_act 1012 = .ok (.invokevirtual 90, 3) := by decide +kernel
theorem dL_act_1015 : decode cL_act 1015 = .ok (.ifCond .eq 7, 3) := by decide +kernel
theorem dL_act_1018 : decode cL_act 1018 = .ok (.iconst 1, 1) := by decide +kernel
theorem dL_act_1019 : decode cL_act 1019 = .ok (.goto 4, 3) := by decide +kernel
theorem dL_act_1022 : decode cL_act 1022 = .ok (.iconst 0, 1) := by decide +kernel
theorem dL_act_1023 : decode cL_act 1023 = .ok (.iadd, 1) := by decide +kernel
theorem dL_act_1024 : decode cL_act 1024 = .ok (.istore 15, 2) := by decide +kernel
theorem dL_act_1026 : decode cL_act 1026 = .ok (.iinc 19 1, 3) := by decide +kernel
theorem dL_act_1029 : decode cL_act 1029 = .ok (.goto (-29), 3) := by decide +kernel
theorem dL_act_1032 : decode cL_act 1032 = .ok (.iload 18, 2) := by decide +kernel
theorem dL_act_1034 : decode cL_act 1034 = .ok (.iload 15, 2) := by decide +kernel
theorem dL_act_1036 : decode cL_act 1036 = .ok (.if_icmp .ne 98, 3) := by decide +kernel
theorem dL_act_1039 : decode cL_act 1039 = .ok (.aload_n 0, 1) := by decide +kernel
theorem dL_act_1040 : decode cL_act 1040 = .ok (.invokevirtual 42, 3) := by decide +kernel
theorem dL_act_1043 : decode cL_act 1043 = .ok (.iload 12, 2) := by decide +kernel
theorem dL_act_1045 : decode cL_act 1045 = .ok (.if_icmp .ne 89, 3) := by decide +kernel
theorem dL_act_1048 : decode cL_act 1048 = .ok (.aload_n 0, 1) := by decide +kernel
theorem dL_act_1049 : decode cL_act 1049 = .ok (.invokevirtual 39, 3) := by decide +kernel
theorem dL_act_1052 : decode cL_act 1052 = .ok (.iload 16, 2) := by decide +kernel
theorem dL_act_1054 : decode cL_act 1054 = .ok (.iload 11, 2) := by decide +kernel
theorem dL_act_1056 : decode cL_act 1056 = .ok (.iadd, 1) := by decide +kernel
theorem dL_act_1057 : decode cL_act 1057 = .ok (.if_icmp .ne 77, 3) := by decide +kernel
theorem dL_act_1060 : decode cL_act 1060 = .ok (.aload_n 0, 1) := by decide +kernel
theorem dL_act_1061 : decode cL_act 1061 = .ok (.iload 4, 2) := by decide +kernel
theorem dL_act_1063 : decode cL_act 1063 = .ok (.invokevirtual 55, 3) := by decide +kernel
theorem dL_act_1066 : decode cL_act 1066 = .ok (.iload 17, 2) := by decide +kernel
theorem dL_act_1068 : decode cL_act 1068 = .ok (.if_icmp .ne 66, 3) := by decide +kernel
theorem dL_act_1071 : decode cL_act 1071 = .ok (.aload_n 0, 1) := by decide +kernel
theorem dL_act_1072 : decode cL_act 1072 = .ok (.iload 4, 2) := by decide +kernel
theorem dL_act_1074 : decode cL_act 1074 = .ok (.invokevirtual 51, 3) := by decide +kernel
theorem dL_act_1077 : decode cL_act 1077 = .ok (.iload 17, 2) := by decide +kernel
theorem dL_act_1079 : decode cL_act 1079 = .ok (.if_icmp .ne 7, 3) := by decide +kernel
theorem dL_act_1082 : decode cL_act 1082 = .ok (.iconst 1, 1) := by decide +kernel
theorem dL_act_1083 : decode cL_act 1083 = .ok (.goto 4, 3) := by decide +kernel
theorem dL_act_1086 : decode cL_act 1086 = .ok (.iconst 0, 1) := by decide +kernel
theorem dL_act_1087 : decode cL_act 1087 = .ok (.iload 13, 2) := by decide +kernel
theorem dL_act_1089 : decode cL_act 1089 = .ok (.ifCond .lt 14, 3) := by decide +kernel
theorem dL_act_1092 : decode cL_act 1092 = .ok (.iload 13, 2) := by decide +kernel
theorem dL_act_1094 : decode cL_act 1094 = .ok (.iload 11, 2) := by decide +kernel
theorem dL_act_1096 : decode cL_act 1096 = .ok (.if_icmp .gt 7, 3) := by decide +kernel
theorem dL_act_1099 : decode cL_act 1099 = .ok (.iconst 1, 1) := by decide +kernel
theorem dL_act_1100 : decode cL_act 1100 = .ok (.goto 4, 3) := by decide +kernel
theorem dL_act_1103 : decode cL_act 1103 = .ok (.iconst 0, 1) := by decide +kernel
theorem dL_act_1104 : decode cL_act 1104 = .ok (.if_icmp .ne 30, 3) := by decide +kernel
theorem dL_act_1107 : decode cL_act 1107 = .ok (.iload 14, 2) := by decide +kernel
theorem dL_act_1109 : decode cL_act 1109 = .ok (.ifCond .eq 12, 3) := by decide +kernel
theorem dL_act_1112 : decode cL_act 1112 = .ok (.aload_n 0, 1) := by decide +kernel
theorem dL_act_1113 : decode cL_act 1113 = .ok (.iload 7, 2) := by decide +kernel
theorem dL_act_1115 : decode cL_act 1115 = .ok (.invokevirtual 132, 3) := by decide +kernel
theorem dL_act_1118 : decode cL_act 1118 = .ok (.ifCond .eq 16, 3) := by decide +kernel
theorem dL_act_1121 : decode cL_act 1121 = .ok (.aload_n 0, 1) := by decide +kernel
theorem dL_act_1122 : decode cL_act 1122 = .ok (.invokestatic 176, 3) := by decide +kernel
theorem dL_act_1125 : decode cL_act 1125 = .ok (.iload 10, 2) := by decide +kernel
theorem dL_act_1127 : decode cL_act 1127 = .ok (.if_icmp .ne 7, 3) := by decide +kernel
theorem dL_act_1130 : decode cL_act 1130 = .ok (.iconst 1, 1) := by decide +kernel
theorem dL_act_1131 : decode cL_act 1131 = .ok (.goto 4, 3) := by decide +kernel
theorem dL_act_1134 : decode cL_act 1134 = .ok (.iconst 0, 1) := by decide +kernel
theorem dL_act_1135 : decode cL_act 1135 = .ok (.ireturn, 1) := by decide +kernel
theorem dL_law_0 : decode cL_law 0 = .ok (.new 9, 3) := by decide +kernel
theorem dL_law_3 : decode cL_law 3 = .ok (.dup, 1) := by decide +kernel
theorem dL_law_4 : decode cL_law 4 = .ok (.invokespecial 189, 3) := by decide +kernel
theorem dL_law_7 : decode cL_law 7 = .ok (.astore_n 1, 1) := by decide +kernel
theorem dL_law_8 : decode cL_law 8 = .ok (.bipush 6, 2) := by decide +kernel
theorem dL_law_10 : decode cL_law 10 = .ok (.newarray .int, 2) := by decide +kernel
theorem dL_law_12 : decode cL_law 12 = .ok (.astore_n 2, 1) := by decide +kernel
theorem dL_law_13 : decode cL_law 13 = .ok (.aload_n 0, 1) := by decide +kernel
theorem dL_law_14 : decode cL_law 14 = .ok (.iconst 0, 1) := by decide +kernel
theorem dL_law_15 : decode cL_law 15 = .ok (.invokestatic 190, 3) := by decide +kernel
theorem dL_law_18 : decode cL_law 18 = .ok (.istore_n 3, 1) := by decide +kernel
theorem dL_law_19 : decode cL_law 19 = .ok (.iconst 3, 1) := by decide +kernel
theorem dL_law_20 : decode cL_law 20 = .ok (.iload_n 3, 1) := by decide +kernel
theorem dL_law_21 : decode cL_law 21 = .ok (.bipush 6, 2) := by decide +kernel
theorem dL_law_23 : decode cL_law 23 = .ok (.invokestatic 154, 3) := by decide +kernel
theorem dL_law_26 : decode cL_law 26 = .ok (.iadd, 1) := by decide +kernel
theorem dL_law_27 : decode cL_law 27 = .ok (.istore 4, 2) := by decide +kernel
theorem dL_law_29 : decode cL_law 29 = .ok (.iconst 1, 1) := by decide +kernel
theorem dL_law_30 : decode cL_law 30 = .ok (.iload_n 3, 1) := by decide +kernel
theorem dL_law_31 : decode cL_law 31 = .ok (.iconst 2, 1) := by decide +kernel
theorem dL_law_32 : decode cL_law 32 = .ok (.ishr, 1) := by decide +kernel
theorem dL_law_33 : decode cL_law 33 = .ok (.iconst 4, 1) := by decide +kernel
theorem dL_law_34 : decode cL_law 34 = .ok (.invokestatic 154, 3) := by decide +kernel
theorem dL_law_37 : decode cL_law 37 = .ok (.iadd, 1) := by decide +kernel
theorem dL_law_38 : decode cL_law 38 = .ok (.istore 5, 2) := by decide +kernel
theorem dL_law_40 : decode cL_law 40 = .ok (.iload_n 3, 1) := by decide +kernel
theorem dL_law_41 : decode cL_law 41 = .ok (.iconst 4, 1) := by decide +kernel
theorem dL_law_42 : decode cL_law 42 = .ok (.ishr, 1) := by decide +kernel
theorem dL_law_43 : decode cL_law 43 = .ok (.bipush 6, 2) := by decide +kernel
theorem dL_law_45 : decode cL_law 45 = .ok (.invokestatic 154, 3) := by decide +kernel
theorem dL_law_48 : decode cL_law 48 = .ok (.istore 6, 2) := by decide +kernel
theorem dL_law_50 : decode cL_law 50 = .ok (.new 194, 3) := by decide +kernel
theorem dL_law_53 : decode cL_law 53 = .ok (.dup, 1) := by decide +kernel
theorem dL_law_54 : decode cL_law 54 = .ok (.ldc 196, 2) := by decide +kernel
theorem dL_law_56 : decode cL_law 56 = .ok (.invokespecial 198, 3) := by decide +kernel
theorem dL_law_59 : decode cL_law 59 = .ok (.iload 4, 2) := by decide +kernel
theorem dL_law_61 : decode cL_law 61 = .ok (.invokevirtual 201, 3) := by decide +kernel
theorem dL_law_64 : decode cL_law 64 = .ok (.bipush 59, 2) := by decide +kernel
theorem dL_law_66 : decode cL_law 66 = .ok (.invokevirtual 205, 3) := by decide +kernel
theorem dL_law_69 : decode cL_law 69 = .ok (.astore 7, 2) := by decide +kernel
theorem dL_law_71 : decode cL_law 71 = .ok (.iconst 0, 1) := by decide +kernel
theorem dL_law_72 : decode cL_law 72 = .ok (.istore 8, 2) := by decide +kernel
theorem dL_law_74 : decode cL_law 74 = .ok (.iload 8, 2) := by decide +kernel
theorem dL_law_76 : decode cL_law 76 = .ok (.iload 4, 2) := by decide +kernel
theorem dL_law_78 : decode cL_law 78 = .ok (.iconst 1, 1) := by decide +kernel
theorem dL_law_79 : decode cL_law 79 = .ok (.isub, 1) := by decide +kernel
theorem dL_law_80 : decode cL_law 80 = .ok (.if_icmp .ge 126, 3) := by decide +kernel
theorem dL_law_83 : decode cL_law 83 = .ok (.aload_n 0, 1) := by decide +kernel
theorem dL_law_84 : decode cL_law 84 = .ok (.iconst 1, 1) := by decide +kernel
theorem dL_law_85 : decode cL_law 85 = .ok (.iload 8, 2) := by decide +kernel
theorem dL_law_87 : decode cL_law 87 = .ok (.iadd, 1) := by decide +kernel
theorem dL_law_88 : decode cL_law 88 = .ok (.invokestatic 190, 3) := by decide +kernel
theorem dL_law_91 : decode cL_law 91 = .ok (.iconst 3, 1) := by decide +kernel
theorem dL_law_92 : decode cL_law 92 = .ok (.invokestatic 154, 3) := by decide +kernel
theorem dL_law_95 : decode cL_law 95 = .ok (.ifCond .ne 45, 3) := by decide +kernel
theorem dL_law_98 : decode cL_law 98 = .ok (.aload 7, 2) := by decide +kernel
theorem dL_law_100 : decode cL_law 100 = .ok (.ldc 208, 2) := by decide +kernel
theorem dL_law_102 : decode cL_law 102 = .ok (.invokevirtual 210, 3) := by decide +kernel
theorem dL_law_105 : decode cL_law 105 = .ok (.iload 8, 2) := by decide +kernel
theorem dL_law_107 : decode cL_law 107 = .ok (.invokevirtual 201, 3) := by decide +kernel
theorem dL_law_110 : decode cL_law 110 = .ok (.bipush 32, 2) := by decide +kernel
theorem dL_law_112 : decode cL_law 112 = .ok (.invokevirtual 205, 3) := by decide +kernel
theorem dL_law_115 : decode cL_law 115 = .ok (.iconst 1, 1) := by decide +kernel
theorem dL_law_116 : decode cL_law 116 = .ok (.aload_n 0, 1) := by decide +kernel
theorem dL_law_117 : decode cL_law 117 = .ok (.iconst 1, 1) := by decide +kernel
theorem dL_law_118 : decode cL_law 118 = .ok (.iload 8, 2) := by decide +kernel
theorem dL_law_120 : decode cL_law 120 = .ok (.iadd, 1) := by decide +kernel
theorem dL_law_121 : decode cL_law 121 = .ok (.invokestatic 190, 3) := by decide +kernel
theorem dL_law_124 : decode cL_law 124 = .ok (.iconst 2, 1) := by decide +kernel
theorem dL_law_125 : decode cL_law 125 = .ok (.ishr, 1) := by decide +kernel
theorem dL_law_126 : decode cL_law 126 = .ok (.iconst 4, 1) := by decide +kernel
theorem dL_law_127 : decode cL_law 127 = .ok (.invokestatic 154, 3) := by decide +kernel
theorem dL_law_130 : decode cL_law 130 = .ok (.iadd, 1) := by decide +kernel
theorem dL_law_131 : decode cL_law 131 = .ok (.invokevirtual 201, 3) := by decide +kernel
theorem dL_law_134 : decode cL_law 134 = .ok (.bipush 59, 2) := by decide +kernel
theorem dL_law_136 : decode cL_law 136 = .ok (.invokevirtual 205, 3) := by decide +kernel
theorem dL_law_139 : decode cL_law 139 = .ok (.pop, 1) := by decide +kernel
theorem dL_law_140 : decode cL_law 140 = .ok (.aload_n 0, 1) := by decide +kernel
theorem dL_law_141 : decode cL_law 141 = .ok (.iconst 1, 1) := by decide +kernel
theorem dL_law_142 : decode cL_law 142 = .ok (.iload 8, 2) := by decide +kernel
theorem dL_law_144 : decode cL_law 144 = .ok (.iadd, 1) := by decide +kernel
theorem dL_law_145 : decode cL_law 145 = .ok (.invokestatic 190, 3) := by decide +kernel
theorem dL_law_148 : decode cL_law 148 = .ok (.iconst 3, 1) := by decide +kernel
theorem dL_law_149 : decode cL_law 149 = .ok (.ishr, 1) := by decide +kernel
theorem dL_law_150 : decode cL_law 150 = .ok (.iconst 5, 1) := by decide +kernel
theorem dL_law_151 : decode cL_law 151 = .ok (.invokestatic 154, 3) := by decide +kernel
theorem dL_law_154 : decode cL_law 154 = .ok (.ifCond .ne 46, 3) := by decide +kernel
theorem dL_law_157 : decode cL_law 157 = .ok (.aload 7, 2) := by decide +kernel
theorem dL_law_159 : decode cL_law 159 = .ok (.ldc 213, 2) := by decide +kernel
theorem dL_law_161 : decode cL_law 161 = .ok (.invokevirtual 210, 3) := by decide +kernel
theorem dL_law_164 : decode cL_law 164 = .ok (.iload 8, 2) := by decide +kernel
theorem dL_law_166 : decode cL_law 166 = .ok (.invokevirtual 201, 3) := by decide +kernel
theorem dL_law_169 : decode cL_law 169 = .ok (.bipush 32, 2) := by decide +kernel
theorem dL_law_171 : decode cL_law 171 = .ok (.invokevirtual 205, 3) := by decide +kernel
theorem dL_law_174 : decode cL_law 174 = .ok (.iconst 1, 1) := by decide +kernel
theorem dL_law_175 : decode cL_law 175 = .ok (.aload_n 0, 1) := by decide +kernel
theorem dL_law_176 : decode cL_law 176 = .ok (.iconst 1, 1) := by decide +kernel
theorem dL_law_177 : decode cL_law 177 = .ok (.iload 8, 2) := by decide +kernel
theorem dL_law_179 : decode cL_law 179 = .ok (.iadd, 1) := by decide +kernel
theorem dL_law_180 : decode cL_law 180 = .ok (.invokestatic 190, 3) := by decide +kernel
theorem dL_law_183 : decode cL_law 183 = .ok (.iconst 4, 1) := by decide +kernel
theorem dL_law_184 : decode cL_law 184 = .ok (.ishr, 1) := by decide +kernel
theorem dL_law_185 : decode cL_law 185 = .ok (.bipush 9, 2) := by decide +kernel
theorem dL_law_187 : decode cL_law 187 = .ok (.invokestatic 154, 3) := by decide +kernel
theorem dL_law_190 : decode cL_law 190 = .ok (.iadd, 1) := by decide +kernel
theorem dL_law_191 : decode cL_law 191 = .ok (.invokevirtual 201, 3) := by decide +kernel
theorem dL_law_194 : decode cL_law 194 = .ok (.bipush 59, 2) := by decide +kernel
theorem dL_law_196 : decode cL_law 196 = .ok (.invokevirtual 205, 3) := by decide +kernel
theorem dL_law_199 : decode cL_law 199 = .ok (.pop, 1) := by decide +kernel
theorem dL_law_200 : decode cL_law 200 = .ok (.iinc 8 1, 3) := by decide +kernel
theorem dL_law_203 : decode cL_law 203 = .ok (.goto (-129), 3) := by decide +kernel
theorem dL_law_206 : decode cL_law 206 = .ok (.iconst 0, 1) := by decide +kernel
theorem dL_law_207 : decode cL_law 207 = .ok (.istore 8, 2) := by decide +kernel
theorem dL_law_209 : decode cL_law 209 = .ok (.iload 8, 2) := by decide +kernel
theorem dL_law_211 : decode cL_law 211 = .ok (.iload 5, 2) := by decide +kernel
theorem dL_law_213 : decode cL_law 213 = .ok (.if_icmp .ge 113, 3) := by decide +kernel
theorem dL_law_216 : decode cL_law 216 = .ok (.aload 7, 2) := by decide +kernel
theorem dL_law_218 : decode cL_law 218 = .ok (.ldc 215, 2) := by decide +kernel
theorem dL_law_220 : decode cL_law 220 = .ok (.invokevirtual 210, 3) := by decide +kernel
theorem dL_law_223 : decode cL_law 223 = .ok (.aload_n 0, 1) := by decide +kernel
theorem dL_law_224 : decode cL_law 224 = .ok (.bipush 10, 2) := by decide +kernel
theorem dL_law_226 : decode cL_law 226 = .ok (.iload 8, 2) := by decide +kernel
theorem dL_law_228 : decode cL_law 228 = .ok (.iadd, 1) := by decide +kernel
theorem dL_law_229 : decode cL_law 229 = .ok (.invokestatic 190, 3) := by decide +kernel
theorem dL_law_232 : decode cL_law 232 = .ok (.iload 4, 2) := by decide +kernel
theorem dL_law_234 : decode cL_law 234 = .ok (.invokestatic 154, 3) := by decide +kernel
theorem dL_law_237 : decode cL_law 237 = .ok (.invokevirtual 201, 3) := by decide +kernel
theorem dL_law_240 : decode cL_law 240 = .ok (.bipush 32, 2) := by decide +kernel
theorem dL_law_242 : decode cL_law 242 = .ok (.invokevirtual 205, 3) := by decide +kernel
theorem dL_law_245 : decode cL_law 245 = .ok (.iconst 1, 1) := by decide +kernel
theorem dL_law_246 : decode cL_law 246 = .ok (.aload_n 0, 1) := by decide +kernel
theorem dL_law_247 : decode cL_law 247 = .ok (.bipush 10, 2) := by decide +kernel
theorem dL_law_249 : decode cL_law 249 = .ok (.iload 8, 2) := by decide +kernel
theorem dL_law_251 : decode cL_law 251 = .ok (.iadd, 1) := by decide +kernel
theorem dL_law_252 : decode cL_law 252 = .ok (.invokestatic 190, 3) := by decide +kernel
theorem dL_law_255 : decode cL_law 255 = .ok (.iconst 2, 1) := by decide +kernel
theorem dL_law_256 : decode cL_law 256 = .ok (.ishr, 1) := by decide +kernel
theorem dL_law_257 : decode cL_law 257 = .ok (.iconst 5, 1) := by decide +kernel
theorem dL_law_258 : decode cL_law 258 = .ok (.invokestatic 154, 3) := by decide +kernel
theorem dL_law_261 : decode cL_law 261 = .ok (.iadd, 1) := by decide +kernel
theorem dL_law_262 : decode cL_law 262 = .ok (.invokevirtual 201, 3) := by decide +kernel
theorem dL_law_265 : decode cL_law 265 = .ok (.bipush 32, 2) := by decide +kernel
theorem dL_law_267 : decode cL_law 267 = .ok (.invokevirtual 205, 3) := by decide +kernel
theorem dL_law_270 : decode cL_law 270 = .ok (.aload_n 0, 1) := by decide +kernel
theorem dL_law_271 : decode cL_law 271 = .ok (.bipush 10, 2) := by decide +kernel
theorem dL_law_273 : decode cL_law 273 = .ok (.iload 8, 2) := by decide +kernel
theorem dL_law_275 : decode cL_law 275 = .ok (.iadd, 1) := by decide +kernel
theorem dL_law_276 : decode cL_law 276 = .ok (.invokestatic 190, 3) := by decide +kernel
theorem dL_law_279 : decode cL_law 279 = .ok (.iconst 4, 1) := by decide +kernel
theorem dL_law_280 : decode cL_law 280 = .ok (.ishr, 1) := by decide +kernel
theorem dL_law_281 : decode cL_law 281 = .ok (.bipush 30, 2) := by decide +kernel
theorem dL_law_283 : decode cL_law 283 = .ok (.invokestatic 154, 3) := by decide +kernel
theorem dL_law_286 : decode cL_law 286 = .ok (.invokevirtual 201, 3) := by decide +kernel
theorem dL_law_289 : decode cL_law 289 = .ok (.bipush 32, 2) := by decide +kernel
theorem dL_law_291 : decode cL_law 291 = .ok (.invokevirtual 205, 3) := by decide +kernel
theorem dL_law_294 : decode cL_law 294 = .ok (.aload_n 0, 1) := by decide +kernel
theorem dL_law_295 : decode cL_law 295 = .ok (.bipush 10, 2) := by decide +kernel
theorem dL_law_297 : decode cL_law 297 = .ok (.iload 8, 2) := by decide +kernel
theorem dL_law_299 : decode cL_law 299 = .ok (.iadd, 1) := by decide +kernel
theorem dL_law_300 : decode cL_law 300 = .ok (.invokestatic 190, 3) := by decide +kernel
theorem dL_law_303 : decode cL_law 303 = .ok (.bipush 6, 2) := by decide +kernel
theorem dL_law_305 : decode cL_law 305 = .ok (.ishr, 1) := by decide +kernel
theorem dL_law_306 : decode cL_law 306 = .ok (.bipush 12, 2) := by decide +kernel
theorem dL_law_308 : decode cL_law 308 = .ok (.invokestatic 154, 3) := by decide +kernel
theorem dL_law_311 : decode cL_law 311 = .ok (.invokevirtual 201, 3) := by decide +kernel
theorem dL_law_314 : decode cL_law 314 = .ok (.bipush 59, 2) := by decide +kernel
theorem dL_law_316 : decode cL_law 316 = .ok (.invokevirtual 205, 3) := by decide +kernel
theorem dL_law_319 : decode cL_law 319 = .ok (.pop, 1) := by decide +kernel
theorem dL_law_320 : decode cL_law 320 = .ok (.iinc 8 1, 3) := by decide +kernel
theorem dL_law_323 : decode cL_law 323 = .ok (.goto (-114), 3) := by decide +kernel
theorem dL_law_326 : decode cL_law 326 = .ok (.iconst 0, 1) := by decide +kernel
theorem dL_law_327 : decode cL_law 327 = .ok (.istore 8, 2) := by decide +kernel
theorem dL_law_329 : decode cL_law 329 = .ok (.iload 8, 2) := by decide +kernel
theorem dL_law_331 : decode cL_law 331 = .ok (.iload 6, 2) := by decide +kernel
theorem dL_law_333 : decode cL_law 333 = .ok (.if_icmp .ge 117, 3) := by decide +kernel
theorem dL_law_336 : decode cL_law 336 = .ok (.aload 7, 2) := by decide +kernel
theorem dL_law_338 : decode cL_law 338 = .ok (.ldc 217, 2) := by decide +kernel
theorem dL_law_340 : decode cL_law 340 = .ok (.invokevirtual 210, 3) := by decide +kernel
theorem dL_law_343 : decode cL_law 343 = .ok (.aload_n 0, 1) := by decide +kernel
theorem dL_law_344 : decode cL_law 344 = .ok (.bipush 16, 2) := by decide +kernel
theorem dL_law_346 : decode cL_law 346 = .ok (.iload 8, 2) := by decide +kernel
theorem dL_law_348 : decode cL_law 348 = .ok (.iadd, 1) := by decide +kernel
theorem dL_law_349 : decode cL_law 349 = .ok (.invokestatic 190, 3) := by decide +kernel
theorem dL_law_352 : decode cL_law 352 = .ok (.iload 4, 2) := by decide +kernel
theorem dL_law_354 : decode cL_law 354 = .ok (.invokestatic 154, 3) := by decide +kernel
theorem dL_law_357 : decode cL_law 357 = .ok (.invokevirtual 201, 3) := by decide +kernel
theorem dL_law_360 : decode cL_law 360 = .ok (.bipush 32, 2) := by decide +kernel
theorem dL_law_362 : decode cL_law 362 = .ok (.invokevirtual 205, 3) := by decide +kernel
theorem dL_law_365 : decode cL_law 365 = .ok (.iconst 1, 1) := by decide +kernel
theorem dL_law_366 : decode cL_law 366 = .ok (.aload_n 0, 1) := by decide +kernel
theorem dL_law_367 : decode cL_law 367 = .ok (.bipush 16, 2) := by decide +kernel
theorem dL_law_369 : decode cL_law 369 = .ok (.iload 8, 2) := by decide +kernel
theorem dL_law_371 : decode cL_law 371 = .ok (.iadd, 1) := by decide +kernel
theorem dL_law_372 : decode cL_law 372 = .ok (.invokestatic 190, 3) := by decide +kernel
theorem dL_law_375 : decode cL_law 375 = .ok (.iconst 2, 1) := by decide +kernel
theorem dL_law_376 : decode cL_law 376 = .ok (.ishr, 1) := by decide +kernel
theorem dL_law_377 : decode cL_law 377 = .ok (.iconst 4, 1) := by decide +kernel
theorem dL_law_378 : decode cL_law 378 = .ok (.invokestatic 154, 3) := by decide +kernel
theorem dL_law_381 : decode cL_law 381 = .ok (.iadd, 1) := by decide +kernel
theorem dL_law_382 : decode cL_law 382 = .ok (.invokevirtual 201, 3) := by decide +kernel
theorem dL_law_385 : decode cL_law 385 = .ok (.bipush 32, 2) := by decide +kernel
theorem dL_law_387 : decode cL_law 387 = .ok (.invokevirtual 205, 3) := by decide +kernel
theorem dL_law_390 : decode cL_law 390 = .ok (.iconst 1, 1) := by decide +kernel
theorem dL_law_391 : decode cL_law 391 = .ok (.aload_n 0, 1) := by decide +kernel
theorem dL_law_392 : decode cL_law 392 = .ok (.bipush 16, 2) := by decide +kernel
theorem dL_law_394 : decode cL_law 394 = .ok (.iload 8, 2) := by decide +kernel
theorem dL_law_396 : decode cL_law 396 = .ok (.iadd, 1) := by decide +kernel
theorem dL_law_397 : decode cL_law 397 = .ok (.invokestatic 190, 3) := by decide +kernel
theorem dL_law_400 : decode cL_law 400 = .ok (.iconst 4, 1) := by decide +kernel
theorem dL_law_401 : decode cL_law 401 = .ok (.ishr, 1) := by decide +kernel
theorem dL_law_402 : decode cL_law 402 = .ok (.bipush 6, 2) := by decide +kernel
theorem dL_law_404 : decode cL_law 404 = .ok (.invokestatic 154, 3) := by decide +kernel
theorem dL_law_407 : decode cL_law 407 = .ok (.iadd, 1) := by decide +kernel
theorem dL_law_408 : decode cL_law 408 = .ok (.invokevirtual 201, 3) := by decide +kernel
theorem dL_law_411 : decode cL_law 411 = .ok (.bipush 32, 2) := by decide +kernel
theorem dL_law_413 : decode cL_law 413 = .ok (.invokevirtual 205, 3) := by decide +kernel
theorem dL_law_416 : decode cL_law 416 = .ok (.iconst 1, 1) := by decide +kernel
theorem dL_law_417 : decode cL_law 417 = .ok (.aload_n 0, 1) := by decide +kernel
theorem dL_law_418 : decode cL_law 418 = .ok (.bipush 16, 2) := by decide +kernel
theorem dL_law_420 : decode cL_law 420 = .ok (.iload 8, 2) := by decide +kernel
theorem dL_law_422 : decode cL_law 422 = .ok (.iadd, 1) := by decide +kernel
theorem dL_law_423 : decode cL_law 423 = .ok (.invokestatic 190, 3) := by decide +kernel
theorem dL_law_426 : decode cL_law 426 = .ok (.bipush 6, 2) := by decide +kernel
theorem dL_law_428 : decode cL_law 428 = .ok (.ishr, 1) := by decide +kernel
theorem dL_law_429 : decode cL_law 429 = .ok (.bipush 80, 2) := by decide +kernel
theorem dL_law_431 : decode cL_law 431 = .ok (.invokestatic 154, 3) := by decide +kernel
theorem dL_law_434 : decode cL_law 434 = .ok (.iadd, 1) := by decide +kernel
theorem dL_law_435 : decode cL_law 435 = .ok (.invokevirtual 201, 3) := by decide +kernel
theorem dL_law_438 : decode cL_law 438 = .ok (.bipush 59, 2) := by decide +kernel
theorem dL_law_440 : decode cL_law 440 = .ok (.invokevirtual 205, 3) := by decide +kernel
theorem dL_law_443 : decode cL_law 443 = .ok (.pop, 1) := by decide +kernel
theorem dL_law_444 : decode cL_law 444 = .ok (.iinc 8 1, 3) := by decide +kernel
theorem dL_law_447 : decode cL_law 447 = .ok (.goto (-118), 3) := by decide +kernel
theorem dL_law_450 : decode cL_law 450 = .ok (.aload_n 1, 1) := by decide +kernel
theorem dL_law_451 : decode cL_law 451 = .ok (.aload_n 2, 1) := by decide +kernel
theorem dL_law_452 : decode cL_law 452 = .ok (.aload 7, 2) := by decide +kernel
theorem dL_law_454 : decode cL_law 454 = .ok (.invokevirtual 219, 3) := by decide +kernel
theorem dL_law_457 : decode cL_law 457 = .ok (.invokestatic 223, 3) := by decide +kernel
theorem dL_law_460 : decode cL_law 460 = .ok (.aload_n 1, 1) := by decide +kernel
theorem dL_law_461 : decode cL_law 461 = .ok (.aload_n 1, 1) := by decide +kernel
theorem dL_law_462 : decode cL_law 462 = .ok (.aload_n 2, 1) := by decide +kernel
theorem dL_law_463 : decode cL_law 463 = .ok (.invokestatic 227, 3) := by decide +kernel
theorem dL_law_466 : decode cL_law 466 = .ok (.invokevirtual 231, 3) := by decide +kernel
theorem dL_law_469 : decode cL_law 469 = .ok (.iload 5, 2) := by decide +kernel
theorem dL_law_471 : decode cL_law 471 = .ok (.if_icmp .ne 10, 3) := by decide +kernel
theorem dL_law_474 : decode cL_law 474 = .ok (.aload_n 1, 1) := by decide +kernel
theorem dL_law_475 : decode cL_law 475 = .ok (.invokevirtual 234, 3) := by decide +kernel
theorem dL_law_478 : decode cL_law 478 = .ok (.ifCond .eq 5, 3) := by decide +kernel
theorem dL_law_481 : decode cL_law 481 = .ok (.iconst 0, 1) := by decide +kernel
theorem dL_law_482 : decode cL_law 482 = .ok (.ireturn, 1) := by decide +kernel
theorem dL_law_483 : decode cL_law 483 = .ok (.iconst 0, 1) := by decide +kernel
theorem dL_law_484 : decode cL_law 484 = .ok (.istore 8, 2) := by decide +kernel
theorem dL_law_486 : decode cL_law 486 = .ok (.iload 8, 2) := by decide +kernel
theorem dL_law_488 : decode cL_law 488 = .ok (.bipush 32, 2) := by decide +kernel
theorem dL_law_490 : decode cL_law 490 = .ok (.if_icmp .ge 167, 3) := by decide +kernel
theorem dL_law_493 : decode cL_law 493 = .ok (.aload_n 0, 1) := by decide +kernel
theorem dL_law_494 : decode cL_law 494 = .ok (.bipush 8, 2) := by decide +kernel
theorem dL_law_496 : decode cL_law 496 = .ok (.iload 8, 2) := by decide +kernel
theorem dL_law_498 : decode cL_law 498 = .ok (.bipush 28, 2) := by decide +kernel
theorem dL_law_500 : decode cL_law 500 = .ok (.irem, 1) := by decide +kernel
theorem dL_law_501 : decode cL_law 501 = .ok (.iadd, 1) := by decide +kernel
theorem dL_law_502 : decode cL_law 502 = .ok (.invokestatic 190, 3) := by decide +kernel
theorem dL_law_505 : decode cL_law 505 = .ok (.iload 8, 2) := by decide +kernel
theorem dL_law_507 : decode cL_law 507 = .ok (.bipush 28, 2) := by decide +kernel
theorem dL_law_509 : decode cL_law 509 = .ok (.idiv, 1) := by decide +kernel
theorem dL_law_510 : decode cL_law 510 = .ok (.iconst 2, 1) := by decide +kernel
theorem dL_law_511 : decode cL_law 511 = .ok (.imul, 1) := by decide +kernel
theorem dL_law_512 : decode cL_law 512 = .ok (.ishr, 1) := by decide +kernel
theorem dL_law_513 : decode cL_law 513 = .ok (.istore 9, 2) := by decide +kernel
theorem dL_law_515 : decode cL_law 515 = .ok (.iload 8, 2) := by decide +kernel
theorem dL_law_517 : decode cL_law 517 = .ok (.bipush 6, 2) := by decide +kernel
theorem dL_law_519 : decode cL_law 519 = .ok (.irem, 1) := by decide +kernel
theorem dL_law_520 : decode cL_law 520 = .ok (.ifCond .ne 12, 3) := by decide +kernel
theorem dL_law_523 : decode cL_law 523 = .ok (.aload_n 1, 1) := by decide +kernel
theorem dL_law_524 : decode cL_law 524 = .ok (.invokestatic 237, 3) := by decide +kernel
theorem dL_law_527 : decode cL_law 527 = .ok (.ifCond .ne 5, 3) := by decide +kernel
theorem dL_law_530 : decode cL_law 530 = .ok (.iconst 0, 1) := by decide +kernel
theorem dL_law_531 : decode cL_law 531 = .ok (.ireturn, 1) := by decide +kernel
theorem dL_law_532 : decode cL_law 532 = .ok (.aload_n 1, 1) := by decide +kernel
theorem dL_law_533 : decode cL_law 533 = .ok (.invokestatic 241, 3) := by decide +kernel
theorem dL_law_536 : decode cL_law 536 = .ok (.astore 10, 2) := by decide +kernel
theorem dL_law_538 : decode cL_law 538 = .ok (.aload_n 1, 1) := by decide +kernel
theorem dL_law_539 : decode cL_law 539 = .ok (.invokevirtual 234, 3) := by decide +kernel
theorem dL_law_542 : decode cL_law 542 = .ok (.istore 11, 2) := by decide +kernel
theorem dL_law_544 : decode cL_law 544 = .ok (.aload_n 1, 1) := by decide +kernel
theorem dL_law_545 : decode cL_law 545 = .ok (.iload 9, 2) := by decide +kernel
theorem dL_law_547 : decode cL_law 547 = .ok (.invokestatic 245, 3) := by decide +kernel
theorem dL_law_550 : decode cL_law 550 = .ok (.ifCond .ne 5, 3) := by decide +kernel
theorem dL_law_553 : decode cL_law 553 = .ok (.iconst 0, 1) := by decide +kernel
theorem dL_law_554 : decode cL_law 554 = .ok (.ireturn, 1) := by decide +kernel
theorem dL_law_555 : decode cL_law 555 = .ok (.aload_n 1, 1) := by decide +kernel
theorem dL_law_556 : decode cL_law 556 = .ok (.invokestatic 241, 3) := by decide +kernel
theorem dL_law_559 : decode cL_law 559 = .ok (.astore 12, 2) := by decide +kernel
theorem dL_law_561 : decode cL_law 561 = .ok (.aload_n 1, 1) := by decide +kernel
theorem dL_law_562 : decode cL_law 562 = .ok (.invokevirtual 234, 3) := by decide +kernel
theorem dL_law_565 : decode cL_law 565 = .ok (.iload 11, 2) := by decide +kernel
theorem dL_law_567 : decode cL_law 567 = .ok (.iconst 1, 1) := by decide +kernel
theorem dL_law_568 : decode cL_law 568 = .ok (.iadd, 1) := by decide +kernel
theorem dL_law_569 : decode cL_law 569 = .ok (.if_icmp .ne 54, 3) := by decide +kernel
theorem dL_law_572 : decode cL_law 572 = .ok (.iload 8, 2) := by decide +kernel
theorem dL_law_574 : decode cL_law 574 = .ok (.iconst 3, 1) := by decide +kernel
theorem dL_law_575 : decode cL_law 575 = .ok (.irem, 1) := by decide +kernel
theorem dL_law_576 : decode cL_law 576 = .ok (.ifCond .ne 47, 3) := by decide +kernel
theorem dL_law_579 : decode cL_law 579 = .ok (.aload_n 1, 1) := by decide +kernel
theorem dL_law_580 : decode cL_law 580 = .ok (.invokevirtual 249, 3) := by decide +kernel
theorem dL_law_583 : decode cL_law 583 = .ok (.iload 11, 2) := by decide +kernel
theorem dL_law_585 : decode cL_law 585 = .ok (.if_icmp .ne 36, 3) := by decide +kernel
theorem dL_law_588 : decode cL_law 588 = .ok (.aload_n 1, 1) := by decide +kernel
theorem dL_law_589 : decode cL_law 589 = .ok (.invokestatic 241, 3) := by decide +kernel
theorem dL_law_592 : decode cL_law 592 = .ok (.aload 10, 2) := by decide +kernel
theorem dL_law_594 : decode cL_law 594 = .ok (.invokestatic 252, 3) := by decide +kernel
theorem dL_law_597 : decode cL_law 597 = .ok (.ifCond .eq 24, 3) := by decide +kernel
theorem dL_law_600 : decode cL_law 600 = .ok (.aload_n 1, 1) := by decide +kernel
theorem dL_law_601 : decode cL_law 601 = .ok (.iload 9, 2) := by decide +kernel
theorem dL_law_603 : decode cL_law 603 = .ok (.invokestatic 245, 3) := by decide +kernel
theorem dL_law_606 : decode cL_law 606 = .ok (.ifCond .eq 15, 3) := by decide +kernel
theorem dL_law_609 : decode cL_law 609 = .ok (.aload_n 1, 1) := by decide +kernel
theorem dL_law_610 : decode cL_law 610 = .ok (.invokestatic 241, 3) := by decide +kernel
theorem dL_law_613 : decode cL_law 613 = .ok (.aload 12, 2) := by decide +kernel
theorem dL_law_615 : decode cL_law 615 = .ok (.invokestatic 252, 3) := by decide +kernel
theorem dL_law_618 : decode cL_law 618 = .ok (.ifCond .ne 5, 3) := by decide +kernel
theorem dL_law_621 : decode cL_law 621 = .ok (.iconst 0, 1) := by decide +kernel
theorem dL_law_622 : decode cL_law 622 = .ok (.ireturn, 1) := by decide +kernel
theorem dL_law_623 : decode cL_law 623 = .ok (.aload_n 1, 1) := by decide +kernel
theorem dL_law_624 : decode cL_law 624 = .ok (.invokevirtual 234, 3) := by decide +kernel
theorem dL_law_627 : decode cL_law 627 = .ok (.iload 11, 2) := by decide +kernel
theorem dL_law_629 : decode cL_law 629 = .ok (.if_icmp .ne 22, 3) := by decide +kernel
theorem dL_law_632 : decode cL_law 632 = .ok (.iload 11, 2) := by decide +kernel
theorem dL_law_634 : decode cL_law 634 = .ok (.bipush 8, 2) := by decide +kernel
theorem dL_law_636 : decode cL_law 636 = .ok (.if_icmp .ge 15, 3) := by decide +kernel
theorem dL_law_639 : decode cL_law 639 = .ok (.aload 10, 2) := by decide +kernel
theorem dL_law_641 : decode cL_law 641 = .ok (.aload 12, 2) := by decide +kernel
theorem dL_law_643 : decode cL_law 643 = .ok (.invokestatic 252, 3) := by decide +kernel
theorem dL_law_646 : decode cL_law 646 = .ok (.ifCond .ne 5, 3) := by decide +kernel
theorem dL_law_649 : decode cL_law 649 = .ok (.iconst 0, 1) := by decide +kernel
theorem dL_law_650 : decode cL_law 650 = .ok (.ireturn, 1) := by decide +kernel
theorem dL_law_651 : decode cL_law 651 = .ok (.iinc 8 1, 3) := by decide +kernel
theorem dL_law_654 : decode cL_law 654 = .ok (.goto (-168), 3) := by decide +kernel
theorem dL_law_657 : decode cL_law 657 = .ok (.aload_n 1, 1) := by decide +kernel
theorem dL_law_658 : decode cL_law 658 = .ok (.invokevirtual 256, 3) := by decide +kernel
theorem dL_law_661 : decode cL_law 661 = .ok (.aload_n 1, 1) := by decide +kernel
theorem dL_law_662 : decode cL_law 662 = .ok (.invokestatic 241, 3) := by decide +kernel
theorem dL_law_665 : decode cL_law 665 = .ok (.astore 8, 2) := by decide +kernel
theorem dL_law_667 : decode cL_law 667 = .ok (.iconst 0, 1) := by decide +kernel
theorem dL_law_668 : decode cL_law 668 = .ok (.istore 9, 2) := by decide +kernel
theorem dL_law_670 : decode cL_law 670 = .ok (.iload 9, 2) := by decide +kernel
theorem dL_law_672 : decode cL_law 672 = .ok (.iconst 5, 1) := by decide +kernel
theorem dL_law_673 : decode cL_law 673 = .ok (.if_icmp .ge 27, 3) := by decide +kernel
theorem dL_law_676 : decode cL_law 676 = .ok (.aload_n 1, 1) := by decide +kernel
theorem dL_law_677 : decode cL_law 677 = .ok (.aload_n 0, 1) := by decide +kernel
theorem dL_law_678 : decode cL_law 678 = .ok (.bipush 36, 2) := by decide +kernel
theorem dL_law_680 : decode cL_law 680 = .ok (.iload 9, 2) := by decide +kernel
theorem dL_law_682 : decode cL_law 682 = .ok (.iadd, 1) := by decide +kernel
theorem dL_law_683 : decode cL_law 683 = .ok (.invokestatic 190, 3) := by decide +kernel
theorem dL_law_686 : decode cL_law 686 = .ok (.invokestatic 245, 3) := by decide +kernel
theorem dL_law_689 : decode cL_law 689 = .ok (.ifCond .ne 5, 3) := by decide +kernel
theorem dL_law_692 : decode cL_law 692 = .ok (.iconst 0, 1) := by decide +kernel
theorem dL_law_693 : decode cL_law 693 = .ok (.ireturn, 1) := by decide +kernel
theorem dL_law_694 : decode cL_law 694 = .ok (.iinc 9 1, 3) := by decide +kernel
theorem dL_law_697 : decode cL_law 697 = .ok (.goto (-27), 3) := by decide +kernel
theorem dL_law_700 : decode cL_law 700 = .ok (.aload_n 1, 1) := by decide +kernel
theorem dL_law_701 : decode cL_law 701 = .ok (.invokevirtual 259, 3) := by decide +kernel
theorem dL_law_704 : decode cL_law 704 = .ok (.aload 8, 2) := by decide +kernel
theorem dL_law_706 : decode cL_law 706 = .ok (.iconst 0, 1) := by decide +kernel
theorem dL_law_707 : decode cL_law 707 = .ok (.iaload, 1) := by decide +kernel
theorem dL_law_708 : decode cL_law 708 = .ok (.if_icmp .ne 26, 3) := by decide +kernel
theorem dL_law_711 : decode cL_law 711 = .ok (.aload_n 1, 1) := by decide +kernel
theorem dL_law_712 : decode cL_law 712 = .ok (.invokestatic 241, 3) := by decide +kernel
theorem dL_law_715 : decode cL_law 715 = .ok (.aload 8, 2) := by decide +kernel
theorem dL_law_717 : decode cL_law 717 = .ok (.invokestatic 252, 3) := by decide +kernel
theorem dL_law_720 : decode cL_law 720 = .ok (.ifCond .eq 14, 3) := by decide +kernel
theorem dL_law_723 : decode cL_law 723 = .ok (.aload_n 1, 1) := by decide +kernel
theorem dL_law_724 : decode cL_law 724 = .ok (.invokevirtual 234, 3) := by decide +kernel
theorem dL_law_727 : decode cL_law 727 = .ok (.ifCond .ne 7, 3) := by decide +kernel
theorem dL_law_730 : decode cL_law 730 = .ok (.iconst 1, 1) := by decide +kernel
theorem dL_law_731 : decode cL_law 731 = .ok (.goto 4, 3) := by decide +kernel
theorem dL_law_734 : decode cL_law 734 = .ok (.iconst 0, 1) := by decide +kernel
theorem dL_law_735 : decode cL_law 735 = .ok (.ireturn, 1) := by decide +kernel
