theorem dL_cell_0 : decode cL_cell 0 = .ok (.iload_n 1, 1) := by decide +kernel
theorem dL_cell_1 : decode cL_cell 1 = .ok (.aload_n 0, 1) := by decide +kernel
theorem dL_cell_2 : decode cL_cell 2 = .ok (.arraylength, 1) := by decide +kernel
theorem dL_cell_3 : decode cL_cell 3 = .ok (.if_icmp .ge 9, 3) := by decide +kernel
theorem dL_cell_6 : decode cL_cell 6 = .ok (.aload_n 0, 1) := by decide +kernel
theorem dL_cell_7 : decode cL_cell 7 = .ok (.iload_n 1, 1) := by decide +kernel
theorem dL_cell_8 : decode cL_cell 8 = .ok (.iaload, 1) := by decide +kernel
theorem dL_cell_9 : decode cL_cell 9 = .ok (.goto 11, 3) := by decide +kernel
theorem dL_cell_12 : decode cL_cell 12 = .ok (.sipush 7919, 3) := by decide +kernel
theorem dL_cell_15 : decode cL_cell 15 = .ok (.iload_n 1, 1) := by decide +kernel
theorem dL_cell_16 : decode cL_cell 16 = .ok (.imul, 1) := by decide +kernel
theorem dL_cell_17 : decode cL_cell 17 = .ok (.bipush 13, 2) := by decide +kernel
theorem dL_cell_19 : decode cL_cell 19 = .ok (.iadd, 1) := by decide +kernel
theorem dL_cell_20 : decode cL_cell 20 = .ok (.ldc 7, 2) := by decide +kernel
theorem dL_cell_22 : decode cL_cell 22 = .ok (.iand, 1) := by decide +kernel
theorem dL_cell_23 : decode cL_cell 23 = .ok (.ireturn, 1) := by decide +kernel
theorem dL_put_0 : decode cL_put 0 = .ok (.aload_n 0, 1) := by decide +kernel
theorem dL_put_1 : decode cL_put 1 = .ok (.iload_n 1, 1) := by decide +kernel
theorem dL_put_2 : decode cL_put 2 = .ok (.i2l, 1) := by decide +kernel
theorem dL_put_3 : decode cL_put 3 = .ok (.invokevirtual 8, 3) := by decide +kernel
theorem dL_put_6 : decode cL_put 6 = .ok (.ifCond .le 7, 3) := by decide +kernel
theorem dL_put_9 : decode cL_put 9 = .ok (.iconst 1, 1) := by decide +kernel
theorem dL_put_10 : decode cL_put 10 = .ok (.goto 4, 3) := by decide +kernel
theorem dL_put_13 : decode cL_put 13 = .ok (.iconst 0, 1) := by decide +kernel
theorem dL_put_14 : decode cL_put 14 = .ok (.ireturn, 1) := by decide +kernel
theorem dL_wire_0 : decode cL_wire 0 = .ok (.bipush 10, 2) := by decide +kernel
theorem dL_wire_2 : decode cL_wire 2 = .ok (.iload_n 1, 1) := by decide +kernel
theorem dL_wire_3 : decode cL_wire 3 = .ok (.bipush 31, 2) := by decide +kernel
theorem dL_wire_5 : decode cL_wire 5 = .ok (.irem, 1) := by decide +kernel
theorem dL_wire_6 : decode cL_wire 6 = .ok (.iadd, 1) := by decide +kernel
theorem dL_wire_7 : decode cL_wire 7 = .ok (.istore_n 3, 1) := by decide +kernel
theorem dL_wire_8 : decode cL_wire 8 = .ok (.iconst 1, 1) := by decide +kernel
theorem dL_wire_9 : decode cL_wire 9 = .ok (.iload_n 1, 1) := by decide +kernel
theorem dL_wire_10 : decode cL_wire 10 = .ok (.bipush 32, 2) := by decide +kernel
theorem dL_wire_12 : decode cL_wire 12 = .ok (.idiv, 1) := by decide +kernel
theorem dL_wire_13 : decode cL_wire 13 = .ok (.bipush 9, 2) := by decide +kernel
theorem dL_wire_15 : decode cL_wire 15 = .ok (.irem, 1) := by decide +kernel
theorem dL_wire_16 : decode cL_wire 16 = .ok (.iload_n 1, 1) := by decide +kernel
theorem dL_wire_17 : decode cL_wire 17 = .ok (.iconst 3, 1) := by decide +kernel
theorem dL_wire_18 : decode cL_wire 18 = .ok (.irem, 1) := by decide +kernel
theorem dL_wire_19 : decode cL_wire 19 = .ok (.iconst 1, 1) := by decide +kernel
theorem dL_wire_20 : decode cL_wire 20 = .ok (.iadd, 1) := by decide +kernel
theorem dL_wire_21 : decode cL_wire 21 = .ok (.idiv, 1) := by decide +kernel
theorem dL_wire_22 : decode cL_wire 22 = .ok (.iadd, 1) := by decide +kernel
theorem dL_wire_23 : decode cL_wire 23 = .ok (.istore 4, 2) := by decide +kernel
theorem dL_wire_25 : decode cL_wire 25 = .ok (.bipush 100, 2) := by decide +kernel
theorem dL_wire_27 : decode cL_wire 27 = .ok (.iload_n 1, 1) := by decide +kernel
theorem dL_wire_28 : decode cL_wire 28 = .ok (.sipush 512, 3) := by decide +kernel
theorem dL_wire_31 : decode cL_wire 31 = .ok (.idiv, 1) := by decide +kernel
theorem dL_wire_32 : decode cL_wire 32 = .ok (.sipush 900, 3) := by decide +kernel
theorem dL_wire_35 : decode cL_wire 35 = .ok (.irem, 1) := by decide +kernel
theorem dL_wire_36 : decode cL_wire 36 = .ok (.iadd, 1) := by decide +kernel
theorem dL_wire_37 : decode cL_wire 37 = .ok (.istore 5, 2) := by decide +kernel
theorem dL_wire_39 : decode cL_wire 39 = .ok (.iconst 0, 1) := by decide +kernel
theorem dL_wire_40 : decode cL_wire 40 = .ok (.istore 6, 2) := by decide +kernel
theorem dL_wire_42 : decode cL_wire 42 = .ok (.iload 6, 2) := by decide +kernel
theorem dL_wire_44 : decode cL_wire 44 = .ok (.bipush 32, 2) := by decide +kernel
theorem dL_wire_46 : decode cL_wire 46 = .ok (.if_icmp .ge 14, 3) := by decide +kernel
theorem dL_wire_49 : decode cL_wire 49 = .ok (.aload_n 2, 1) := by decide +kernel
theorem dL_wire_50 : decode cL_wire 50 = .ok (.iload 6, 2) := by decide +kernel
theorem dL_wire_52 : decode cL_wire 52 = .ok (.iconst 0, 1) := by decide +kernel
theorem dL_wire_53 : decode cL_wire 53 = .ok (.iastore, 1) := by decide +kernel
theorem dL_wire_54 : decode cL_wire 54 = .ok (.iinc 6 1, 3) := by decide +kernel
theorem dL_wire_57 : decode cL_wire 57 = .ok (.goto (-15), 3) := by decide +kernel
theorem dL_wire_60 : decode cL_wire 60 = .ok (.aload_n 2, 1) := by decide +kernel
theorem dL_wire_61 : decode cL_wire 61 = .ok (.iconst 0, 1) := by decide +kernel
theorem dL_wire_62 : decode cL_wire 62 = .ok (.iload_n 3, 1) := by decide +kernel
theorem dL_wire_63 : decode cL_wire 63 = .ok (.iastore, 1) := by decide +kernel
theorem dL_wire_64 : decode cL_wire 64 = .ok (.aload_n 2, 1) := by decide +kernel
theorem dL_wire_65 : decode cL_wire 65 = .ok (.iconst 1, 1) := by decide +kernel
theorem dL_wire_66 : decode cL_wire 66 = .ok (.iload_n 3, 1) := by decide +kernel
theorem dL_wire_67 : decode cL_wire 67 = .ok (.iload_n 3, 1) := by decide +kernel
theorem dL_wire_68 : decode cL_wire 68 = .ok (.imul, 1) := by decide +kernel
theorem dL_wire_69 : decode cL_wire 69 = .ok (.iload 4, 2) := by decide +kernel
theorem dL_wire_71 : decode cL_wire 71 = .ok (.imul, 1) := by decide +kernel
theorem dL_wire_72 : decode cL_wire 72 = .ok (.iastore, 1) := by decide +kernel
theorem dL_wire_73 : decode cL_wire 73 = .ok (.aload_n 2, 1) := by decide +kernel
theorem dL_wire_74 : decode cL_wire 74 = .ok (.iconst 2, 1) := by decide +kernel
theorem dL_wire_75 : decode cL_wire 75 = .ok (.iload 5, 2) := by decide +kernel
theorem dL_wire_77 : decode cL_wire 77 = .ok (.iastore, 1) := by decide +kernel
theorem dL_wire_78 : decode cL_wire 78 = .ok (.aload_n 2, 1) := by decide +kernel
theorem dL_wire_79 : decode cL_wire 79 = .ok (.iconst 3, 1) := by decide +kernel
theorem dL_wire_80 : decode cL_wire 80 = .ok (.iload_n 1, 1) := by decide +kernel
theorem dL_wire_81 : decode cL_wire 81 = .ok (.ldc 14, 2) := by decide +kernel
theorem dL_wire_83 : decode cL_wire 83 = .ok (.idiv, 1) := by decide +kernel
theorem dL_wire_84 : decode cL_wire 84 = .ok (.iconst 2, 1) := by decide +kernel
theorem dL_wire_85 : decode cL_wire 85 = .ok (.irem, 1) := by decide +kernel
theorem dL_wire_86 : decode cL_wire 86 = .ok (.iastore, 1) := by decide +kernel
theorem dL_wire_87 : decode cL_wire 87 = .ok (.aload_n 0, 1) := by decide +kernel
theorem dL_wire_88 : decode cL_wire 88 = .ok (.bipush 48, 2) := by decide +kernel
theorem dL_wire_90 : decode cL_wire 90 = .ok (.iload_n 3, 1) := by decide +kernel
theorem dL_wire_91 : decode cL_wire 91 = .ok (.bipush 10, 2) := by decide +kernel
theorem dL_wire_93 : decode cL_wire 93 = .ok (.idiv, 1) := by decide +kernel
theorem dL_wire_94 : decode cL_wire 94 = .ok (.iadd, 1) := by decide +kernel
theorem dL_wire_95 : decode cL_wire 95 = .ok (.invokestatic 15, 3) := by decide +kernel
theorem dL_wire_98 : decode cL_wire 98 = .ok (.ifCond .eq 114, 3) := by decide +kernel
theorem dL_wire_101 : decode cL_wire 101 = .ok (.aload_n 0, 1) := by decide +kernel
theorem dL_wire_102 : decode cL_wire 102 = .ok (.bipush 48, 2) := by decide +kernel
theorem dL_wire_104 : decode cL_wire 104 = .ok (.iload_n 3, 1) := by decide +kernel
theorem dL_wire_105 : decode cL_wire 105 = .ok (.bipush 10, 2) := by decide +kernel
theorem dL_wire_107 : decode cL_wire 107 = .ok (.irem, 1) := by decide +kernel
theorem dL_wire_108 : decode cL_wire 108 = .ok (.iadd, 1) := by decide +kernel
theorem dL_wire_109 : decode cL_wire 109 = .ok (.invokestatic 15, 3) := by decide +kernel
theorem dL_wire_112 : decode cL_wire 112 = .ok (.ifCond .eq 100, 3) := by decide +kernel
theorem dL_wire_115 : decode cL_wire 115 = .ok (.aload_n 0, 1) := by decide +kernel
theorem dL_wire_116 : decode cL_wire 116 = .ok (.bipush 58, 2) := by decide +kernel
theorem dL_wire_118 : decode cL_wire 118 = .ok (.invokestatic 15, 3) := by decide +kernel
theorem dL_wire_121 : decode cL_wire 121 = .ok (.ifCond .eq 91, 3) := by decide +kernel
theorem dL_wire_124 : decode cL_wire 124 = .ok (.aload_n 0, 1) := by decide +kernel
theorem dL_wire_125 : decode cL_wire 125 = .ok (.bipush 48, 2) := by decide +kernel
theorem dL_wire_127 : decode cL_wire 127 = .ok (.iload 4, 2) := by decide +kernel
theorem dL_wire_129 : decode cL_wire 129 = .ok (.iadd, 1) := by decide +kernel
theorem dL_wire_130 : decode cL_wire 130 = .ok (.invokestatic 15, 3) := by decide +kernel
theorem dL_wire_133 : decode cL_wire 133 = .ok (.ifCond .eq 79, 3) := by decide +kernel
theorem dL_wire_136 : decode cL_wire 136 = .ok (.aload_n 0, 1) := by decide +kernel
theorem dL_wire_137 : decode cL_wire 137 = .ok (.bipush 58, 2) := by decide +kernel
theorem dL_wire_139 : decode cL_wire 139 = .ok (.invokestatic 15, 3) := by decide +kernel
theorem dL_wire_142 : decode cL_wire 142 = .ok (.ifCond .eq 70, 3) := by decide +kernel
theorem dL_wire_145 : decode cL_wire 145 = .ok (.aload_n 0, 1) := by decide +kernel
theorem dL_wire_146 : decode cL_wire 146 = .ok (.bipush 48, 2) := by decide +kernel
theorem dL_wire_148 : decode cL_wire 148 = .ok (.iload 5, 2) := by decide +kernel
theorem dL_wire_150 : decode cL_wire 150 = .ok (.bipush 100, 2) := by decide +kernel
theorem dL_wire_152 : decode cL_wire 152 = .ok (.idiv, 1) := by decide +kernel
theorem dL_wire_153 : decode cL_wire 153 = .ok (.iadd, 1) := by decide +kernel
theorem dL_wire_154 : decode cL_wire 154 = .ok (.invokestatic 15, 3) := by decide +kernel
theorem dL_wire_157 : decode cL_wire 157 = .ok (.ifCond .eq 55, 3) := by decide +kernel
theorem dL_wire_160 : decode cL_wire 160 = .ok (.aload_n 0, 1) := by decide +kernel
theorem dL_wire_161 : decode cL_wire 161 = .ok (.bipush 48, 2) := by decide +kernel
theorem dL_wire_163 : decode cL_wire 163 = .ok (.iload 5, 2) := by decide +kernel
theorem dL_wire_165 : decode cL_wire 165 = .ok (.bipush 10, 2) := by decide +kernel
theorem dL_wire_167 : decode cL_wire 167 = .ok (.idiv, 1) := by decide +kernel
theorem dL_wire_168 : decode cL_wire 168 = .ok (.bipush 10, 2) := by decide +kernel
theorem dL_wire_170 : decode cL_wire 170 = .ok (.irem, 1) := by decide +kernel
theorem dL_wire_171 : decode cL_wire 171 = .ok (.iadd, 1) := by decide +kernel
theorem dL_wire_172 : decode cL_wire 172 = .ok (.invokestatic 15, 3) := by decide +kernel
theorem dL_wire_175 : decode cL_wire 175 = .ok (.ifCond .eq 37, 3) := by decide +kernel
theorem dL_wire_178 : decode cL_wire 178 = .ok (.aload_n 0, 1) := by decide +kernel
theorem dL_wire_179 : decode cL_wire 179 = .ok (.bipush 48, 2) := by decide +kernel
theorem dL_wire_181 : decode cL_wire 181 = .ok (.iload 5, 2) := by decide +kernel
theorem dL_wire_183 : decode cL_wire 183 = .ok (.bipush 10, 2) := by decide +kernel
theorem dL_wire_185 : decode cL_wire 185 = .ok (.irem, 1) := by decide +kernel
theorem dL_wire_186 : decode cL_wire 186 = .ok (.iadd, 1) := by decide +kernel
theorem dL_wire_187 : decode cL_wire 187 = .ok (.invokestatic 15, 3) := by decide +kernel
theorem dL_wire_190 : decode cL_wire 190 = .ok (.ifCond .eq 22, 3) := by decide +kernel
theorem dL_wire_193 : decode cL_wire 193 = .ok (.aload_n 2, 1) := by decide +kernel
theorem dL_wire_194 : decode cL_wire 194 = .ok (.iconst 3, 1) := by decide +kernel
theorem dL_wire_195 : decode cL_wire 195 = .ok (.iaload, 1) := by decide +kernel
theorem dL_wire_196 : decode cL_wire 196 = .ok (.ifCond .eq 12, 3) := by decide +kernel
theorem dL_wire_199 : decode cL_wire 199 = .ok (.aload_n 0, 1) := by decide +kernel
theorem dL_wire_200 : decode cL_wire 200 = .ok (.bipush 111, 2) := by decide +kernel
theorem dL_wire_202 : decode cL_wire 202 = .ok (.invokestatic 15, 3) := by decide +kernel
theorem dL_wire_205 : decode cL_wire 205 = .ok (.ifCond .eq 7, 3) := by decide +kernel
theorem dL_wire_208 : decode cL_wire 208 = .ok (.iconst 1, 1) := by decide +kernel
theorem dL_wire_209 : decode cL_wire 209 = .ok (.goto 4, 3) := by decide +kernel
theorem dL_wire_212 : decode cL_wire 212 = .ok (.iconst 0, 1) := by decide +kernel
theorem dL_wire_213 : decode cL_wire 213 = .ok (.istore 6, 2) := by decide +kernel
theorem dL_wire_215 : decode cL_wire 215 = .ok (.iload 6, 2) := by decide +kernel
theorem dL_wire_217 : decode cL_wire 217 = .ok (.ifCond .eq 30, 3) := by decide +kernel
theorem dL_wire_220 : decode cL_wire 220 = .ok (.aload_n 0, 1) := by decide +kernel
theorem dL_wire_221 : decode cL_wire 221 = .ok (.invokevirtual 21, 3) := by decide +kernel
theorem dL_wire_224 : decode cL_wire 224 = .ok (.bipush 8, 2) := by decide +kernel
theorem dL_wire_226 : decode cL_wire 226 = .ok (.aload_n 2, 1) := by decide +kernel
theorem dL_wire_227 : decode cL_wire 227 = .ok (.iconst 3, 1) := by decide +kernel
theorem dL_wire_228 : decode cL_wire 228 = .ok (.iaload, 1) := by decide +kernel
theorem dL_wire_229 : decode cL_wire 229 = .ok (.iadd, 1) := by decide +kernel
theorem dL_wire_230 : decode cL_wire 230 = .ok (.if_icmp .ne 17, 3) := by decide +kernel
theorem dL_wire_233 : decode cL_wire 233 = .ok (.aload_n 0, 1) := by decide +kernel
theorem dL_wire_234 : decode cL_wire 234 = .ok (.invokevirtual 25, 3) := by decide +kernel
theorem dL_wire_237 : decode cL_wire 237 = .ok (.aload_n 2, 1) := by decide +kernel
theorem dL_wire_238 : decode cL_wire 238 = .ok (.iconst 1, 1) := by decide +kernel
theorem dL_wire_239 : decode cL_wire 239 = .ok (.iaload, 1) := by decide +kernel
theorem dL_wire_240 : decode cL_wire 240 = .ok (.if_icmp .ne 7, 3) := by decide +kernel
theorem dL_wire_243 : decode cL_wire 243 = .ok (.iconst 1, 1) := by decide +kernel
theorem dL_wire_244 : decode cL_wire 244 = .ok (.goto 4, 3) := by decide +kernel
theorem dL_wire_247 : decode cL_wire 247 = .ok (.iconst 0, 1) := by decide +kernel
theorem dL_wire_248 : decode cL_wire 248 = .ok (.ireturn, 1) := by decide +kernel
theorem dL_thing_0 : decode cL_thing 0 = .ok (.bipush 8, 2) := by decide +kernel
theorem dL_thing_2 : decode cL_thing 2 = .ok (.iconst 4, 1) := by decide +kernel
theorem dL_thing_3 : decode cL_thing 3 = .ok (.aload_n 2, 1) := by decide +kernel
theorem dL_thing_4 : decode cL_thing 4 = .ok (.bipush 7, 2) := by decide +kernel
theorem dL_thing_6 : decode cL_thing 6 = .ok (.iaload, 1) := by decide +kernel
theorem dL_thing_7 : decode cL_thing 7 = .ok (.imul, 1) := by decide +kernel
theorem dL_thing_8 : decode cL_thing 8 = .ok (.iadd, 1) := by decide +kernel
theorem dL_thing_9 : decode cL_thing 9 = .ok (.istore_n 3, 1) := by decide +kernel
theorem dL_thing_10 : decode cL_thing 10 = .ok (.aload_n 2, 1) := by decide +kernel
theorem dL_thing_11 : decode cL_thing 11 = .ok (.iload_n 3, 1) := by decide +kernel
theorem dL_thing_12 : decode cL_thing 12 = .ok (.iload_n 1, 1) := by decide +kernel
theorem dL_thing_13 : decode cL_thing 13 = .ok (.iconst 5, 1) := by decide +kernel
theorem dL_thing_14 : decode cL_thing 14 = .ok (.irem, 1) := by decide +kernel
theorem dL_thing_15 : decode cL_thing 15 = .ok (.iastore, 1) := by decide +kernel
theorem dL_thing_16 : decode cL_thing 16 = .ok (.aload_n 2, 1) := by decide +kernel
theorem dL_thing_17 : decode cL_thing 17 = .ok (.iload_n 3, 1) := by decide +kernel
theorem dL_thing_18 : decode cL_thing 18 = .ok (.iconst 1, 1) := by decide +kernel
theorem dL_thing_19 : decode cL_thing 19 = .ok (.iadd, 1) := by decide +kernel
theorem dL_thing_20 : decode cL_thing 20 = .ok (.iconst 1, 1) := by decide +kernel
theorem dL_thing_21 : decode cL_thing 21 = .ok (.iload_n 1, 1) := by decide +kernel
theorem dL_thing_22 : decode cL_thing 22 = .ok (.bipush 8, 2) := by decide +kernel
theorem dL_thing_24 : decode cL_thing 24 = .ok (.idiv, 1) := by decide +kernel
theorem dL_thing_25 : decode cL_thing 25 = .ok (.bipush 20, 2) := by decide +kernel
theorem dL_thing_27 : decode cL_thing 27 = .ok (.irem, 1) := by decide +kernel
theorem dL_thing_28 : decode cL_thing 28 = .ok (.iadd, 1) := by decide +kernel
theorem dL_thing_29 : decode cL_thing 29 = .ok (.iastore, 1) := by decide +kernel
theorem dL_thing_30 : decode cL_thing 30 = .ok (.aload_n 2, 1) := by decide +kernel
theorem dL_thing_31 : decode cL_thing 31 = .ok (.iload_n 3, 1) := by decide +kernel
theorem dL_thing_32 : decode cL_thing 32 = .ok (.iconst 2, 1) := by decide +kernel
theorem dL_thing_33 : decode cL_thing 33 = .ok (.iadd, 1) := by decide +kernel
theorem dL_thing_34 : decode cL_thing 34 = .ok (.iload_n 1, 1) := by decide +kernel
theorem dL_thing_35 : decode cL_thing 35 = .ok (.sipush 256, 3) := by decide +kernel
theorem dL_thing_38 : decode cL_thing 38 = .ok (.idiv, 1) := by decide +kernel
theorem dL_thing_39 : decode cL_thing 39 = .ok (.iconst 2, 1) := by decide +kernel
theorem dL_thing_40 : decode cL_thing 40 = .ok (.irem, 1) := by decide +kernel
theorem dL_thing_41 : decode cL_thing 41 = .ok (.iastore, 1) := by decide +kernel
theorem dL_thing_42 : decode cL_thing 42 = .ok (.aload_n 2, 1) := by decide +kernel
theorem dL_thing_43 : decode cL_thing 43 = .ok (.iload_n 3, 1) := by decide +kernel
theorem dL_thing_44 : decode cL_thing 44 = .ok (.iconst 3, 1) := by decide +kernel
theorem dL_thing_45 : decode cL_thing 45 = .ok (.iadd, 1) := by decide +kernel
theorem dL_thing_46 : decode cL_thing 46 = .ok (.aload_n 2, 1) := by decide +kernel
theorem dL_thing_47 : decode cL_thing 47 = .ok (.iconst 5, 1) := by decide +kernel
theorem dL_thing_48 : decode cL_thing 48 = .ok (.iaload, 1) := by decide +kernel
theorem dL_thing_49 : decode cL_thing 49 = .ok (.iastore, 1) := by decide +kernel
theorem dL_thing_50 : decode cL_thing 50 = .ok (.aload_n 2, 1) := by decide +kernel
theorem dL_thing_51 : decode cL_thing 51 = .ok (.bipush 7, 2) := by decide +kernel
theorem dL_thing_53 : decode cL_thing 53 = .ok (.dup2, 1) := by decide +kernel
theorem dL_thing_54 : decode cL_thing 54 = .ok (.iaload, 1) := by decide +kernel
theorem dL_thing_55 : decode cL_thing 55 = .ok (.iconst 1, 1) := by decide +kernel
theorem dL_thing_56 : decode cL_thing 56 = .ok (.iadd, 1) := by decide +kernel
theorem dL_thing_57 : decode cL_thing 57 = .ok (.iastore, 1) := by decide +kernel
theorem dL_thing_58 : decode cL_thing 58 = .ok (.aload_n 0, 1) := by decide +kernel
theorem dL_thing_59 : decode cL_thing 59 = .ok (.iload_n 1, 1) := by decide +kernel
theorem dL_thing_60 : decode cL_thing 60 = .ok (.iconst 5, 1) := by decide +kernel
theorem dL_thing_61 : decode cL_thing 61 = .ok (.irem, 1) := by decide +kernel
theorem dL_thing_62 : decode cL_thing 62 = .ok (.aload_n 2, 1) := by decide +kernel
theorem dL_thing_63 : decode cL_thing 63 = .ok (.iload_n 3, 1) := by decide +kernel
theorem dL_thing_64 : decode cL_thing 64 = .ok (.iconst 1, 1) := by decide +kernel
theorem dL_thing_65 : decode cL_thing 65 = .ok (.iadd, 1) := by decide +kernel
theorem dL_thing_66 : decode cL_thing 66 = .ok (.iaload, 1) := by decide +kernel
theorem dL_thing_67 : decode cL_thing 67 = .ok (.aload_n 2, 1) := by decide +kernel
theorem dL_thing_68 : decode cL_thing 68 = .ok (.iload_n 3, 1) := by decide +kernel
theorem dL_thing_69 : decode cL_thing 69 = .ok (.iconst 2, 1) := by decide +kernel
theorem dL_thing_70 : decode cL_thing 70 = .ok (.iadd, 1) := by decide +kernel
theorem dL_thing_71 : decode cL_thing 71 = .ok (.iaload, 1) := by decide +kernel
theorem dL_thing_72 : decode cL_thing 72 = .ok (.invokevirtual 28, 3) := by decide +kernel
theorem dL_thing_75 : decode cL_thing 75 = .ok (.aload_n 2, 1) := by decide +kernel
theorem dL_thing_76 : decode cL_thing 76 = .ok (.bipush 7, 2) := by decide +kernel
theorem dL_thing_78 : decode cL_thing 78 = .ok (.iaload, 1) := by decide +kernel
theorem dL_thing_79 : decode cL_thing 79 = .ok (.iconst 1, 1) := by decide +kernel
theorem dL_thing_80 : decode cL_thing 80 = .ok (.isub, 1) := by decide +kernel
theorem dL_thing_81 : decode cL_thing 81 = .ok (.if_icmp .ne 7, 3) := by decide +kernel
theorem dL_thing_84 : decode cL_thing 84 = .ok (.iconst 1, 1) := by decide +kernel
theorem dL_thing_85 : decode cL_thing 85 = .ok (.goto 4, 3) := by decide +kernel
theorem dL_thing_88 : decode cL_thing 88 = .ok (.iconst 0, 1) := by decide +kernel
theorem dL_thing_89 : decode cL_thing 89 = .ok (.ireturn, 1) := by decide +kernel
theorem dL_weighs_0 : decode cL_weighs 0 = .ok (.aload_n 0, 1) := by decide +kernel
theorem dL_weighs_1 : decode cL_weighs 1 = .ok (.bipush 8, 2) := by decide +kernel
theorem dL_weighs_3 : decode cL_weighs 3 = .ok (.iconst 4, 1) := by decide +kernel
theorem dL_weighs_4 : decode cL_weighs 4 = .ok (.iload_n 1, 1) := by decide +kernel
theorem dL_weighs_5 : decode cL_weighs 5 = .ok (.imul, 1) := by decide +kernel
theorem dL_weighs_6 : decode cL_weighs 6 = .ok (.iadd, 1) := by decide +kernel
theorem dL_weighs_7 : decode cL_weighs 7 = .ok (.iaload, 1) := by decide +kernel
theorem dL_weighs_8 : decode cL_weighs 8 = .ok (.istore_n 3, 1) := by decide +kernel
theorem dL_weighs_9 : decode cL_weighs 9 = .ok (.aload_n 0, 1) := by decide +kernel
theorem dL_weighs_10 : decode cL_weighs 10 = .ok (.iconst 5, 1) := by decide +kernel
theorem dL_weighs_11 : decode cL_weighs 11 = .ok (.iaload, 1) := by decide +kernel
theorem dL_weighs_12 : decode cL_weighs 12 = .ok (.iload_n 2, 1) := by decide +kernel
theorem dL_weighs_13 : decode cL_weighs 13 = .ok (.iadd, 1) := by decide +kernel
theorem dL_weighs_14 : decode cL_weighs 14 = .ok (.aload_n 0, 1) := by decide +kernel
theorem dL_weighs_15 : decode cL_weighs 15 = .ok (.bipush 11, 2) := by decide +kernel
theorem dL_weighs_17 : decode cL_weighs 17 = .ok (.iconst 4, 1) := by decide +kernel
theorem dL_weighs_18 : decode cL_weighs 18 = .ok (.iload_n 1, 1) := by decide +kernel
theorem dL_weighs_19 : decode cL_weighs 19 = .ok (.imul, 1) := by decide +kernel
theorem dL_weighs_20 : decode cL_weighs 20 = .ok (.iadd, 1) := by decide +kernel
theorem dL_weighs_21 : decode cL_weighs 21 = .ok (.iaload, 1) := by decide +kernel
theorem dL_weighs_22 : decode cL_weighs 22 = .ok (.isub, 1) := by decide +kernel
theorem dL_weighs_23 : decode cL_weighs 23 = .ok (.bipush 6, 2) := by decide +kernel
theorem dL_weighs_25 : decode cL_weighs 25 = .ok (.idiv, 1) := by decide +kernel
theorem dL_weighs_26 : decode cL_weighs 26 = .ok (.istore 4, 2) := by decide +kernel
theorem dL_weighs_28 : decode cL_weighs 28 = .ok (.aload_n 0, 1) := by decide +kernel
theorem dL_weighs_29 : decode cL_weighs 29 = .ok (.bipush 9, 2) := by decide +kernel
theorem dL_weighs_31 : decode cL_weighs 31 = .ok (.iconst 4, 1) := by decide +kernel
theorem dL_weighs_32 : decode cL_weighs 32 = .ok (.iload_n 1, 1) := by decide +kernel
theorem dL_weighs_33 : decode cL_weighs 33 = .ok (.imul, 1) := by decide +kernel
theorem dL_weighs_34 : decode cL_weighs 34 = .ok (.iadd, 1) := by decide +kernel
theorem dL_weighs_35 : decode cL_weighs 35 = .ok (.iaload, 1) := by decide +kernel
theorem dL_weighs_36 : decode cL_weighs 36 = .ok (.iload_n 3, 1) := by decide +kernel
theorem dL_weighs_37 : decode cL_weighs 37 = .ok (.iconst 1, 1) := by decide +kernel
theorem dL_weighs_38 : decode cL_weighs 38 = .ok (.if_icmp .ne 7, 3) := by decide +kernel
theorem dL_weighs_41 : decode cL_weighs 41 = .ok (.iconst 2, 1) := by decide +kernel
theorem dL_weighs_42 : decode cL_weighs 42 = .ok (.goto 27, 3) := by decide +kernel
theorem dL_weighs_45 : decode cL_weighs 45 = .ok (.iload_n 3, 1) := by decide +kernel
theorem dL_weighs_46 : decode cL_weighs 46 = .ok (.iconst 3, 1) := by decide +kernel
theorem dL_weighs_47 : decode cL_weighs 47 = .ok (.if_icmp .ne 8, 3) := by decide +kernel
theorem dL_weighs_50 : decode cL_weighs 50 = .ok (.iload 4, 2) := by decide +kernel
theorem dL_weighs_52 : decode cL_weighs 52 = .ok (.goto 17, 3) := by decide +kernel
theorem dL_weighs_55 : decode cL_weighs 55 = .ok (.iload_n 3, 1) := by decide +kernel
theorem dL_weighs_56 : decode cL_weighs 56 = .ok (.iconst 4, 1) := by decide +kernel
theorem dL_weighs_57 : decode cL_weighs 57 = .ok (.if_icmp .ne 11, 3) := by decide +kernel
theorem dL_weighs_60 : decode cL_weighs 60 = .ok (.iload 4, 2) := by decide +kernel
theorem dL_weighs_62 : decode cL_weighs 62 = .ok (.iload 4, 2) := by decide +kernel
theorem dL_weighs_64 : decode cL_weighs 64 = .ok (.iadd, 1) := by decide +kernel
theorem dL_weighs_65 : decode cL_weighs 65 = .ok (.goto 4, 3) := by decide +kernel
theorem dL_weighs_68 : decode cL_weighs 68 = .ok (.iconst 0, 1) := by decide +kernel
theorem dL_weighs_69 : decode cL_weighs 69 = .ok (.iadd, 1) := by decide +kernel
theorem dL_weighs_70 : decode cL_weighs 70 = .ok (.ireturn, 1) := by decide +kernel
theorem dL_cabin_0 : decode cL_cabin 0 = .ok (.bipush 10, 2) := by decide +kernel
theorem dL_cabin_2 : decode cL_cabin 2 = .ok (.istore 4, 2) := by decide +kernel
theorem dL_cabin_4 : decode cL_cabin 4 = .ok (.iconst 0, 1) := by decide +kernel
theorem dL_cabin_5 : decode cL_cabin 5 = .ok (.istore 5, 2) := by decide +kernel
theorem dL_cabin_7 : decode cL_cabin 7 = .ok (.iload 5, 2) := by decide +kernel
theorem dL_cabin_9 : decode cL_cabin 9 = .ok (.aload_n 0, 1) := by decide +kernel
theorem dL_cabin_10 : decode cL_cabin 10 = .ok (.bipush 7, 2) := by decide +kernel
theorem dL_cabin_12 : decode cL_cabin 12 = .ok (.iaload, 1) := by decide +kernel
theorem dL_cabin_13 : decode cL_cabin 13 = .ok (.if_icmp .ge 51, 3) := by decide +kernel
theorem dL_cabin_16 : decode cL_cabin 16 = .ok (.aload_n 0, 1) := by decide +kernel
theorem dL_cabin_17 : decode cL_cabin 17 = .ok (.bipush 10, 2) := by decide +kernel
theorem dL_cabin_19 : decode cL_cabin 19 = .ok (.iconst 4, 1) := by decide +kernel
theorem dL_cabin_20 : decode cL_cabin 20 = .ok (.iload 5, 2) := by decide +kernel
theorem dL_cabin_22 : decode cL_cabin 22 = .ok (.imul, 1) := by decide +kernel
theorem dL_cabin_23 : decode cL_cabin 23 = .ok (.iadd, 1) := by decide +kernel
theorem dL_cabin_24 : decode cL_cabin 24 = .ok (.iaload, 1) := by decide +kernel
theorem dL_cabin_25 : decode cL_cabin 25 = .ok (.iload_n 2, 1) := by decide +kernel
theorem dL_cabin_26 : decode cL_cabin 26 = .ok (.iload 5, 2) := by decide +kernel
theorem dL_cabin_28 : decode cL_cabin 28 = .ok (.ishr, 1) := by decide +kernel
theorem dL_cabin_29 : decode cL_cabin 29 = .ok (.iconst 1, 1) := by decide +kernel
theorem dL_cabin_30 : decode cL_cabin 30 = .ok (.iand, 1) := by decide +kernel
theorem dL_cabin_31 : decode cL_cabin 31 = .ok (.iadd, 1) := by decide +kernel
theorem dL_cabin_32 : decode cL_cabin 32 = .ok (.iconst 2, 1) := by decide +kernel
theorem dL_cabin_33 : decode cL_cabin 33 = .ok (.irem, 1) := by decide +kernel
theorem dL_cabin_34 : decode cL_cabin 34 = .ok (.istore 6, 2) := by decide +kernel
theorem dL_cabin_36 : decode cL_cabin 36 = .ok (.iload 4, 2) := by decide +kernel
theorem dL_cabin_38 : decode cL_cabin 38 = .ok (.iload 6, 2) := by decide +kernel
theorem dL_cabin_40 : decode cL_cabin 40 = .ok (.iload_n 1, 1) := by decide +kernel
theorem dL_cabin_41 : decode cL_cabin 41 = .ok (.if_icmp .ne 13, 3) := by decide +kernel
theorem dL_cabin_44 : decode cL_cabin 44 = .ok (.aload_n 0, 1) := by decide +kernel
theorem dL_cabin_45 : decode cL_cabin 45 = .ok (.iload 5, 2) := by decide +kernel
theorem dL_cabin_47 : decode cL_cabin 47 = .ok (.iload_n 3, 1) := by decide +kernel
theorem dL_cabin_48 : decode cL_cabin 48 = .ok (.invokestatic 32, 3) := by decide +kernel
theorem dL_cabin_51 : decode cL_cabin 51 = .ok (.goto 4, 3) := by decide +kernel
theorem dL_cabin_54 : decode cL_cabin 54 = .ok (.iconst 0, 1) := by decide +kernel
theorem dL_cabin_55 : decode cL_cabin 55 = .ok (.iadd, 1) := by decide +kernel
theorem dL_cabin_56 : decode cL_cabin 56 = .ok (.istore 4, 2) := by decide +kernel
theorem dL_cabin_58 : decode cL_cabin 58 = .ok (.iinc 5 1, 3) := by decide +kernel
theorem dL_cabin_61 : decode cL_cabin 61 = .ok (.goto (-54), 3) := by decide +kernel
theorem dL_cabin_64 : decode cL_cabin 64 = .ok (.iload 4, 2) := by decide +kernel
theorem dL_cabin_66 : decode cL_cabin 66 = .ok (.ireturn, 1) := by decide +kernel
theorem dL_turns_0 : decode cL_turns 0 = .ok (.aload_n 0, 1) := by decide +kernel
theorem dL_turns_1 : decode cL_turns 1 = .ok (.iconst 1, 1) := by decide +kernel
theorem dL_turns_2 : decode cL_turns 2 = .ok (.iaload, 1) := by decide +kernel
theorem dL_turns_3 : decode cL_turns 3 = .ok (.iload_n 1, 1) := by decide +kernel
theorem dL_turns_4 : decode cL_turns 4 = .ok (.iload_n 1, 1) := by decide +kernel
theorem dL_turns_5 : decode cL_turns 5 = .ok (.imul, 1) := by decide +kernel
theorem dL_turns_6 : decode cL_turns 6 = .ok (.idiv, 1) := by decide +kernel
theorem dL_turns_7 : decode cL_turns 7 = .ok (.ireturn, 1) := by decide +kernel
theorem dL_arm_0 : decode cL_arm 0 = .ok (.aload_n 0, 1) := by decide +kernel
theorem dL_arm_1 : decode cL_arm 1 = .ok (.iconst 0, 1) := by decide +kernel
theorem dL_arm_2 : decode cL_arm 2 = .ok (.iload_n 2, 1) := by decide +kernel
theorem dL_arm_3 : decode cL_arm 3 = .ok (.iload 4, 2) := by decide +kernel
theorem dL_arm_5 : decode cL_arm 5 = .ok (.invokestatic 36, 3) := by decide +kernel
theorem dL_arm_8 : decode cL_arm 8 = .ok (.istore 5, 2) := by decide +kernel
theorem dL_arm_10 : decode cL_arm 10 = .ok (.aload_n 0, 1) := by decide +kernel
theorem dL_arm_11 : decode cL_arm 11 = .ok (.iconst 1, 1) := by decide +kernel
theorem dL_arm_12 : decode cL_arm 12 = .ok (.iload_n 2, 1) := by decide +kernel
theorem dL_arm_13 : decode cL_arm 13 = .ok (.iload 4, 2) := by decide +kernel
theorem dL_arm_15 : decode cL_arm 15 = .ok (.invokestatic 36, 3) := by decide +kernel
theorem dL_arm_18 : decode cL_arm 18 = .ok (.istore 6, 2) := by decide +kernel
theorem dL_arm_20 : decode cL_arm 20 = .ok (.iload_n 3, 1) := by decide +kernel
theorem dL_arm_21 : decode cL_arm 21 = .ok (.iload 6, 2) := by decide +kernel
theorem dL_arm_23 : decode cL_arm 23 = .ok (.imul, 1) := by decide +kernel
theorem dL_arm_24 : decode cL_arm 24 = .ok (.iload_n 3, 1) := by decide +kernel
theorem dL_arm_25 : decode cL_arm 25 = .ok (.iload 6, 2) := by decide +kernel
theorem dL_arm_27 : decode cL_arm 27 = .ok (.imul, 1) := by decide +kernel
theorem dL_arm_28 : decode cL_arm 28 = .ok (.iload 5, 2) := by decide +kernel
theorem dL_arm_30 : decode cL_arm 30 = .ok (.iload 6, 2) := by decide +kernel
theorem dL_arm_32 : decode cL_arm 32 = .ok (.iadd, 1) := by decide +kernel
theorem dL_arm_33 : decode cL_arm 33 = .ok (.irem, 1) := by decide +kernel
theorem dL_arm_34 : decode cL_arm 34 = .ok (.isub, 1) := by decide +kernel
theorem dL_arm_35 : decode cL_arm 35 = .ok (.iload 5, 2) := by decide +kernel
theorem dL_arm_37 : decode cL_arm 37 = .ok (.iload 6, 2) := by decide +kernel
theorem dL_arm_39 : decode cL_arm 39 = .ok (.iadd, 1) := by decide +kernel
theorem dL_arm_40 : decode cL_arm 40 = .ok (.idiv, 1) := by decide +kernel
theorem dL_arm_41 : decode cL_arm 41 = .ok (.istore 7, 2) := by decide +kernel
theorem dL_arm_43 : decode cL_arm 43 = .ok (.iload_n 1, 1) := by decide +kernel
theorem dL_arm_44 : decode cL_arm 44 = .ok (.ifCond .ne 8, 3) := by decide +kernel
theorem dL_arm_47 : decode cL_arm 47 = .ok (.iload 7, 2) := by decide +kernel
theorem dL_arm_49 : decode cL_arm 49 = .ok (.goto 7, 3) := by decide +kernel
theorem dL_arm_52 : decode cL_arm 52 = .ok (.iload_n 3, 1) := by decide +kernel
theorem dL_arm_53 : decode cL_arm 53 = .ok (.iload 7, 2) := by decide +kernel
theorem dL_arm_55 : decode cL_arm 55 = .ok (.isub, 1) := by decide +kernel
theorem dL_arm_56 : decode cL_arm 56 = .ok (.ireturn, 1) := by decide +kernel
theorem dL_floor_0 : decode cL_floor 0 = .ok (.aload_n 0, 1) := by decide +kernel
theorem dL_floor_1 : decode cL_floor 1 = .ok (.iload_n 3, 1) := by decide +kernel
theorem dL_floor_2 : decode cL_floor 2 = .ok (.invokestatic 40, 3) := by decide +kernel
theorem dL_floor_5 : decode cL_floor 5 = .ok (.istore 5, 2) := by decide +kernel
theorem dL_floor_7 : decode cL_floor 7 = .ok (.iload 5, 2) := by decide +kernel
theorem dL_floor_9 : decode cL_floor 9 = .ok (.aload_n 0, 1) := by decide +kernel
theorem dL_floor_10 : decode cL_floor 10 = .ok (.iload_n 1, 1) := by decide +kernel
theorem dL_floor_11 : decode cL_floor 11 = .ok (.iload_n 2, 1) := by decide +kernel
theorem dL_floor_12 : decode cL_floor 12 = .ok (.iload_n 3, 1) := by decide +kernel
theorem dL_floor_13 : decode cL_floor 13 = .ok (.iload 4, 2) := by decide +kernel
theorem dL_floor_15 : decode cL_floor 15 = .ok (.invokestatic 44, 3) := by decide +kernel
theorem dL_floor_18 : decode cL_floor 18 = .ok (.imul, 1) := by decide +kernel
theorem dL_floor_19 : decode cL_floor 19 = .ok (.iload 5, 2) := by decide +kernel
theorem dL_floor_21 : decode cL_floor 21 = .ok (.imul, 1) := by decide +kernel
theorem dL_floor_22 : decode cL_floor 22 = .ok (.ireturn, 1) := by decide +kernel
theorem dL_strain_0 : decode cL_strain 0 = .ok (.aload_n 0, 1) := by decide +kernel
theorem dL_strain_1 : decode cL_strain 1 = .ok (.iconst 0, 1) := by decide +kernel
theorem dL_strain_2 : decode cL_strain 2 = .ok (.iconst 0, 1) := by decide +kernel
theorem dL_strain_3 : decode cL_strain 3 = .ok (.iload_n 1, 1) := by decide +kernel
theorem dL_strain_4 : decode cL_strain 4 = .ok (.iload_n 2, 1) := by decide +kernel
theorem dL_strain_5 : decode cL_strain 5 = .ok (.invokestatic 48, 3) := by decide +kernel
theorem dL_strain_8 : decode cL_strain 8 = .ok (.aload_n 0, 1) := by decide +kernel
theorem dL_strain_9 : decode cL_strain 9 = .ok (.iconst 0, 1) := by decide +kernel
theorem dL_strain_10 : decode cL_strain 10 = .ok (.iconst 0, 1) := by decide +kernel
theorem dL_strain_11 : decode cL_strain 11 = .ok (.iload_n 2, 1) := by decide +kernel
theorem dL_strain_12 : decode cL_strain 12 = .ok (.invokestatic 36, 3) := by decide +kernel
theorem dL_strain_15 : decode cL_strain 15 = .ok (.imul, 1) := by decide +kernel
theorem dL_strain_16 : decode cL_strain 16 = .ok (.bipush 100, 2) := by decide +kernel
theorem dL_strain_18 : decode cL_strain 18 = .ok (.idiv, 1) := by decide +kernel
theorem dL_strain_19 : decode cL_strain 19 = .ok (.ireturn, 1) := by decide +kernel
theorem dL_hour_0 : decode cL_hour 0 = .ok (.aload_n 0, 1) := by decide +kernel
theorem dL_hour_1 : decode cL_hour 1 = .ok (.iconst 0, 1) := by decide +kernel
theorem dL_hour_2 : decode cL_hour 2 = .ok (.dup2, 1) := by decide +kernel
theorem dL_hour_3 : decode cL_hour 3 = .ok (.iaload, 1) := by decide +kernel
theorem dL_hour_4 : decode cL_hour 4 = .ok (.iload_n 1, 1) := by decide +kernel
theorem dL_hour_5 : decode cL_hour 5 = .ok (.isub, 1) := by decide +kernel
theorem dL_hour_6 : decode cL_hour 6 = .ok (.iastore, 1) := by decide +kernel
theorem dL_hour_7 : decode cL_hour 7 = .ok (.aload_n 0, 1) := by decide +kernel
theorem dL_hour_8 : decode cL_hour 8 = .ok (.iconst 5, 1) := by decide +kernel
theorem dL_hour_9 : decode cL_hour 9 = .ok (.dup2, 1) := by decide +kernel
theorem dL_hour_10 : decode cL_hour 10 = .ok (.iaload, 1) := by decide +kernel
theorem dL_hour_11 : decode cL_hour 11 = .ok (.iconst 1, 1) := by decide +kernel
theorem dL_hour_12 : decode cL_hour 12 = .ok (.iadd, 1) := by decide +kernel
theorem dL_hour_13 : decode cL_hour 13 = .ok (.iastore, 1) := by decide +kernel
theorem dL_hour_14 : decode cL_hour 14 = .ok (.aload_n 0, 1) := by decide +kernel
theorem dL_hour_15 : decode cL_hour 15 = .ok (.iconst 4, 1) := by decide +kernel
theorem dL_hour_16 : decode cL_hour 16 = .ok (.aload_n 0, 1) := by decide +kernel
theorem dL_hour_17 : decode cL_hour 17 = .ok (.iconst 4, 1) := by decide +kernel
theorem dL_hour_18 : decode cL_hour 18 = .ok (.iaload, 1) := by decide +kernel
theorem dL_hour_19 : decode cL_hour 19 = .ok (.aload_n 0, 1) := by decide +kernel
theorem dL_hour_20 : decode cL_hour 20 = .ok (.aload_n 0, 1) := by decide +kernel
theorem dL_hour_21 : decode cL_hour 21 = .ok (.iconst 0, 1) := by decide +kernel
theorem dL_hour_22 : decode cL_hour 22 = .ok (.iaload, 1) := by decide +kernel
theorem dL_hour_23 : decode cL_hour 23 = .ok (.invokestatic 40, 3) := by decide +kernel
theorem dL_hour_26 : decode cL_hour 26 = .ok (.bipush 10, 2) := by decide +kernel
theorem dL_hour_28 : decode cL_hour 28 = .ok (.imul, 1) := by decide +kernel
theorem dL_hour_29 : decode cL_hour 29 = .ok (.iadd, 1) := by decide +kernel
theorem dL_hour_30 : decode cL_hour 30 = .ok (.sipush 360, 3) := by decide +kernel
theorem dL_hour_33 : decode cL_hour 33 = .ok (.irem, 1) := by decide +kernel
theorem dL_hour_34 : decode cL_hour 34 = .ok (.iastore, 1) := by decide +kernel
theorem dL_hour_35 : decode cL_hour 35 = .ok (.aload_n 0, 1) := by decide +kernel
theorem dL_hour_36 : decode cL_hour 36 = .ok (.bipush 6, 2) := by decide +kernel
theorem dL_hour_38 : decode cL_hour 38 = .ok (.aload_n 0, 1) := by decide +kernel
theorem dL_hour_39 : decode cL_hour 39 = .ok (.aload_n 0, 1) := by decide +kernel
theorem dL_hour_40 : decode cL_hour 40 = .ok (.iconst 0, 1) := by decide +kernel
theorem dL_hour_41 : decode cL_hour 41 = .ok (.iaload, 1) := by decide +kernel
theorem dL_hour_42 : decode cL_hour 42 = .ok (.iconst 0, 1) := by decide +kernel
theorem dL_hour_43 : decode cL_hour 43 = .ok (.invokestatic 51, 3) := by decide +kernel
theorem dL_hour_46 : decode cL_hour 46 = .ok (.aload_n 0, 1) := by decide +kernel
theorem dL_hour_47 : decode cL_hour 47 = .ok (.iconst 2, 1) := by decide +kernel
theorem dL_hour_48 : decode cL_hour 48 = .ok (.iaload, 1) := by decide +kernel
theorem dL_hour_49 : decode cL_hour 49 = .ok (.if_icmp .le 7, 3) := by decide +kernel
theorem dL_hour_52 : decode cL_hour 52 = .ok (.iconst 1, 1) := by decide +kernel
theorem dL_hour_53 : decode cL_hour 53 = .ok (.goto 4, 3) := by decide +kernel
theorem dL_hour_56 : decode cL_hour 56 = .ok (.iconst 0, 1) := by decide +kernel
theorem dL_hour_57 : decode cL_hour 57 = .ok (.iastore, 1) := by decide +kernel
theorem dL_hour_58 : decode cL_hour 58 = .ok (.aload_n 0, 1) := by decide +kernel
theorem dL_hour_59 : decode cL_hour 59 = .ok (.bipush 6, 2) := by decide +kernel
theorem dL_hour_61 : decode cL_hour 61 = .ok (.iaload, 1) := by decide +kernel
theorem dL_hour_62 : decode cL_hour 62 = .ok (.iconst 1, 1) := by decide +kernel
theorem dL_hour_63 : decode cL_hour 63 = .ok (.if_icmp .ne 7, 3) := by decide +kernel
theorem dL_hour_66 : decode cL_hour 66 = .ok (.iconst (-1), 1) := by decide +kernel
theorem dL_hour_67 : decode cL_hour 67 = .ok (.goto 6, 3) := by decide +kernel
theorem dL_hour_70 : decode cL_hour 70 = .ok (.aload_n 0, 1) := by decide +kernel
theorem dL_hour_71 : decode cL_hour 71 = .ok (.iconst 0, 1) := by decide +kernel
theorem dL_hour_72 : decode cL_hour 72 = .ok (.iaload, 1) := by decide +kernel
theorem dL_hour_73 : decode cL_hour 73 = .ok (.ireturn, 1) := by decide +kernel
theorem dL_told_0 : decode cL_told 0 = .ok (.aload_n 0, 1) := by decide +kernel
theorem dL_told_1 : decode cL_told 1 = .ok (.iconst 0, 1) := by decide +kernel
theorem dL_told_2 : decode cL_told 2 = .ok (.invokevirtual 54, 3) := by decide +kernel
theorem dL_told_5 : decode cL_told 5 = .ok (.aload_n 1, 1) := by decide +kernel
theorem dL_told_6 : decode cL_told 6 = .ok (.iconst 0, 1) := by decide +kernel
theorem dL_told_7 : decode cL_told 7 = .ok (.iaload, 1) := by decide +kernel
theorem dL_told_8 : decode cL_told 8 = .ok (.if_icmp .ne 121, 3) := by decide +kernel
theorem dL_told_11 : decode cL_told 11 = .ok (.aload_n 0, 1) := by decide +kernel
theorem dL_told_12 : decode cL_told 12 = .ok (.iconst 1, 1) := by decide +kernel
theorem dL_told_13 : decode cL_told 13 = .ok (.invokevirtual 54, 3) := by decide +kernel
theorem dL_told_16 : decode cL_told 16 = .ok (.aload_n 1, 1) := by decide +kernel
theorem dL_told_17 : decode cL_told 17 = .ok (.aload_n 1, 1) := by decide +kernel
theorem dL_told_18 : decode cL_told 18 = .ok (.iconst 0, 1) := by decide +kernel
theorem dL_told_19 : decode cL_told 19 = .ok (.iaload, 1) := by decide +kernel
theorem dL_told_20 : decode cL_told 20 = .ok (.invokestatic 40, 3) := by decide +kernel
theorem dL_told_23 : decode cL_told 23 = .ok (.if_icmp .ne 106, 3) := by decide +kernel
theorem dL_told_26 : decode cL_told 26 = .ok (.aload_n 0, 1) := by decide +kernel
theorem dL_told_27 : decode cL_told 27 = .ok (.iconst 2, 1) := by decide +kernel
theorem dL_told_28 : decode cL_told 28 = .ok (.invokevirtual 54, 3) := by decide +kernel
theorem dL_told_31 : decode cL_told 31 = .ok (.aload_n 1, 1) := by decide +kernel
theorem dL_told_32 : decode cL_told 32 = .ok (.iconst 1, 1) := by decide +kernel
theorem dL_told_33 : decode cL_told 33 = .ok (.iaload, 1) := by decide +kernel
theorem dL_told_34 : decode cL_told 34 = .ok (.if_icmp .ne 95, 3) := by decide +kernel
theorem dL_told_37 : decode cL_told 37 = .ok (.aload_n 0, 1) := by decide +kernel
theorem dL_told_38 : decode cL_told 38 = .ok (.iconst 3, 1) := by decide +kernel
theorem dL_told_39 : decode cL_told 39 = .ok (.invokevirtual 54, 3) := by decide +kernel
theorem dL_told_42 : decode cL_told 42 = .ok (.aload_n 1, 1) := by decide +kernel
theorem dL_told_43 : decode cL_told 43 = .ok (.aload_n 1, 1) := by decide +kernel
theorem dL_told_44 : decode cL_told 44 = .ok (.iconst 0, 1) := by decide +kernel
theorem dL_told_45 : decode cL_told 45 = .ok (.iaload, 1) := by decide +kernel
theorem dL_told_46 : decode cL_told 46 = .ok (.iconst 0, 1) := by decide +kernel
theorem dL_told_47 : decode cL_told 47 = .ok (.invokestatic 51, 3) := by decide +kernel
theorem dL_told_50 : decode cL_told 50 = .ok (.if_icmp .ne 79, 3) := by decide +kernel
theorem dL_told_53 : decode cL_told 53 = .ok (.aload_n 0, 1) := by decide +kernel
theorem dL_told_54 : decode cL_told 54 = .ok (.iconst 4, 1) := by decide +kernel
theorem dL_told_55 : decode cL_told 55 = .ok (.invokevirtual 54, 3) := by decide +kernel
theorem dL_told_58 : decode cL_told 58 = .ok (.aload_n 1, 1) := by decide +kernel
theorem dL_told_59 : decode cL_told 59 = .ok (.iconst 2, 1) := by decide +kernel
theorem dL_told_60 : decode cL_told 60 = .ok (.iaload, 1) := by decide +kernel
theorem dL_told_61 : decode cL_told 61 = .ok (.if_icmp .ne 68, 3) := by decide +kernel
theorem dL_told_64 : decode cL_told 64 = .ok (.aload_n 0, 1) := by decide +kernel
theorem dL_told_65 : decode cL_told 65 = .ok (.iconst 5, 1) := by decide +kernel
theorem dL_told_66 : decode cL_told 66 = .ok (.invokevirtual 54, 3) := by decide +kernel
theorem dL_told_69 : decode cL_told 69 = .ok (.aload_n 1, 1) := by decide +kernel
theorem dL_told_70 : decode cL_told 70 = .ok (.iconst 3, 1) := by decide +kernel
theorem dL_told_71 : decode cL_told 71 = .ok (.iaload, 1) := by decide +kernel
theorem dL_told_72 : decode cL_told 72 = .ok (.if_icmp .ne 57, 3) := by decide +kernel
theorem dL_told_75 : decode cL_told 75 = .ok (.aload_n 0, 1) := by decide +kernel
theorem dL_told_76 : decode cL_told 76 = .ok (.bipush 6, 2) := by decide +kernel
theorem dL_told_78 : decode cL_told 78 = .ok (.invokevirtual 54, 3) := by decide +kernel
theorem dL_told_81 : decode cL_told 81 = .ok (.aload_n 1, 1) := by decide +kernel
theorem dL_told_82 : decode cL_told 82 = .ok (.iconst 4, 1) := by decide +kernel
theorem dL_told_83 : decode cL_told 83 = .ok (.iaload, 1) := by decide +kernel
theorem dL_told_84 : decode cL_told 84 = .ok (.if_icmp .ne 45, 3) := by decide +kernel
theorem dL_told_87 : decode cL_told 87 = .ok (.aload_n 0, 1) := by decide +kernel
theorem dL_told_88 : decode cL_told 88 = .ok (.bipush 7, 2) := by decide +kernel
theorem dL_told_90 : decode cL_told 90 = .ok (.invokevirtual 54, 3) := by decide +kernel
theorem dL_told_93 : decode cL_told 93 = .ok (.aload_n 1, 1) := by decide +kernel
theorem dL_told_94 : decode cL_told 94 = .ok (.iconst 5, 1) := by decide +kernel
theorem dL_told_95 : decode cL_told 95 = .ok (.iaload, 1) := by decide +kernel
theorem dL_told_96 : decode cL_told 96 = .ok (.if_icmp .ne 33, 3) := by decide +kernel
theorem dL_told_99 : decode cL_told 99 = .ok (.aload_n 0, 1) := by decide +kernel
theorem dL_told_100 : decode cL_told 100 = .ok (.bipush 8, 2) := by decide +kernel
theorem dL_told_102 : decode cL_told 102 = .ok (.invokevirtual 54, 3) := by decide +kernel
theorem dL_told_105 : decode cL_told 105 = .ok (.aload_n 1, 1) := by decide +kernel
theorem dL_told_106 : decode cL_told 106 = .ok (.bipush 6, 2) := by decide +kernel
theorem dL_told_108 : decode cL_told 108 = .ok (.iaload, 1) := by decide +kernel
theorem dL_told_109 : decode cL_told 109 = .ok (.if_icmp .ne 20, 3) := by decide +kernel
theorem dL_told_112 : decode cL_told 112 = .ok (.aload_n 0, 1) := by decide +kernel
theorem dL_told_113 : decode cL_told 113 = .ok (.bipush 9, 2) := by decide +kernel
theorem dL_told_115 : decode cL_told 115 = .ok (.invokevirtual 54, 3) := by decide +kernel
theorem dL_told_118 : decode cL_told 118 = .ok (.aload_n 1, 1) := by decide +kernel
theorem dL_told_119 : decode cL_told 119 = .ok (.bipush 7, 2) := by decide +kernel
theorem dL_told_121 : decode cL_told 121 = .ok (.iaload, 1) := by decide +kernel
theorem dL_told_122 : decode cL_told 122 = .ok (.if_icmp .ne 7, 3) := by decide +kernel
theorem dL_told_125 : decode cL_told 125 = .ok (.iconst 1, 1) := by decide +kernel
theorem dL_told_126 : decode cL_told 126 = .ok (.goto 4, 3) := by decide +kernel
theorem dL_told_129 : decode cL_told 129 = .ok (.iconst 0, 1) := by decide +kernel
theorem dL_told_130 : decode cL_told 130 = .ok (.istore_n 2, 1) := by decide +kernel
theorem dL_told_131 : decode cL_told 131 = .ok (.iconst 0, 1) := by decide +kernel
theorem dL_told_132 : decode cL_told 132 = .ok (.istore_n 3, 1) := by decide +kernel
theorem dL_told_133 : decode cL_told 133 = .ok (.iconst 0, 1) := by decide +kernel
theorem dL_told_134 : decode cL_told 134 = .ok (.istore 4, 2) := by decide +kernel
theorem dL_told_136 : decode cL_told 136 = .ok (.iload 4, 2) := by decide +kernel
theorem dL_told_138 : decode cL_told 138 = .ok (.aload_n 1, 1) := by decide +kernel
theorem dL_told_139 : decode cL_told 139 = .ok (.bipush 7, 2) := by decide +kernel
theorem dL_told_141 : decode cL_told 141 = .ok (.iaload, 1) := by decide +kernel
theorem dL_told_142 : decode cL_told 142 = .ok (.if_icmp .ge 136, 3) := by decide +kernel
theorem dL_told_145 : decode cL_told 145 = .ok (.iload_n 3, 1) := by decide +kernel
theorem dL_told_146 : decode cL_told 146 = .ok (.aload_n 1, 1) := by decide +kernel
theorem dL_told_147 : decode cL_told 147 = .ok (.bipush 10, 2) := by decide +kernel
theorem dL_told_149 : decode cL_told 149 = .ok (.iconst 4, 1) := by decide +kernel
theorem dL_told_150 : decode cL_told 150 = .ok (.iload 4, 2) := by decide +kernel
theorem dL_told_152 : decode cL_told 152 = .ok (.imul, 1) := by decide +kernel
theorem dL_told_153 : decode cL_told 153 = .ok (.iadd, 1) := by decide +kernel
theorem dL_told_154 : decode cL_told 154 = .ok (.iaload, 1) := by decide +kernel
theorem dL_told_155 : decode cL_told 155 = .ok (.ifCond .ne 7, 3) := by decide +kernel
theorem dL_told_158 : decode cL_told 158 = .ok (.iconst 1, 1) := by decide +kernel
theorem dL_told_159 : decode cL_told 159 = .ok (.goto 4, 3) := by decide +kernel
theorem dL_told_162 : decode cL_told 162 = .ok (.iconst 0, 1) := by decide +kernel
theorem dL_told_163 : decode cL_told 163 = .ok (.iadd, 1) := by decide +kernel
theorem dL_told_164 : decode cL_told 164 = .ok (.istore_n 3, 1) := by decide +kernel
theorem dL_told_165 : decode cL_told 165 = .ok (.iload_n 2, 1) := by decide +kernel
theorem dL_told_166 : decode cL_told 166 = .ok (.ifCond .eq 104, 3) := by decide +kernel
theorem dL_told_169 : decode cL_told 169 = .ok (.aload_n 0, 1) := by decide +kernel
theorem dL_told_170 : decode cL_told 170 = .ok (.iload 4, 2) := by decide +kernel
theorem dL_told_172 : decode cL_told 172 = .ok (.iconst 0, 1) := by decide +kernel
theorem dL_told_173 : decode cL_told 173 = .ok (.invokevirtual 58, 3) := by decide +kernel
theorem dL_told_176 : decode cL_told 176 = .ok (.aload_n 1, 1) := by decide +kernel
theorem dL_told_177 : decode cL_told 177 = .ok (.bipush 8, 2) := by decide +kernel
theorem dL_told_179 : decode cL_told 179 = .ok (.iconst 4, 1) := by decide +kernel
theorem dL_told_180 : decode cL_told 180 = .ok (.iload 4, 2) := by decide +kernel
theorem dL_told_182 : decode cL_told 182 = .ok (.imul, 1) := by decide +kernel
theorem dL_told_183 : decode cL_told 183 = .ok (.iadd, 1) := by decide +kernel
theorem dL_told_184 : decode cL_told 184 = .ok (.iaload, 1) := by decide +kernel
theorem dL_told_185 : decode cL_told 185 = .ok (.if_icmp .ne 85, 3) := by decide +kernel
theorem dL_told_188 : decode cL_told 188 = .ok (.aload_n 0, 1) := by decide +kernel
theorem dL_told_189 : decode cL_told 189 = .ok (.iload 4, 2) := by decide +kernel
theorem dL_told_191 : decode cL_told 191 = .ok (.iconst 1, 1) := by decide +kernel
theorem dL_told_192 : decode cL_told 192 = .ok (.invokevirtual 58, 3) := by decide +kernel
theorem dL_told_195 : decode cL_told 195 = .ok (.aload_n 1, 1) := by decide +kernel
theorem dL_told_196 : decode cL_told 196 = .ok (.bipush 9, 2) := by decide +kernel
theorem dL_told_198 : decode cL_told 198 = .ok (.iconst 4, 1) := by decide +kernel
theorem dL_told_199 : decode cL_told 199 = .ok (.iload 4, 2) := by decide +kernel
theorem dL_told_201 : decode cL_told 201 = .ok (.imul, 1) := by decide +kernel
theorem dL_told_202 : decode cL_told 202 = .ok (.iadd, 1) := by decide +kernel
theorem dL_told_203 : decode cL_told 203 = .ok (.iaload, 1) := by decide +kernel
theorem dL_told_204 : decode cL_told 204 = .ok (.if_icmp .ne 66, 3) := by decide +kernel
theorem dL_told_207 : decode cL_told 207 = .ok (.aload_n 0, 1) := by decide +kernel
theorem dL_told_208 : decode cL_told 208 = .ok (.iload 4, 2) := by decide +kernel
theorem dL_told_210 : decode cL_told 210 = .ok (.iconst 2, 1) := by decide +kernel
theorem dL_told_211 : decode cL_told 211 = .ok (.invokevirtual 58, 3) := by decide +kernel
theorem dL_told_214 : decode cL_told 214 = .ok (.aload_n 1, 1) := by decide +kernel
theorem dL_told_215 : decode cL_told 215 = .ok (.bipush 10, 2) := by decide +kernel
theorem dL_told_217 : decode cL_told 217 = .ok (.iconst 4, 1) := by decide +kernel
theorem dL_told_218 : decode cL_told 218 = .ok (.iload 4, 2) := by decide +kernel
theorem dL_told_220 : decode cL_told 220 = .ok (.imul, 1) := by decide +kernel
theorem dL_told_221 : decode cL_told 221 = .ok (.iadd, 1) := by decide +kernel
theorem dL_told_222 : decode cL_told 222 = .ok (.iaload, 1) := by decide +kernel
theorem dL_told_223 : decode cL_told 223 = .ok (.if_icmp .ne 47, 3) := by decide +kernel
theorem dL_told_226 : decode cL_told 226 = .ok (.aload_n 0, 1) := by decide +kernel
theorem dL_told_227 : decode cL_told 227 = .ok (.iload 4, 2) := by decide +kernel
theorem dL_told_229 : decode cL_told 229 = .ok (.iconst 3, 1) := by decide +kernel
theorem dL_told_230 : decode cL_told 230 = .ok (.invokevirtual 58, 3) := by decide +kernel
theorem dL_told_233 : decode cL_told 233 = .ok (.aload_n 1, 1) := by decide +kernel
theorem dL_told_234 : decode cL_told 234 = .ok (.iload 4, 2) := by decide +kernel
theorem dL_told_236 : decode cL_told 236 = .ok (.iconst 0, 1) := by decide +kernel
theorem dL_told_237 : decode cL_told 237 = .ok (.invokestatic 32, 3) := by decide +kernel
theorem dL_told_240 : decode cL_told 240 = .ok (.if_icmp .ne 30, 3) := by decide +kernel
theorem dL_told_243 : decode cL_told 243 = .ok (.aload_n 0, 1) := by decide +kernel
theorem dL_told_244 : decode cL_told 244 = .ok (.iload 4, 2) := by decide +kernel
theorem dL_told_246 : decode cL_told 246 = .ok (.iconst 4, 1) := by decide +kernel
theorem dL_told_247 : decode cL_told 247 = .ok (.invokevirtual 58, 3) := by decide +kernel
theorem dL_told_250 : decode cL_told 250 = .ok (.aload_n 1, 1) := by decide +kernel
theorem dL_told_251 : decode cL_told 251 = .ok (.iconst 5, 1) := by decide +kernel
theorem dL_told_252 : decode cL_told 252 = .ok (.iaload, 1) := by decide +kernel
theorem dL_told_253 : decode cL_told 253 = .ok (.aload_n 1, 1) := by decide +kernel
theorem dL_told_254 : decode cL_told 254 = .ok (.bipush 11, 2) := by decide +kernel
theorem dL_told_256 : decode cL_told 256 = .ok (.iconst 4, 1) := by decide +kernel
theorem dL_told_257 : decode cL_told 257 = .ok (.iload 4, 2) := by decide +kernel
theorem dL_told_259 : decode cL_told 259 = .ok (.imul, 1) := by decide +kernel
theorem dL_told_260 : decode cL_told 260 = .ok (.iadd, 1) := by decide +kernel
theorem dL_told_261 : decode cL_told 261 = .ok (.iaload, 1) := by decide +kernel
theorem dL_told_262 : decode cL_told 262 = .ok (.isub, 1) := by decide +kernel
theorem dL_told_263 : decode cL_told 263 = .ok (.if_icmp .ne 7, 3) := by decide +kernel
theorem dL_told_266 : decode cL_told 266 = .ok (.iconst 1, 1) := by decide +kernel
theorem dL_told_267 : decode cL_told 267 = .ok (.goto 4, 3) := by decide +kernel
theorem dL_told_270 : decode cL_told 270 = .ok (.iconst 0, 1) := by decide +kernel
theorem dL_told_271 : decode cL_told 271 = .ok (.istore_n 2, 1) := by decide +kernel
theorem dL_told_272 : decode cL_told 272 = .ok (.iinc 4 1, 3) := by decide +kernel
theorem dL_told_275 : decode cL_told 275 = .ok (.goto (-139), 3) := by decide +kernel
theorem dL_told_278 : decode cL_told 278 = .ok (.iconst 0, 1) := by decide +kernel
theorem dL_told_279 : decode cL_told 279 = .ok (.istore 4, 2) := by decide +kernel
theorem dL_told_281 : decode cL_told 281 = .ok (.iload 4, 2) := by decide +kernel
theorem dL_told_283 : decode cL_told 283 = .ok (.iconst 2, 1) := by decide +kernel
theorem dL_told_284 : decode cL_told 284 = .ok (.if_icmp .ge 104, 3) := by decide +kernel
theorem dL_told_287 : decode cL_told 287 = .ok (.iload_n 2, 1) := by decide +kernel
theorem dL_told_288 : decode cL_told 288 = .ok (.ifCond .eq 92, 3) := by decide +kernel
theorem dL_told_291 : decode cL_told 291 = .ok (.aload_n 0, 1) := by decide +kernel
theorem dL_told_292 : decode cL_told 292 = .ok (.iload 4, 2) := by decide +kernel
theorem dL_told_294 : decode cL_told 294 = .ok (.iconst 0, 1) := by decide +kernel
theorem dL_told_295 : decode cL_told 295 = .ok (.invokevirtual 62, 3) := by decide +kernel
theorem dL_told_298 : decode cL_told 298 = .ok (.aload_n 1, 1) := by decide +kernel
theorem dL_told_299 : decode cL_told 299 = .ok (.iload 4, 2) := by decide +kernel
theorem dL_told_301 : decode cL_told 301 = .ok (.iconst 0, 1) := by decide +kernel
theorem dL_told_302 : decode cL_told 302 = .ok (.iconst 0, 1) := by decide +kernel
theorem dL_told_303 : decode cL_told 303 = .ok (.invokestatic 36, 3) := by decide +kernel
theorem dL_told_306 : decode cL_told 306 = .ok (.if_icmp .ne 74, 3) := by decide +kernel
theorem dL_told_309 : decode cL_told 309 = .ok (.aload_n 0, 1) := by decide +kernel
theorem dL_told_310 : decode cL_told 310 = .ok (.iload 4, 2) := by decide +kernel
theorem dL_told_312 : decode cL_told 312 = .ok (.iconst 1, 1) := by decide +kernel
theorem dL_told_313 : decode cL_told 313 = .ok (.invokevirtual 62, 3) := by decide +kernel
theorem dL_told_316 : decode cL_told 316 = .ok (.aload_n 1, 1) := by decide +kernel
theorem dL_told_317 : decode cL_told 317 = .ok (.iload 4, 2) := by decide +kernel
theorem dL_told_319 : decode cL_told 319 = .ok (.iconst 0, 1) := by decide +kernel
theorem dL_told_320 : decode cL_told 320 = .ok (.aload_n 1, 1) := by decide +kernel
theorem dL_told_321 : decode cL_told 321 = .ok (.iconst 0, 1) := by decide +kernel
theorem dL_told_322 : decode cL_told 322 = .ok (.iaload, 1) := by decide +kernel
theorem dL_told_323 : decode cL_told 323 = .ok (.iconst 0, 1) := by decide +kernel
theorem dL_told_324 : decode cL_told 324 = .ok (.invokestatic 44, 3) := by decide +kernel
theorem dL_told_327 : decode cL_told 327 = .ok (.if_icmp .ne 53, 3) := by decide +kernel
theorem dL_told_330 : decode cL_told 330 = .ok (.aload_n 0, 1) := by decide +kernel
theorem dL_told_331 : decode cL_told 331 = .ok (.iload 4, 2) := by decide +kernel
theorem dL_told_333 : decode cL_told 333 = .ok (.iconst 2, 1) := by decide +kernel
theorem dL_told_334 : decode cL_told 334 = .ok (.invokevirtual 62, 3) := by decide +kernel
theorem dL_told_337 : decode cL_told 337 = .ok (.aload_n 1, 1) := by decide +kernel
theorem dL_told_338 : decode cL_told 338 = .ok (.iload 4, 2) := by decide +kernel
theorem dL_told_340 : decode cL_told 340 = .ok (.iconst 0, 1) := by decide +kernel
theorem dL_told_341 : decode cL_told 341 = .ok (.aload_n 1, 1) := by decide +kernel
theorem dL_told_342 : decode cL_told 342 = .ok (.iconst 0, 1) := by decide +kernel
theorem dL_told_343 : decode cL_told 343 = .ok (.iaload, 1) := by decide +kernel
theorem dL_told_344 : decode cL_told 344 = .ok (.iconst 0, 1) := by decide +kernel
theorem dL_told_345 : decode cL_told 345 = .ok (.invokestatic 48, 3) := by decide +kernel
theorem dL_told_348 : decode cL_told 348 = .ok (.if_icmp .ne 32, 3) := by decide +kernel
theorem dL_told_351 : decode cL_told 351 = .ok (.aload_n 0, 1) := by decide +kernel
theorem dL_told_352 : decode cL_told 352 = .ok (.iload 4, 2) := by decide +kernel
theorem dL_told_354 : decode cL_told 354 = .ok (.iconst 3, 1) := by decide +kernel
theorem dL_told_355 : decode cL_told 355 = .ok (.invokevirtual 62, 3) := by decide +kernel
theorem dL_told_358 : decode cL_told 358 = .ok (.iload 4, 2) := by decide +kernel
theorem dL_told_360 : decode cL_told 360 = .ok (.ifCond .ne 7, 3) := by decide +kernel
theorem dL_told_363 : decode cL_told 363 = .ok (.iload_n 3, 1) := by decide +kernel
theorem dL_told_364 : decode cL_told 364 = .ok (.goto 9, 3) := by decide +kernel
theorem dL_told_367 : decode cL_told 367 = .ok (.aload_n 1, 1) := by decide +kernel
theorem dL_told_368 : decode cL_told 368 = .ok (.bipush 7, 2) := by decide +kernel
theorem dL_told_370 : decode cL_told 370 = .ok (.iaload, 1) := by decide +kernel
theorem dL_told_371 : decode cL_told 371 = .ok (.iload_n 3, 1) := by decide +kernel
theorem dL_told_372 : decode cL_told 372 = .ok (.isub, 1) := by decide +kernel
theorem dL_told_373 : decode cL_told 373 = .ok (.if_icmp .ne 7, 3) := by decide +kernel
theorem dL_told_376 : decode cL_told 376 = .ok (.iconst 1, 1) := by decide +kernel
theorem dL_told_377 : decode cL_told 377 = .ok (.goto 4, 3) := by decide +kernel
theorem dL_told_380 : decode cL_told 380 = .ok (.iconst 0, 1) := by decide +kernel
theorem dL_told_381 : decode cL_told 381 = .ok (.istore_n 2, 1) := by decide +kernel
theorem dL_told_382 : decode cL_told 382 = .ok (.iinc 4 1, 3) := by decide +kernel
theorem dL_told_385 : decode cL_told 385 = .ok (.goto (-104), 3) := by decide +kernel
theorem dL_told_388 : decode cL_told 388 = .ok (.iload_n 2, 1) := by decide +kernel
theorem dL_told_389 : decode cL_told 389 = .ok (.ireturn, 1) := by decide +kernel
theorem dL_law_0 : decode cL_law 0 = .ok (.new 9, 3) := by decide +kernel
theorem dL_law_3 : decode cL_law 3 = .ok (.dup, 1) := by decide +kernel
theorem dL_law_4 : decode cL_law 4 = .ok (.invokespecial 64, 3) := by decide +kernel
theorem dL_law_7 : decode cL_law 7 = .ok (.astore_n 1, 1) := by decide +kernel
theorem dL_law_8 : decode cL_law 8 = .ok (.bipush 32, 2) := by decide +kernel
theorem dL_law_10 : decode cL_law 10 = .ok (.newarray .int, 2) := by decide +kernel
theorem dL_law_12 : decode cL_law 12 = .ok (.astore_n 2, 1) := by decide +kernel
theorem dL_law_13 : decode cL_law 13 = .ok (.bipush 32, 2) := by decide +kernel
theorem dL_law_15 : decode cL_law 15 = .ok (.newarray .int, 2) := by decide +kernel
theorem dL_law_17 : decode cL_law 17 = .ok (.astore_n 3, 1) := by decide +kernel
theorem dL_law_18 : decode cL_law 18 = .ok (.aload_n 1, 1) := by decide +kernel
theorem dL_law_19 : decode cL_law 19 = .ok (.aload_n 0, 1) := by decide +kernel
theorem dL_law_20 : decode cL_law 20 = .ok (.iconst 0, 1) := by decide +kernel
theorem dL_law_21 : decode cL_law 21 = .ok (.invokestatic 65, 3) := by decide +kernel
theorem dL_law_24 : decode cL_law 24 = .ok (.aload_n 2, 1) := by decide +kernel
theorem dL_law_25 : decode cL_law 25 = .ok (.invokestatic 68, 3) := by decide +kernel
theorem dL_law_28 : decode cL_law 28 = .ok (.ifCond .ne 5, 3) := by decide +kernel
theorem dL_law_31 : decode cL_law 31 = .ok (.iconst 0, 1) := by decide +kernel
theorem dL_law_32 : decode cL_law 32 = .ok (.ireturn, 1) := by decide +kernel
theorem dL_law_33 : decode cL_law 33 = .ok (.aload_n 0, 1) := by decide +kernel
theorem dL_law_34 : decode cL_law 34 = .ok (.iconst 1, 1) := by decide +kernel
theorem dL_law_35 : decode cL_law 35 = .ok (.invokestatic 65, 3) := by decide +kernel
theorem dL_law_38 : decode cL_law 38 = .ok (.bipush 6, 2) := by decide +kernel
theorem dL_law_40 : decode cL_law 40 = .ok (.irem, 1) := by decide +kernel
theorem dL_law_41 : decode cL_law 41 = .ok (.istore 4, 2) := by decide +kernel
theorem dL_law_43 : decode cL_law 43 = .ok (.iconst 0, 1) := by decide +kernel
theorem dL_law_44 : decode cL_law 44 = .ok (.istore 5, 2) := by decide +kernel
theorem dL_law_46 : decode cL_law 46 = .ok (.iload 5, 2) := by decide +kernel
theorem dL_law_48 : decode cL_law 48 = .ok (.iload 4, 2) := by decide +kernel
theorem dL_law_50 : decode cL_law 50 = .ok (.if_icmp .ge 27, 3) := by decide +kernel
theorem dL_law_53 : decode cL_law 53 = .ok (.aload_n 1, 1) := by decide +kernel
theorem dL_law_54 : decode cL_law 54 = .ok (.aload_n 0, 1) := by decide +kernel
theorem dL_law_55 : decode cL_law 55 = .ok (.iconst 2, 1) := by decide +kernel
theorem dL_law_56 : decode cL_law 56 = .ok (.iload 5, 2) := by decide +kernel
theorem dL_law_58 : decode cL_law 58 = .ok (.iadd, 1) := by decide +kernel
theorem dL_law_59 : decode cL_law 59 = .ok (.invokestatic 65, 3) := by decide +kernel
theorem dL_law_62 : decode cL_law 62 = .ok (.aload_n 2, 1) := by decide +kernel
theorem dL_law_63 : decode cL_law 63 = .ok (.invokestatic 71, 3) := by decide +kernel
theorem dL_law_66 : decode cL_law 66 = .ok (.ifCond .ne 5, 3) := by decide +kernel
theorem dL_law_69 : decode cL_law 69 = .ok (.iconst 0, 1) := by decide +kernel
theorem dL_law_70 : decode cL_law 70 = .ok (.ireturn, 1) := by decide +kernel
theorem dL_law_71 : decode cL_law 71 = .ok (.iinc 5 1, 3) := by decide +kernel
theorem dL_law_74 : decode cL_law 74 = .ok (.goto (-28), 3) := by decide +kernel
theorem dL_law_77 : decode cL_law 77 = .ok (.iconst 0, 1) := by decide +kernel
theorem dL_law_78 : decode cL_law 78 = .ok (.istore 5, 2) := by decide +kernel
theorem dL_law_80 : decode cL_law 80 = .ok (.iload 5, 2) := by decide +kernel
theorem dL_law_82 : decode cL_law 82 = .ok (.bipush 44, 2) := by decide +kernel
theorem dL_law_84 : decode cL_law 84 = .ok (.if_icmp .ge 875, 3) := by decide +kernel
theorem dL_law_87 : decode cL_law 87 = .ok (.aload_n 0, 1) := by decide +kernel
theorem dL_law_88 : decode cL_law 88 = .ok (.bipush 8, 2) := by decide +kernel
theorem dL_law_90 : decode cL_law 90 = .ok (.iload 5, 2) := by decide +kernel
theorem dL_law_92 : decode cL_law 92 = .ok (.iadd, 1) := by decide +kernel
theorem dL_law_93 : decode cL_law 93 = .ok (.invokestatic 65, 3) := by decide +kernel
theorem dL_law_96 : decode cL_law 96 = .ok (.istore 6, 2) := by decide +kernel
theorem dL_law_98 : decode cL_law 98 = .ok (.iload 6, 2) := by decide +kernel
theorem dL_law_100 : decode cL_law 100 = .ok (.bipush 16, 2) := by decide +kernel
theorem dL_law_102 : decode cL_law 102 = .ok (.irem, 1) := by decide +kernel
theorem dL_law_103 : decode cL_law 103 = .ok (.istore 7, 2) := by decide +kernel
theorem dL_law_105 : decode cL_law 105 = .ok (.aload_n 2, 1) := by decide +kernel
theorem dL_law_106 : decode cL_law 106 = .ok (.bipush 7, 2) := by decide +kernel
theorem dL_law_108 : decode cL_law 108 = .ok (.iaload, 1) := by decide +kernel
theorem dL_law_109 : decode cL_law 109 = .ok (.ifCond .ne 7, 3) := by decide +kernel
theorem dL_law_112 : decode cL_law 112 = .ok (.iconst 0, 1) := by decide +kernel
theorem dL_law_113 : decode cL_law 113 = .ok (.goto 13, 3) := by decide +kernel
theorem dL_law_116 : decode cL_law 116 = .ok (.iload 6, 2) := by decide +kernel
theorem dL_law_118 : decode cL_law 118 = .ok (.bipush 16, 2) := by decide +kernel
theorem dL_law_120 : decode cL_law 120 = .ok (.idiv, 1) := by decide +kernel
theorem dL_law_121 : decode cL_law 121 = .ok (.aload_n 2, 1) := by decide +kernel
theorem dL_law_122 : decode cL_law 122 = .ok (.bipush 7, 2) := by decide +kernel
theorem dL_law_124 : decode cL_law 124 = .ok (.iaload, 1) := by decide +kernel
theorem dL_law_125 : decode cL_law 125 = .ok (.irem, 1) := by decide +kernel
theorem dL_law_126 : decode cL_law 126 = .ok (.istore 8, 2) := by decide +kernel
theorem dL_law_128 : decode cL_law 128 = .ok (.iload 7, 2) := by decide +kernel
theorem dL_law_130 : decode cL_law 130 = .ok (.bipush 9, 2) := by decide +kernel
theorem dL_law_132 : decode cL_law 132 = .ok (.if_icmp .ge 101, 3) := by decide +kernel
theorem dL_law_135 : decode cL_law 135 = .ok (.iload 6, 2) := by decide +kernel
theorem dL_law_137 : decode cL_law 137 = .ok (.sipush 128, 3) := by decide +kernel
theorem dL_law_140 : decode cL_law 140 = .ok (.idiv, 1) := by decide +kernel
theorem dL_law_141 : decode cL_law 141 = .ok (.bipush 7, 2) := by decide +kernel
theorem dL_law_143 : decode cL_law 143 = .ok (.irem, 1) := by decide +kernel
theorem dL_law_144 : decode cL_law 144 = .ok (.iconst 3, 1) := by decide +kernel
theorem dL_law_145 : decode cL_law 145 = .ok (.isub, 1) := by decide +kernel
theorem dL_law_146 : decode cL_law 146 = .ok (.istore 9, 2) := by decide +kernel
theorem dL_law_148 : decode cL_law 148 = .ok (.iload 6, 2) := by decide +kernel
theorem dL_law_150 : decode cL_law 150 = .ok (.sipush 1024, 3) := by decide +kernel
theorem dL_law_153 : decode cL_law 153 = .ok (.idiv, 1) := by decide +kernel
theorem dL_law_154 : decode cL_law 154 = .ok (.iconst 3, 1) := by decide +kernel
theorem dL_law_155 : decode cL_law 155 = .ok (.irem, 1) := by decide +kernel
theorem dL_law_156 : decode cL_law 156 = .ok (.ifCond .ne 7, 3) := by decide +kernel
theorem dL_law_159 : decode cL_law 159 = .ok (.iconst 0, 1) := by decide +kernel
theorem dL_law_160 : decode cL_law 160 = .ok (.goto 5, 3) := by decide +kernel
theorem dL_law_163 : decode cL_law 163 = .ok (.iload 9, 2) := by decide +kernel
theorem dL_law_165 : decode cL_law 165 = .ok (.istore 9, 2) := by decide +kernel
theorem dL_law_167 : decode cL_law 167 = .ok (.aload_n 2, 1) := by decide +kernel
theorem dL_law_168 : decode cL_law 168 = .ok (.bipush 6, 2) := by decide +kernel
theorem dL_law_170 : decode cL_law 170 = .ok (.iaload, 1) := by decide +kernel
theorem dL_law_171 : decode cL_law 171 = .ok (.ifCond .ne 29, 3) := by decide +kernel
theorem dL_law_174 : decode cL_law 174 = .ok (.aload_n 2, 1) := by decide +kernel
theorem dL_law_175 : decode cL_law 175 = .ok (.iconst 0, 1) := by decide +kernel
theorem dL_law_176 : decode cL_law 176 = .ok (.iaload, 1) := by decide +kernel
theorem dL_law_177 : decode cL_law 177 = .ok (.iload 9, 2) := by decide +kernel
theorem dL_law_179 : decode cL_law 179 = .ok (.isub, 1) := by decide +kernel
theorem dL_law_180 : decode cL_law 180 = .ok (.bipush 9, 2) := by decide +kernel
theorem dL_law_182 : decode cL_law 182 = .ok (.if_icmp .le 18, 3) := by decide +kernel
theorem dL_law_185 : decode cL_law 185 = .ok (.aload_n 2, 1) := by decide +kernel
theorem dL_law_186 : decode cL_law 186 = .ok (.iconst 0, 1) := by decide +kernel
theorem dL_law_187 : decode cL_law 187 = .ok (.iaload, 1) := by decide +kernel
theorem dL_law_188 : decode cL_law 188 = .ok (.iload 9, 2) := by decide +kernel
theorem dL_law_190 : decode cL_law 190 = .ok (.isub, 1) := by decide +kernel
theorem dL_law_191 : decode cL_law 191 = .ok (.bipush 41, 2) := by decide +kernel
theorem dL_law_193 : decode cL_law 193 = .ok (.if_icmp .ge 7, 3) := by decide +kernel
theorem dL_law_196 : decode cL_law 196 = .ok (.iconst 1, 1) := by decide +kernel
theorem dL_law_197 : decode cL_law 197 = .ok (.goto 4, 3) := by decide +kernel
theorem dL_law_200 : decode cL_law 200 = .ok (.iconst 0, 1) := by decide +kernel
theorem dL_law_201 : decode cL_law 201 = .ok (.istore 10, 2) := by decide +kernel
theorem dL_law_203 : decode cL_law 203 = .ok (.aload_n 1, 1) := by decide +kernel
theorem dL_law_204 : decode cL_law 204 = .ok (.iload 9, 2) := by decide +kernel
theorem dL_law_206 : decode cL_law 206 = .ok (.invokevirtual 73, 3) := by decide +kernel
theorem dL_law_209 : decode cL_law 209 = .ok (.iload 10, 2) := by decide +kernel
theorem dL_law_211 : decode cL_law 211 = .ok (.ifCond .eq 12, 3) := by decide +kernel
theorem dL_law_214 : decode cL_law 214 = .ok (.aload_n 2, 1) := by decide +kernel
theorem dL_law_215 : decode cL_law 215 = .ok (.iload 9, 2) := by decide +kernel
theorem dL_law_217 : decode cL_law 217 = .ok (.invokestatic 76, 3) := by decide +kernel
theorem dL_law_220 : decode cL_law 220 = .ok (.goto 5, 3) := by decide +kernel
theorem dL_law_223 : decode cL_law 223 = .ok (.bipush (-103), 2) := by decide +kernel
theorem dL_law_225 : decode cL_law 225 = .ok (.if_icmp .eq 5, 3) := by decide +kernel
theorem dL_law_228 : decode cL_law 228 = .ok (.iconst 0, 1) := by decide +kernel
theorem dL_law_229 : decode cL_law 229 = .ok (.ireturn, 1) := by decide +kernel
theorem dL_law_230 : decode cL_law 230 = .ok (.goto 186, 3) := by decide +kernel
theorem dL_law_233 : decode cL_law 233 = .ok (.iload 7, 2) := by decide +kernel
theorem dL_law_235 : decode cL_law 235 = .ok (.bipush 14, 2) := by decide +kernel
theorem dL_law_237 : decode cL_law 237 = .ok (.if_icmp .ge 118, 3) := by decide +kernel
theorem dL_law_240 : decode cL_law 240 = .ok (.aload_n 2, 1) := by decide +kernel
theorem dL_law_241 : decode cL_law 241 = .ok (.bipush 7, 2) := by decide +kernel
theorem dL_law_243 : decode cL_law 243 = .ok (.iaload, 1) := by decide +kernel
theorem dL_law_244 : decode cL_law 244 = .ok (.ifCond .le 111, 3) := by decide +kernel
theorem dL_law_247 : decode cL_law 247 = .ok (.aload_n 2, 1) := by decide +kernel
theorem dL_law_248 : decode cL_law 248 = .ok (.bipush 6, 2) := by decide +kernel
theorem dL_law_250 : decode cL_law 250 = .ok (.iaload, 1) := by decide +kernel
theorem dL_law_251 : decode cL_law 251 = .ok (.ifCond .ne 31, 3) := by decide +kernel
theorem dL_law_254 : decode cL_law 254 = .ok (.aload_n 2, 1) := by decide +kernel
theorem dL_law_255 : decode cL_law 255 = .ok (.bipush 8, 2) := by decide +kernel
theorem dL_law_257 : decode cL_law 257 = .ok (.iconst 4, 1) := by decide +kernel
theorem dL_law_258 : decode cL_law 258 = .ok (.iload 8, 2) := by decide +kernel
theorem dL_law_260 : decode cL_law 260 = .ok (.imul, 1) := by decide +kernel
theorem dL_law_261 : decode cL_law 261 = .ok (.iadd, 1) := by decide +kernel
theorem dL_law_262 : decode cL_law 262 = .ok (.iaload, 1) := by decide +kernel
theorem dL_law_263 : decode cL_law 263 = .ok (.iconst 2, 1) := by decide +kernel
theorem dL_law_264 : decode cL_law 264 = .ok (.if_icmp .ne 14, 3) := by decide +kernel
theorem dL_law_267 : decode cL_law 267 = .ok (.aload_n 2, 1) := by decide +kernel
theorem dL_law_268 : decode cL_law 268 = .ok (.aload_n 2, 1) := by decide +kernel
theorem dL_law_269 : decode cL_law 269 = .ok (.iconst 0, 1) := by decide +kernel
theorem dL_law_270 : decode cL_law 270 = .ok (.iaload, 1) := by decide +kernel
theorem dL_law_271 : decode cL_law 271 = .ok (.invokestatic 40, 3) := by decide +kernel
theorem dL_law_274 : decode cL_law 274 = .ok (.iconst 3, 1) := by decide +kernel
theorem dL_law_275 : decode cL_law 275 = .ok (.if_icmp .ge 7, 3) := by decide +kernel
theorem dL_law_278 : decode cL_law 278 = .ok (.iconst 1, 1) := by decide +kernel
theorem dL_law_279 : decode cL_law 279 = .ok (.goto 4, 3) := by decide +kernel
theorem dL_law_282 : decode cL_law 282 = .ok (.iconst 0, 1) := by decide +kernel
theorem dL_law_283 : decode cL_law 283 = .ok (.istore 9, 2) := by decide +kernel
theorem dL_law_285 : decode cL_law 285 = .ok (.aload_n 2, 1) := by decide +kernel
theorem dL_law_286 : decode cL_law 286 = .ok (.bipush 10, 2) := by decide +kernel
theorem dL_law_288 : decode cL_law 288 = .ok (.iconst 4, 1) := by decide +kernel
theorem dL_law_289 : decode cL_law 289 = .ok (.iload 8, 2) := by decide +kernel
theorem dL_law_291 : decode cL_law 291 = .ok (.imul, 1) := by decide +kernel
theorem dL_law_292 : decode cL_law 292 = .ok (.iadd, 1) := by decide +kernel
theorem dL_law_293 : decode cL_law 293 = .ok (.iload 9, 2) := by decide +kernel
theorem dL_law_295 : decode cL_law 295 = .ok (.ifCond .eq 17, 3) := by decide +kernel
theorem dL_law_298 : decode cL_law 298 = .ok (.iconst 1, 1) := by decide +kernel
theorem dL_law_299 : decode cL_law 299 = .ok (.aload_n 2, 1) := by decide +kernel
theorem dL_law_300 : decode cL_law 300 = .ok (.bipush 10, 2) := by decide +kernel
theorem dL_law_302 : decode cL_law 302 = .ok (.iconst 4, 1) := by decide +kernel
theorem dL_law_303 : decode cL_law 303 = .ok (.iload 8, 2) := by decide +kernel
theorem dL_law_305 : decode cL_law 305 = .ok (.imul, 1) := by decide +kernel
theorem dL_law_306 : decode cL_law 306 = .ok (.iadd, 1) := by decide +kernel
theorem dL_law_307 : decode cL_law 307 = .ok (.iaload, 1) := by decide +kernel
theorem dL_law_308 : decode cL_law 308 = .ok (.isub, 1) := by decide +kernel
theorem dL_law_309 : decode cL_law 309 = .ok (.goto 12, 3) := by decide +kernel
theorem dL_law_312 : decode cL_law 312 = .ok (.aload_n 2, 1) := by decide +kernel
theorem dL_law_313 : decode cL_law 313 = .ok (.bipush 10, 2) := by decide +kernel
theorem dL_law_315 : decode cL_law 315 = .ok (.iconst 4, 1) := by decide +kernel
theorem dL_law_316 : decode cL_law 316 = .ok (.iload 8, 2) := by decide +kernel
theorem dL_law_318 : decode cL_law 318 = .ok (.imul, 1) := by decide +kernel
theorem dL_law_319 : decode cL_law 319 = .ok (.iadd, 1) := by decide +kernel
theorem dL_law_320 : decode cL_law 320 = .ok (.iaload, 1) := by decide +kernel
theorem dL_law_321 : decode cL_law 321 = .ok (.iastore, 1) := by decide +kernel
theorem dL_law_322 : decode cL_law 322 = .ok (.aload_n 1, 1) := by decide +kernel
theorem dL_law_323 : decode cL_law 323 = .ok (.iload 8, 2) := by decide +kernel
theorem dL_law_325 : decode cL_law 325 = .ok (.invokevirtual 78, 3) := by decide +kernel
theorem dL_law_328 : decode cL_law 328 = .ok (.iload 9, 2) := by decide +kernel
theorem dL_law_330 : decode cL_law 330 = .ok (.ifCond .eq 15, 3) := by decide +kernel
theorem dL_law_333 : decode cL_law 333 = .ok (.aload_n 2, 1) := by decide +kernel
theorem dL_law_334 : decode cL_law 334 = .ok (.bipush 10, 2) := by decide +kernel
theorem dL_law_336 : decode cL_law 336 = .ok (.iconst 4, 1) := by decide +kernel
theorem dL_law_337 : decode cL_law 337 = .ok (.iload 8, 2) := by decide +kernel
theorem dL_law_339 : decode cL_law 339 = .ok (.imul, 1) := by decide +kernel
theorem dL_law_340 : decode cL_law 340 = .ok (.iadd, 1) := by decide +kernel
theorem dL_law_341 : decode cL_law 341 = .ok (.iaload, 1) := by decide +kernel
theorem dL_law_342 : decode cL_law 342 = .ok (.goto 5, 3) := by decide +kernel
theorem dL_law_345 : decode cL_law 345 = .ok (.bipush (-103), 2) := by decide +kernel
theorem dL_law_347 : decode cL_law 347 = .ok (.if_icmp .eq 5, 3) := by decide +kernel
theorem dL_law_350 : decode cL_law 350 = .ok (.iconst 0, 1) := by decide +kernel
theorem dL_law_351 : decode cL_law 351 = .ok (.ireturn, 1) := by decide +kernel
theorem dL_law_352 : decode cL_law 352 = .ok (.goto 64, 3) := by decide +kernel
theorem dL_law_355 : decode cL_law 355 = .ok (.iload 7, 2) := by decide +kernel
theorem dL_law_357 : decode cL_law 357 = .ok (.bipush 14, 2) := by decide +kernel
theorem dL_law_359 : decode cL_law 359 = .ok (.if_icmp .ne 27, 3) := by decide +kernel
theorem dL_law_362 : decode cL_law 362 = .ok (.aload_n 2, 1) := by decide +kernel
theorem dL_law_363 : decode cL_law 363 = .ok (.bipush 7, 2) := by decide +kernel
theorem dL_law_365 : decode cL_law 365 = .ok (.iaload, 1) := by decide +kernel
theorem dL_law_366 : decode cL_law 366 = .ok (.bipush 6, 2) := by decide +kernel
theorem dL_law_368 : decode cL_law 368 = .ok (.if_icmp .ge 18, 3) := by decide +kernel
theorem dL_law_371 : decode cL_law 371 = .ok (.aload_n 1, 1) := by decide +kernel
theorem dL_law_372 : decode cL_law 372 = .ok (.iload 6, 2) := by decide +kernel
theorem dL_law_374 : decode cL_law 374 = .ok (.bipush 16, 2) := by decide +kernel
theorem dL_law_376 : decode cL_law 376 = .ok (.idiv, 1) := by decide +kernel
theorem dL_law_377 : decode cL_law 377 = .ok (.aload_n 2, 1) := by decide +kernel
theorem dL_law_378 : decode cL_law 378 = .ok (.invokestatic 71, 3) := by decide +kernel
theorem dL_law_381 : decode cL_law 381 = .ok (.ifCond .ne 35, 3) := by decide +kernel
theorem dL_law_384 : decode cL_law 384 = .ok (.iconst 0, 1) := by decide +kernel
theorem dL_law_385 : decode cL_law 385 = .ok (.ireturn, 1) := by decide +kernel
theorem dL_law_386 : decode cL_law 386 = .ok (.aload_n 2, 1) := by decide +kernel
theorem dL_law_387 : decode cL_law 387 = .ok (.bipush 6, 2) := by decide +kernel
theorem dL_law_389 : decode cL_law 389 = .ok (.iaload, 1) := by decide +kernel
theorem dL_law_390 : decode cL_law 390 = .ok (.iconst 1, 1) := by decide +kernel
theorem dL_law_391 : decode cL_law 391 = .ok (.if_icmp .ne 25, 3) := by decide +kernel
theorem dL_law_394 : decode cL_law 394 = .ok (.iload 7, 2) := by decide +kernel
theorem dL_law_396 : decode cL_law 396 = .ok (.bipush 15, 2) := by decide +kernel
theorem dL_law_398 : decode cL_law 398 = .ok (.if_icmp .ne 18, 3) := by decide +kernel
theorem dL_law_401 : decode cL_law 401 = .ok (.aload_n 1, 1) := by decide +kernel
theorem dL_law_402 : decode cL_law 402 = .ok (.iload 6, 2) := by decide +kernel
theorem dL_law_404 : decode cL_law 404 = .ok (.bipush 16, 2) := by decide +kernel
theorem dL_law_406 : decode cL_law 406 = .ok (.idiv, 1) := by decide +kernel
theorem dL_law_407 : decode cL_law 407 = .ok (.aload_n 2, 1) := by decide +kernel
theorem dL_law_408 : decode cL_law 408 = .ok (.invokestatic 68, 3) := by decide +kernel
theorem dL_law_411 : decode cL_law 411 = .ok (.ifCond .ne 5, 3) := by decide +kernel
theorem dL_law_414 : decode cL_law 414 = .ok (.iconst 0, 1) := by decide +kernel
theorem dL_law_415 : decode cL_law 415 = .ok (.ireturn, 1) := by decide +kernel
theorem dL_law_416 : decode cL_law 416 = .ok (.aload_n 1, 1) := by decide +kernel
theorem dL_law_417 : decode cL_law 417 = .ok (.aload_n 2, 1) := by decide +kernel
theorem dL_law_418 : decode cL_law 418 = .ok (.invokestatic 81, 3) := by decide +kernel
theorem dL_law_421 : decode cL_law 421 = .ok (.ifCond .ne 5, 3) := by decide +kernel
theorem dL_law_424 : decode cL_law 424 = .ok (.iconst 0, 1) := by decide +kernel
theorem dL_law_425 : decode cL_law 425 = .ok (.ireturn, 1) := by decide +kernel
theorem dL_law_426 : decode cL_law 426 = .ok (.iconst 0, 1) := by decide +kernel
theorem dL_law_427 : decode cL_law 427 = .ok (.istore 9, 2) := by decide +kernel
theorem dL_law_429 : decode cL_law 429 = .ok (.iload 9, 2) := by decide +kernel
theorem dL_law_431 : decode cL_law 431 = .ok (.aload_n 2, 1) := by decide +kernel
theorem dL_law_432 : decode cL_law 432 = .ok (.bipush 7, 2) := by decide +kernel
theorem dL_law_434 : decode cL_law 434 = .ok (.iaload, 1) := by decide +kernel
theorem dL_law_435 : decode cL_law 435 = .ok (.if_icmp .ge 78, 3) := by decide +kernel
theorem dL_law_438 : decode cL_law 438 = .ok (.iconst 0, 1) := by decide +kernel
theorem dL_law_439 : decode cL_law 439 = .ok (.istore 10, 2) := by decide +kernel
theorem dL_law_441 : decode cL_law 441 = .ok (.iload 10, 2) := by decide +kernel
theorem dL_law_443 : decode cL_law 443 = .ok (.iconst 5, 1) := by decide +kernel
theorem dL_law_444 : decode cL_law 444 = .ok (.if_icmp .ge 63, 3) := by decide +kernel
theorem dL_law_447 : decode cL_law 447 = .ok (.aload_n 2, 1) := by decide +kernel
theorem dL_law_448 : decode cL_law 448 = .ok (.bipush 8, 2) := by decide +kernel
theorem dL_law_450 : decode cL_law 450 = .ok (.iconst 4, 1) := by decide +kernel
theorem dL_law_451 : decode cL_law 451 = .ok (.iload 9, 2) := by decide +kernel
theorem dL_law_453 : decode cL_law 453 = .ok (.imul, 1) := by decide +kernel
theorem dL_law_454 : decode cL_law 454 = .ok (.iadd, 1) := by decide +kernel
theorem dL_law_455 : decode cL_law 455 = .ok (.iaload, 1) := by decide +kernel
theorem dL_law_456 : decode cL_law 456 = .ok (.istore 11, 2) := by decide +kernel
theorem dL_law_458 : decode cL_law 458 = .ok (.aload_n 1, 1) := by decide +kernel
theorem dL_law_459 : decode cL_law 459 = .ok (.iload 9, 2) := by decide +kernel
theorem dL_law_461 : decode cL_law 461 = .ok (.iload 10, 2) := by decide +kernel
theorem dL_law_463 : decode cL_law 463 = .ok (.invokevirtual 85, 3) := by decide +kernel
theorem dL_law_466 : decode cL_law 466 = .ok (.iload 10, 2) := by decide +kernel
theorem dL_law_468 : decode cL_law 468 = .ok (.ifCond .eq 22, 3) := by decide +kernel
theorem dL_law_471 : decode cL_law 471 = .ok (.iload 10, 2) := by decide +kernel
theorem dL_law_473 : decode cL_law 473 = .ok (.iload 11, 2) := by decide +kernel
theorem dL_law_475 : decode cL_law 475 = .ok (.if_icmp .eq 15, 3) := by decide +kernel
theorem dL_law_478 : decode cL_law 478 = .ok (.iload 10, 2) := by decide +kernel
theorem dL_law_480 : decode cL_law 480 = .ok (.iconst 3, 1) := by decide +kernel
theorem dL_law_481 : decode cL_law 481 = .ok (.if_icmp .ne 14, 3) := by decide +kernel
theorem dL_law_484 : decode cL_law 484 = .ok (.iload 11, 2) := by decide +kernel
theorem dL_law_486 : decode cL_law 486 = .ok (.iconst 4, 1) := by decide +kernel
theorem dL_law_487 : decode cL_law 487 = .ok (.if_icmp .ne 8, 3) := by decide +kernel
theorem dL_law_490 : decode cL_law 490 = .ok (.iload 9, 2) := by decide +kernel
theorem dL_law_492 : decode cL_law 492 = .ok (.goto 4, 3) := by decide +kernel
theorem dL_law_495 : decode cL_law 495 = .ok (.iconst (-1), 1) := by decide +kernel
theorem dL_law_496 : decode cL_law 496 = .ok (.if_icmp .eq 5, 3) := by decide +kernel
theorem dL_law_499 : decode cL_law 499 = .ok (.iconst 0, 1) := by decide +kernel
theorem dL_law_500 : decode cL_law 500 = .ok (.ireturn, 1) := by decide +kernel
theorem dL_law_501 : decode cL_law 501 = .ok (.iinc 10 1, 3) := by decide +kernel
theorem dL_law_504 : decode cL_law 504 = .ok (.goto (-63), 3) := by decide +kernel
theorem dL_law_507 : decode cL_law 507 = .ok (.iinc 9 1, 3) := by decide +kernel
theorem dL_law_510 : decode cL_law 510 = .ok (.goto (-81), 3) := by decide +kernel
theorem dL_law_513 : decode cL_law 513 = .ok (.iconst 1, 1) := by decide +kernel
theorem dL_law_514 : decode cL_law 514 = .ok (.iload 6, 2) := by decide +kernel
theorem dL_law_516 : decode cL_law 516 = .ok (.sipush 4096, 3) := by decide +kernel
theorem dL_law_519 : decode cL_law 519 = .ok (.idiv, 1) := by decide +kernel
theorem dL_law_520 : decode cL_law 520 = .ok (.bipush 99, 2) := by decide +kernel
theorem dL_law_522 : decode cL_law 522 = .ok (.irem, 1) := by decide +kernel
theorem dL_law_523 : decode cL_law 523 = .ok (.iadd, 1) := by decide +kernel
theorem dL_law_524 : decode cL_law 524 = .ok (.istore 9, 2) := by decide +kernel
theorem dL_law_526 : decode cL_law 526 = .ok (.aload_n 2, 1) := by decide +kernel
theorem dL_law_527 : decode cL_law 527 = .ok (.aload_n 2, 1) := by decide +kernel
theorem dL_law_528 : decode cL_law 528 = .ok (.iconst 0, 1) := by decide +kernel
theorem dL_law_529 : decode cL_law 529 = .ok (.iaload, 1) := by decide +kernel
theorem dL_law_530 : decode cL_law 530 = .ok (.invokestatic 40, 3) := by decide +kernel
theorem dL_law_533 : decode cL_law 533 = .ok (.istore 10, 2) := by decide +kernel
theorem dL_law_535 : decode cL_law 535 = .ok (.bipush 90, 2) := by decide +kernel
theorem dL_law_537 : decode cL_law 537 = .ok (.iload 9, 2) := by decide +kernel
theorem dL_law_539 : decode cL_law 539 = .ok (.iload 10, 2) := by decide +kernel
theorem dL_law_541 : decode cL_law 541 = .ok (.imul, 1) := by decide +kernel
theorem dL_law_542 : decode cL_law 542 = .ok (.isub, 1) := by decide +kernel
theorem dL_law_543 : decode cL_law 543 = .ok (.sipush 360, 3) := by decide +kernel
theorem dL_law_546 : decode cL_law 546 = .ok (.irem, 1) := by decide +kernel
theorem dL_law_547 : decode cL_law 547 = .ok (.sipush 360, 3) := by decide +kernel
theorem dL_law_550 : decode cL_law 550 = .ok (.iadd, 1) := by decide +kernel
theorem dL_law_551 : decode cL_law 551 = .ok (.sipush 360, 3) := by decide +kernel
theorem dL_law_554 : decode cL_law 554 = .ok (.irem, 1) := by decide +kernel
theorem dL_law_555 : decode cL_law 555 = .ok (.istore 11, 2) := by decide +kernel
theorem dL_law_557 : decode cL_law 557 = .ok (.iconst (-1), 1) := by decide +kernel
theorem dL_law_558 : decode cL_law 558 = .ok (.istore 12, 2) := by decide +kernel
theorem dL_law_560 : decode cL_law 560 = .ok (.bipush 98, 2) := by decide +kernel
theorem dL_law_562 : decode cL_law 562 = .ok (.istore 13, 2) := by decide +kernel
theorem dL_law_564 : decode cL_law 564 = .ok (.iload 13, 2) := by decide +kernel
theorem dL_law_566 : decode cL_law 566 = .ok (.ifCond .lt 62, 3) := by decide +kernel
theorem dL_law_569 : decode cL_law 569 = .ok (.aload_n 2, 1) := by decide +kernel
theorem dL_law_570 : decode cL_law 570 = .ok (.iconst 4, 1) := by decide +kernel
theorem dL_law_571 : decode cL_law 571 = .ok (.iaload, 1) := by decide +kernel
theorem dL_law_572 : decode cL_law 572 = .ok (.iload 13, 2) := by decide +kernel
theorem dL_law_574 : decode cL_law 574 = .ok (.iload 10, 2) := by decide +kernel
theorem dL_law_576 : decode cL_law 576 = .ok (.imul, 1) := by decide +kernel
theorem dL_law_577 : decode cL_law 577 = .ok (.bipush 10, 2) := by decide +kernel
theorem dL_law_579 : decode cL_law 579 = .ok (.imul, 1) := by decide +kernel
theorem dL_law_580 : decode cL_law 580 = .ok (.iadd, 1) := by decide +kernel
theorem dL_law_581 : decode cL_law 581 = .ok (.iload 11, 2) := by decide +kernel
theorem dL_law_583 : decode cL_law 583 = .ok (.isub, 1) := by decide +kernel
theorem dL_law_584 : decode cL_law 584 = .ok (.sipush 360, 3) := by decide +kernel
theorem dL_law_587 : decode cL_law 587 = .ok (.irem, 1) := by decide +kernel
theorem dL_law_588 : decode cL_law 588 = .ok (.sipush 360, 3) := by decide +kernel
theorem dL_law_591 : decode cL_law 591 = .ok (.iadd, 1) := by decide +kernel
theorem dL_law_592 : decode cL_law 592 = .ok (.sipush 360, 3) := by decide +kernel
theorem dL_law_595 : decode cL_law 595 = .ok (.irem, 1) := by decide +kernel
theorem dL_law_596 : decode cL_law 596 = .ok (.istore 14, 2) := by decide +kernel
theorem dL_law_598 : decode cL_law 598 = .ok (.iload 14, 2) := by decide +kernel
theorem dL_law_600 : decode cL_law 600 = .ok (.bipush 6, 2) := by decide +kernel
theorem dL_law_602 : decode cL_law 602 = .ok (.if_icmp .lt 11, 3) := by decide +kernel
theorem dL_law_605 : decode cL_law 605 = .ok (.iload 14, 2) := by decide +kernel
theorem dL_law_607 : decode cL_law 607 = .ok (.sipush 354, 3) := by decide +kernel
theorem dL_law_610 : decode cL_law 610 = .ok (.if_icmp .le 8, 3) := by decide +kernel
theorem dL_law_613 : decode cL_law 613 = .ok (.iload 13, 2) := by decide +kernel
theorem dL_law_615 : decode cL_law 615 = .ok (.goto 5, 3) := by decide +kernel
theorem dL_law_618 : decode cL_law 618 = .ok (.iload 12, 2) := by decide +kernel
theorem dL_law_620 : decode cL_law 620 = .ok (.istore 12, 2) := by decide +kernel
theorem dL_law_622 : decode cL_law 622 = .ok (.iinc 13 (-1), 3) := by decide +kernel
theorem dL_law_625 : decode cL_law 625 = .ok (.goto (-61), 3) := by decide +kernel
theorem dL_law_628 : decode cL_law 628 = .ok (.aload_n 1, 1) := by decide +kernel
theorem dL_law_629 : decode cL_law 629 = .ok (.iload 9, 2) := by decide +kernel
theorem dL_law_631 : decode cL_law 631 = .ok (.invokevirtual 88, 3) := by decide +kernel
theorem dL_law_634 : decode cL_law 634 = .ok (.aload_n 2, 1) := by decide +kernel
theorem dL_law_635 : decode cL_law 635 = .ok (.bipush 6, 2) := by decide +kernel
theorem dL_law_637 : decode cL_law 637 = .ok (.iaload, 1) := by decide +kernel
theorem dL_law_638 : decode cL_law 638 = .ok (.iconst 1, 1) := by decide +kernel
theorem dL_law_639 : decode cL_law 639 = .ok (.if_icmp .ne 8, 3) := by decide +kernel
theorem dL_law_642 : decode cL_law 642 = .ok (.bipush (-103), 2) := by decide +kernel
theorem dL_law_644 : decode cL_law 644 = .ok (.goto 5, 3) := by decide +kernel
theorem dL_law_647 : decode cL_law 647 = .ok (.iload 12, 2) := by decide +kernel
theorem dL_law_649 : decode cL_law 649 = .ok (.if_icmp .eq 5, 3) := by decide +kernel
theorem dL_law_652 : decode cL_law 652 = .ok (.iconst 0, 1) := by decide +kernel
theorem dL_law_653 : decode cL_law 653 = .ok (.ireturn, 1) := by decide +kernel
theorem dL_law_654 : decode cL_law 654 = .ok (.iload 5, 2) := by decide +kernel
theorem dL_law_656 : decode cL_law 656 = .ok (.bipush 6, 2) := by decide +kernel
theorem dL_law_658 : decode cL_law 658 = .ok (.irem, 1) := by decide +kernel
theorem dL_law_659 : decode cL_law 659 = .ok (.iconst 2, 1) := by decide +kernel
theorem dL_law_660 : decode cL_law 660 = .ok (.if_icmp .ne 293, 3) := by decide +kernel
theorem dL_law_663 : decode cL_law 663 = .ok (.iconst 1, 1) := by decide +kernel
theorem dL_law_664 : decode cL_law 664 = .ok (.iload 6, 2) := by decide +kernel
theorem dL_law_666 : decode cL_law 666 = .ok (.sipush 512, 3) := by decide +kernel
theorem dL_law_669 : decode cL_law 669 = .ok (.idiv, 1) := by decide +kernel
theorem dL_law_670 : decode cL_law 670 = .ok (.bipush 60, 2) := by decide +kernel
theorem dL_law_672 : decode cL_law 672 = .ok (.irem, 1) := by decide +kernel
theorem dL_law_673 : decode cL_law 673 = .ok (.iadd, 1) := by decide +kernel
theorem dL_law_674 : decode cL_law 674 = .ok (.istore 13, 2) := by decide +kernel
theorem dL_law_676 : decode cL_law 676 = .ok (.aload_n 0, 1) := by decide +kernel
theorem dL_law_677 : decode cL_law 677 = .ok (.bipush 52, 2) := by decide +kernel
theorem dL_law_679 : decode cL_law 679 = .ok (.iload 5, 2) := by decide +kernel
theorem dL_law_681 : decode cL_law 681 = .ok (.bipush 6, 2) := by decide +kernel
theorem dL_law_683 : decode cL_law 683 = .ok (.idiv, 1) := by decide +kernel
theorem dL_law_684 : decode cL_law 684 = .ok (.iadd, 1) := by decide +kernel
theorem dL_law_685 : decode cL_law 685 = .ok (.invokestatic 65, 3) := by decide +kernel
theorem dL_law_688 : decode cL_law 688 = .ok (.istore 14, 2) := by decide +kernel
theorem dL_law_690 : decode cL_law 690 = .ok (.iload 14, 2) := by decide +kernel
theorem dL_law_692 : decode cL_law 692 = .ok (.i2l, 1) := by decide +kernel
theorem dL_law_693 : decode cL_law 693 = .ok (.lstore 15, 2) := by decide +kernel
theorem dL_law_695 : decode cL_law 695 = .ok (.iconst 0, 1) := by decide +kernel
theorem dL_law_696 : decode cL_law 696 = .ok (.istore 17, 2) := by decide +kernel
theorem dL_law_698 : decode cL_law 698 = .ok (.iload 17, 2) := by decide +kernel
theorem dL_law_700 : decode cL_law 700 = .ok (.bipush 32, 2) := by decide +kernel
theorem dL_law_702 : decode cL_law 702 = .ok (.if_icmp .ge 17, 3) := by decide +kernel
theorem dL_law_705 : decode cL_law 705 = .ok (.aload_n 3, 1) := by decide +kernel
theorem dL_law_706 : decode cL_law 706 = .ok (.iload 17, 2) := by decide +kernel
theorem dL_law_708 : decode cL_law 708 = .ok (.aload_n 2, 1) := by decide +kernel
theorem dL_law_709 : decode cL_law 709 = .ok (.iload 17, 2) := by decide +kernel
theorem dL_law_711 : decode cL_law 711 = .ok (.iaload, 1) := by decide +kernel
theorem dL_law_712 : decode cL_law 712 = .ok (.iastore, 1) := by decide +kernel
theorem dL_law_713 : decode cL_law 713 = .ok (.iinc 17 1, 3) := by decide +kernel
theorem dL_law_716 : decode cL_law 716 = .ok (.goto (-18), 3) := by decide +kernel
theorem dL_law_719 : decode cL_law 719 = .ok (.iconst 0, 1) := by decide +kernel
theorem dL_law_720 : decode cL_law 720 = .ok (.istore 17, 2) := by decide +kernel
theorem dL_law_722 : decode cL_law 722 = .ok (.iload 17, 2) := by decide +kernel
theorem dL_law_724 : decode cL_law 724 = .ok (.iload 13, 2) := by decide +kernel
theorem dL_law_726 : decode cL_law 726 = .ok (.if_icmp .ge 109, 3) := by decide +kernel
theorem dL_law_729 : decode cL_law 729 = .ok (.aload_n 3, 1) := by decide +kernel
theorem dL_law_730 : decode cL_law 730 = .ok (.bipush 6, 2) := by decide +kernel
theorem dL_law_732 : decode cL_law 732 = .ok (.iaload, 1) := by decide +kernel
theorem dL_law_733 : decode cL_law 733 = .ok (.ifCond .ne 102, 3) := by decide +kernel
theorem dL_law_736 : decode cL_law 736 = .ok (.ldc2_w 91, 3) := by decide +kernel
theorem dL_law_739 : decode cL_law 739 = .ok (.lload 15, 2) := by decide +kernel
theorem dL_law_741 : decode cL_law 741 = .ok (.lmul, 1) := by decide +kernel
theorem dL_law_742 : decode cL_law 742 = .ok (.ldc2_w 93, 3) := by decide +kernel
theorem dL_law_745 : decode cL_law 745 = .ok (.ladd, 1) := by decide +kernel
theorem dL_law_746 : decode cL_law 746 = .ok (.ldc2_w 95, 3) := by decide +kernel
theorem dL_law_749 : decode cL_law 749 = .ok (.lrem, 1) := by decide +kernel
theorem dL_law_750 : decode cL_law 750 = .ok (.lstore 15, 2) := by decide +kernel
theorem dL_law_752 : decode cL_law 752 = .ok (.lload 15, 2) := by decide +kernel
theorem dL_law_754 : decode cL_law 754 = .ok (.ldc2_w 97, 3) := by decide +kernel
theorem dL_law_757 : decode cL_law 757 = .ok (.ldiv, 1) := by decide +kernel
theorem dL_law_758 : decode cL_law 758 = .ok (.ldc2_w 99, 3) := by decide +kernel
theorem dL_law_761 : decode cL_law 761 = .ok (.lrem, 1) := by decide +kernel
theorem dL_law_762 : decode cL_law 762 = .ok (.l2i, 1) := by decide +kernel
theorem dL_law_763 : decode cL_law 763 = .ok (.istore 18, 2) := by decide +kernel
theorem dL_law_765 : decode cL_law 765 = .ok (.iload 18, 2) := by decide +kernel
theorem dL_law_767 : decode cL_law 767 = .ok (.iconst 4, 1) := by decide +kernel
theorem dL_law_768 : decode cL_law 768 = .ok (.if_icmp .ge 8, 3) := by decide +kernel
theorem dL_law_771 : decode cL_law 771 = .ok (.iload 18, 2) := by decide +kernel
theorem dL_law_773 : decode cL_law 773 = .ok (.goto 7, 3) := by decide +kernel
theorem dL_law_776 : decode cL_law 776 = .ok (.iconst 3, 1) := by decide +kernel
theorem dL_law_777 : decode cL_law 777 = .ok (.iload 18, 2) := by decide +kernel
theorem dL_law_779 : decode cL_law 779 = .ok (.isub, 1) := by decide +kernel
theorem dL_law_780 : decode cL_law 780 = .ok (.istore 19, 2) := by decide +kernel
theorem dL_law_782 : decode cL_law 782 = .ok (.aload_n 3, 1) := by decide +kernel
theorem dL_law_783 : decode cL_law 783 = .ok (.iconst 0, 1) := by decide +kernel
theorem dL_law_784 : decode cL_law 784 = .ok (.iaload, 1) := by decide +kernel
theorem dL_law_785 : decode cL_law 785 = .ok (.iload 19, 2) := by decide +kernel
theorem dL_law_787 : decode cL_law 787 = .ok (.isub, 1) := by decide +kernel
theorem dL_law_788 : decode cL_law 788 = .ok (.bipush 9, 2) := by decide +kernel
theorem dL_law_790 : decode cL_law 790 = .ok (.if_icmp .le 19, 3) := by decide +kernel
theorem dL_law_793 : decode cL_law 793 = .ok (.aload_n 3, 1) := by decide +kernel
theorem dL_law_794 : decode cL_law 794 = .ok (.iconst 0, 1) := by decide +kernel
theorem dL_law_795 : decode cL_law 795 = .ok (.iaload, 1) := by decide +kernel
theorem dL_law_796 : decode cL_law 796 = .ok (.iload 19, 2) := by decide +kernel
theorem dL_law_798 : decode cL_law 798 = .ok (.isub, 1) := by decide +kernel
theorem dL_law_799 : decode cL_law 799 = .ok (.bipush 41, 2) := by decide +kernel
theorem dL_law_801 : decode cL_law 801 = .ok (.if_icmp .ge 8, 3) := by decide +kernel
theorem dL_law_804 : decode cL_law 804 = .ok (.iload 19, 2) := by decide +kernel
theorem dL_law_806 : decode cL_law 806 = .ok (.goto 4, 3) := by decide +kernel
theorem dL_law_809 : decode cL_law 809 = .ok (.iconst 0, 1) := by decide +kernel
theorem dL_law_810 : decode cL_law 810 = .ok (.istore 19, 2) := by decide +kernel
theorem dL_law_812 : decode cL_law 812 = .ok (.iload 17, 2) := by decide +kernel
theorem dL_law_814 : decode cL_law 814 = .ok (.aload_n 3, 1) := by decide +kernel
theorem dL_law_815 : decode cL_law 815 = .ok (.iload 19, 2) := by decide +kernel
theorem dL_law_817 : decode cL_law 817 = .ok (.invokestatic 76, 3) := by decide +kernel
theorem dL_law_820 : decode cL_law 820 = .ok (.iconst (-1), 1) := by decide +kernel
theorem dL_law_821 : decode cL_law 821 = .ok (.if_icmp .ge 7, 3) := by decide +kernel
theorem dL_law_824 : decode cL_law 824 = .ok (.iconst 0, 1) := by decide +kernel
theorem dL_law_825 : decode cL_law 825 = .ok (.goto 4, 3) := by decide +kernel
theorem dL_law_828 : decode cL_law 828 = .ok (.iconst 1, 1) := by decide +kernel
theorem dL_law_829 : decode cL_law 829 = .ok (.iadd, 1) := by decide +kernel
theorem dL_law_830 : decode cL_law 830 = .ok (.istore 17, 2) := by decide +kernel
theorem dL_law_832 : decode cL_law 832 = .ok (.goto (-110), 3) := by decide +kernel
theorem dL_law_835 : decode cL_law 835 = .ok (.aload_n 2, 1) := by decide +kernel
theorem dL_law_836 : decode cL_law 836 = .ok (.bipush 6, 2) := by decide +kernel
theorem dL_law_838 : decode cL_law 838 = .ok (.iaload, 1) := by decide +kernel
theorem dL_law_839 : decode cL_law 839 = .ok (.iconst 1, 1) := by decide +kernel
theorem dL_law_840 : decode cL_law 840 = .ok (.if_icmp .ne 7, 3) := by decide +kernel
theorem dL_law_843 : decode cL_law 843 = .ok (.iconst 1, 1) := by decide +kernel
theorem dL_law_844 : decode cL_law 844 = .ok (.goto 4, 3) := by decide +kernel
theorem dL_law_847 : decode cL_law 847 = .ok (.iconst 0, 1) := by decide +kernel
theorem dL_law_848 : decode cL_law 848 = .ok (.istore 18, 2) := by decide +kernel
theorem dL_law_850 : decode cL_law 850 = .ok (.aload_n 1, 1) := by decide +kernel
theorem dL_law_851 : decode cL_law 851 = .ok (.iload 13, 2) := by decide +kernel
theorem dL_law_853 : decode cL_law 853 = .ok (.iload 14, 2) := by decide +kernel
theorem dL_law_855 : decode cL_law 855 = .ok (.iconst 0, 1) := by decide +kernel
theorem dL_law_856 : decode cL_law 856 = .ok (.invokevirtual 101, 3) := by decide +kernel
theorem dL_law_859 : decode cL_law 859 = .ok (.iload 18, 2) := by decide +kernel
theorem dL_law_861 : decode cL_law 861 = .ok (.ifCond .eq 8, 3) := by decide +kernel
theorem dL_law_864 : decode cL_law 864 = .ok (.bipush (-103), 2) := by decide +kernel
theorem dL_law_866 : decode cL_law 866 = .ok (.goto 6, 3) := by decide +kernel
theorem dL_law_869 : decode cL_law 869 = .ok (.aload_n 3, 1) := by decide +kernel
theorem dL_law_870 : decode cL_law 870 = .ok (.iconst 0, 1) := by decide +kernel
theorem dL_law_871 : decode cL_law 871 = .ok (.iaload, 1) := by decide +kernel
theorem dL_law_872 : decode cL_law 872 = .ok (.if_icmp .ne 79, 3) := by decide +kernel
theorem dL_law_875 : decode cL_law 875 = .ok (.aload_n 1, 1) := by decide +kernel
theorem dL_law_876 : decode cL_law 876 = .ok (.iload 13, 2) := by decide +kernel
theorem dL_law_878 : decode cL_law 878 = .ok (.iload 14, 2) := by decide +kernel
theorem dL_law_880 : decode cL_law 880 = .ok (.iconst 1, 1) := by decide +kernel
theorem dL_law_881 : decode cL_law 881 = .ok (.invokevirtual 101, 3) := by decide +kernel
theorem dL_law_884 : decode cL_law 884 = .ok (.iload 18, 2) := by decide +kernel
theorem dL_law_886 : decode cL_law 886 = .ok (.ifCond .eq 8, 3) := by decide +kernel
theorem dL_law_889 : decode cL_law 889 = .ok (.bipush (-103), 2) := by decide +kernel
theorem dL_law_891 : decode cL_law 891 = .ok (.goto 6, 3) := by decide +kernel
theorem dL_law_894 : decode cL_law 894 = .ok (.aload_n 3, 1) := by decide +kernel
theorem dL_law_895 : decode cL_law 895 = .ok (.iconst 4, 1) := by decide +kernel
theorem dL_law_896 : decode cL_law 896 = .ok (.iaload, 1) := by decide +kernel
theorem dL_law_897 : decode cL_law 897 = .ok (.if_icmp .ne 54, 3) := by decide +kernel
theorem dL_law_900 : decode cL_law 900 = .ok (.aload_n 1, 1) := by decide +kernel
theorem dL_law_901 : decode cL_law 901 = .ok (.iload 13, 2) := by decide +kernel
theorem dL_law_903 : decode cL_law 903 = .ok (.iload 14, 2) := by decide +kernel
theorem dL_law_905 : decode cL_law 905 = .ok (.iconst 2, 1) := by decide +kernel
theorem dL_law_906 : decode cL_law 906 = .ok (.invokevirtual 101, 3) := by decide +kernel
theorem dL_law_909 : decode cL_law 909 = .ok (.iload 18, 2) := by decide +kernel
theorem dL_law_911 : decode cL_law 911 = .ok (.ifCond .eq 8, 3) := by decide +kernel
theorem dL_law_914 : decode cL_law 914 = .ok (.bipush (-103), 2) := by decide +kernel
theorem dL_law_916 : decode cL_law 916 = .ok (.goto 5, 3) := by decide +kernel
theorem dL_law_919 : decode cL_law 919 = .ok (.iload 17, 2) := by decide +kernel
theorem dL_law_921 : decode cL_law 921 = .ok (.if_icmp .ne 30, 3) := by decide +kernel
theorem dL_law_924 : decode cL_law 924 = .ok (.aload_n 1, 1) := by decide +kernel
theorem dL_law_925 : decode cL_law 925 = .ok (.iload 13, 2) := by decide +kernel
theorem dL_law_927 : decode cL_law 927 = .ok (.iload 14, 2) := by decide +kernel
theorem dL_law_929 : decode cL_law 929 = .ok (.iconst 3, 1) := by decide +kernel
theorem dL_law_930 : decode cL_law 930 = .ok (.invokevirtual 101, 3) := by decide +kernel
theorem dL_law_933 : decode cL_law 933 = .ok (.i2l, 1) := by decide +kernel
theorem dL_law_934 : decode cL_law 934 = .ok (.iload 18, 2) := by decide +kernel
theorem dL_law_936 : decode cL_law 936 = .ok (.ifCond .eq 9, 3) := by decide +kernel
theorem dL_law_939 : decode cL_law 939 = .ok (.ldc2_w 104, 3) := by decide +kernel
theorem dL_law_942 : decode cL_law 942 = .ok (.goto 5, 3) := by decide +kernel
theorem dL_law_945 : decode cL_law 945 = .ok (.lload 15, 2) := by decide +kernel
theorem dL_law_947 : decode cL_law 947 = .ok (.lcmp, 1) := by decide +kernel
theorem dL_law_948 : decode cL_law 948 = .ok (.ifCond .eq 5, 3) := by decide +kernel
theorem dL_law_951 : decode cL_law 951 = .ok (.iconst 0, 1) := by decide +kernel
theorem dL_law_952 : decode cL_law 952 = .ok (.ireturn, 1) := by decide +kernel
theorem dL_law_953 : decode cL_law 953 = .ok (.iinc 5 1, 3) := by decide +kernel
theorem dL_law_956 : decode cL_law 956 = .ok (.goto (-876), 3) := by decide +kernel
theorem dL_law_959 : decode cL_law 959 = .ok (.aload_n 1, 1) := by decide +kernel
theorem dL_law_960 : decode cL_law 960 = .ok (.iconst 2, 1) := by decide +kernel
theorem dL_law_961 : decode cL_law 961 = .ok (.iconst 0, 1) := by decide +kernel
theorem dL_law_962 : decode cL_law 962 = .ok (.invokevirtual 62, 3) := by decide +kernel
theorem dL_law_965 : decode cL_law 965 = .ok (.bipush (-101), 2) := by decide +kernel
theorem dL_law_967 : decode cL_law 967 = .ok (.if_icmp .ne 177, 3) := by decide +kernel
theorem dL_law_970 : decode cL_law 970 = .ok (.aload_n 1, 1) := by decide +kernel
theorem dL_law_971 : decode cL_law 971 = .ok (.iconst 0, 1) := by decide +kernel
theorem dL_law_972 : decode cL_law 972 = .ok (.iconst 4, 1) := by decide +kernel
theorem dL_law_973 : decode cL_law 973 = .ok (.invokevirtual 62, 3) := by decide +kernel
theorem dL_law_976 : decode cL_law 976 = .ok (.bipush (-102), 2) := by decide +kernel
theorem dL_law_978 : decode cL_law 978 = .ok (.if_icmp .ne 166, 3) := by decide +kernel
theorem dL_law_981 : decode cL_law 981 = .ok (.aload_n 1, 1) := by decide +kernel
theorem dL_law_982 : decode cL_law 982 = .ok (.aload_n 2, 1) := by decide +kernel
theorem dL_law_983 : decode cL_law 983 = .ok (.bipush 7, 2) := by decide +kernel
theorem dL_law_985 : decode cL_law 985 = .ok (.iaload, 1) := by decide +kernel
theorem dL_law_986 : decode cL_law 986 = .ok (.iconst 0, 1) := by decide +kernel
theorem dL_law_987 : decode cL_law 987 = .ok (.invokevirtual 58, 3) := by decide +kernel
theorem dL_law_990 : decode cL_law 990 = .ok (.bipush (-101), 2) := by decide +kernel
theorem dL_law_992 : decode cL_law 992 = .ok (.if_icmp .ne 152, 3) := by decide +kernel
theorem dL_law_995 : decode cL_law 995 = .ok (.aload_n 1, 1) := by decide +kernel
theorem dL_law_996 : decode cL_law 996 = .ok (.aload_n 2, 1) := by decide +kernel
theorem dL_law_997 : decode cL_law 997 = .ok (.bipush 7, 2) := by decide +kernel
theorem dL_law_999 : decode cL_law 999 = .ok (.iaload, 1) := by decide +kernel
theorem dL_law_1000 : decode cL_law 1000 = .ok (.iconst 0, 1) := by decide +kernel
theorem dL_law_1001 : decode cL_law 1001 = .ok (.invokevirtual 85, 3) := by decide +kernel
theorem dL_law_1004 : decode cL_law 1004 = .ok (.bipush (-101), 2) := by decide +kernel
theorem dL_law_1006 : decode cL_law 1006 = .ok (.if_icmp .ne 138, 3) := by decide +kernel
theorem dL_law_1009 : decode cL_law 1009 = .ok (.aload_n 1, 1) := by decide +kernel
theorem dL_law_1010 : decode cL_law 1010 = .ok (.bipush 6, 2) := by decide +kernel
theorem dL_law_1012 : decode cL_law 1012 = .ok (.invokevirtual 78, 3) := by decide +kernel
theorem dL_law_1015 : decode cL_law 1015 = .ok (.bipush (-101), 2) := by decide +kernel
theorem dL_law_1017 : decode cL_law 1017 = .ok (.if_icmp .ne 127, 3) := by decide +kernel
theorem dL_law_1020 : decode cL_law 1020 = .ok (.aload_n 1, 1) := by decide +kernel
theorem dL_law_1021 : decode cL_law 1021 = .ok (.iconst 4, 1) := by decide +kernel
theorem dL_law_1022 : decode cL_law 1022 = .ok (.invokevirtual 73, 3) := by decide +kernel
theorem dL_law_1025 : decode cL_law 1025 = .ok (.bipush (-102), 2) := by decide +kernel
theorem dL_law_1027 : decode cL_law 1027 = .ok (.if_icmp .ne 117, 3) := by decide +kernel
theorem dL_law_1030 : decode cL_law 1030 = .ok (.aload_n 1, 1) := by decide +kernel
theorem dL_law_1031 : decode cL_law 1031 = .ok (.bipush (-4), 2) := by decide +kernel
theorem dL_law_1033 : decode cL_law 1033 = .ok (.invokevirtual 73, 3) := by decide +kernel
theorem dL_law_1036 : decode cL_law 1036 = .ok (.bipush (-102), 2) := by decide +kernel
theorem dL_law_1038 : decode cL_law 1038 = .ok (.if_icmp .ne 106, 3) := by decide +kernel
theorem dL_law_1041 : decode cL_law 1041 = .ok (.aload_n 1, 1) := by decide +kernel
theorem dL_law_1042 : decode cL_law 1042 = .ok (.iconst 0, 1) := by decide +kernel
theorem dL_law_1043 : decode cL_law 1043 = .ok (.invokevirtual 88, 3) := by decide +kernel
theorem dL_law_1046 : decode cL_law 1046 = .ok (.bipush (-102), 2) := by decide +kernel
theorem dL_law_1048 : decode cL_law 1048 = .ok (.if_icmp .ne 96, 3) := by decide +kernel
theorem dL_law_1051 : decode cL_law 1051 = .ok (.aload_n 1, 1) := by decide +kernel
theorem dL_law_1052 : decode cL_law 1052 = .ok (.bipush 100, 2) := by decide +kernel
theorem dL_law_1054 : decode cL_law 1054 = .ok (.invokevirtual 88, 3) := by decide +kernel
theorem dL_law_1057 : decode cL_law 1057 = .ok (.bipush (-102), 2) := by decide +kernel
theorem dL_law_1059 : decode cL_law 1059 = .ok (.if_icmp .ne 85, 3) := by decide +kernel
theorem dL_law_1062 : decode cL_law 1062 = .ok (.aload_n 1, 1) := by decide +kernel
theorem dL_law_1063 : decode cL_law 1063 = .ok (.iconst 0, 1) := by decide +kernel
theorem dL_law_1064 : decode cL_law 1064 = .ok (.iconst 1, 1) := by decide +kernel
theorem dL_law_1065 : decode cL_law 1065 = .ok (.iconst 0, 1) := by decide +kernel
theorem dL_law_1066 : decode cL_law 1066 = .ok (.invokevirtual 101, 3) := by decide +kernel
theorem dL_law_1069 : decode cL_law 1069 = .ok (.bipush (-102), 2) := by decide +kernel
theorem dL_law_1071 : decode cL_law 1071 = .ok (.if_icmp .ne 73, 3) := by decide +kernel
theorem dL_law_1074 : decode cL_law 1074 = .ok (.aload_n 1, 1) := by decide +kernel
theorem dL_law_1075 : decode cL_law 1075 = .ok (.bipush 61, 2) := by decide +kernel
theorem dL_law_1077 : decode cL_law 1077 = .ok (.iconst 1, 1) := by decide +kernel
theorem dL_law_1078 : decode cL_law 1078 = .ok (.iconst 0, 1) := by decide +kernel
theorem dL_law_1079 : decode cL_law 1079 = .ok (.invokevirtual 101, 3) := by decide +kernel
theorem dL_law_1082 : decode cL_law 1082 = .ok (.bipush (-102), 2) := by decide +kernel
theorem dL_law_1084 : decode cL_law 1084 = .ok (.if_icmp .ne 60, 3) := by decide +kernel
theorem dL_law_1087 : decode cL_law 1087 = .ok (.aload_n 1, 1) := by decide +kernel
theorem dL_law_1088 : decode cL_law 1088 = .ok (.iconst 1, 1) := by decide +kernel
theorem dL_law_1089 : decode cL_law 1089 = .ok (.iconst (-1), 1) := by decide +kernel
theorem dL_law_1090 : decode cL_law 1090 = .ok (.iconst 0, 1) := by decide +kernel
theorem dL_law_1091 : decode cL_law 1091 = .ok (.invokevirtual 101, 3) := by decide +kernel
theorem dL_law_1094 : decode cL_law 1094 = .ok (.bipush (-102), 2) := by decide +kernel
theorem dL_law_1096 : decode cL_law 1096 = .ok (.if_icmp .ne 48, 3) := by decide +kernel
theorem dL_law_1099 : decode cL_law 1099 = .ok (.aload_n 1, 1) := by decide +kernel
theorem dL_law_1100 : decode cL_law 1100 = .ok (.iconst 1, 1) := by decide +kernel
theorem dL_law_1101 : decode cL_law 1101 = .ok (.iconst 1, 1) := by decide +kernel
theorem dL_law_1102 : decode cL_law 1102 = .ok (.iconst 4, 1) := by decide +kernel
theorem dL_law_1103 : decode cL_law 1103 = .ok (.invokevirtual 101, 3) := by decide +kernel
theorem dL_law_1106 : decode cL_law 1106 = .ok (.bipush (-102), 2) := by decide +kernel
theorem dL_law_1108 : decode cL_law 1108 = .ok (.if_icmp .ne 36, 3) := by decide +kernel
theorem dL_law_1111 : decode cL_law 1111 = .ok (.aload_n 2, 1) := by decide +kernel
theorem dL_law_1112 : decode cL_law 1112 = .ok (.bipush 7, 2) := by decide +kernel
theorem dL_law_1114 : decode cL_law 1114 = .ok (.iaload, 1) := by decide +kernel
theorem dL_law_1115 : decode cL_law 1115 = .ok (.ifCond .eq 25, 3) := by decide +kernel
theorem dL_law_1118 : decode cL_law 1118 = .ok (.aload_n 1, 1) := by decide +kernel
theorem dL_law_1119 : decode cL_law 1119 = .ok (.iconst 0, 1) := by decide +kernel
theorem dL_law_1120 : decode cL_law 1120 = .ok (.iconst 5, 1) := by decide +kernel
theorem dL_law_1121 : decode cL_law 1121 = .ok (.invokevirtual 58, 3) := by decide +kernel
theorem dL_law_1124 : decode cL_law 1124 = .ok (.bipush (-102), 2) := by decide +kernel
theorem dL_law_1126 : decode cL_law 1126 = .ok (.if_icmp .ne 18, 3) := by decide +kernel
theorem dL_law_1129 : decode cL_law 1129 = .ok (.aload_n 1, 1) := by decide +kernel
theorem dL_law_1130 : decode cL_law 1130 = .ok (.iconst 0, 1) := by decide +kernel
theorem dL_law_1131 : decode cL_law 1131 = .ok (.iconst 5, 1) := by decide +kernel
theorem dL_law_1132 : decode cL_law 1132 = .ok (.invokevirtual 85, 3) := by decide +kernel
theorem dL_law_1135 : decode cL_law 1135 = .ok (.bipush (-102), 2) := by decide +kernel
theorem dL_law_1137 : decode cL_law 1137 = .ok (.if_icmp .ne 7, 3) := by decide +kernel
theorem dL_law_1140 : decode cL_law 1140 = .ok (.iconst 1, 1) := by decide +kernel
theorem dL_law_1141 : decode cL_law 1141 = .ok (.goto 4, 3) := by decide +kernel
theorem dL_law_1144 : decode cL_law 1144 = .ok (.iconst 0, 1) := by decide +kernel
theorem dL_law_1145 : decode cL_law 1145 = .ok (.ireturn, 1) := by decide +kernel
