theorem dX12_grows_142 : decode cX12_grows 142 = .ok (.iastore, 1) := by decide +kernel
theorem dX12_grows_143 : decode cX12_grows 143 = .ok (.iload 4, 2) := by decide +kernel
theorem dX12_grows_145 : decode cX12_grows 145 = .ok (.istore_n 2, 1) := by decide +kernel
theorem dX12_grows_146 : decode cX12_grows 146 = .ok (.goto (-37), 3) := by decide +kernel
theorem dX12_grows_149 : decode cX12_grows 149 = .ok (.iconst 1, 1) := by decide +kernel
theorem dX12_grows_150 : decode cX12_grows 150 = .ok (.ireturn, 1) := by decide +kernel
theorem dX12_solves_0 : decode cX12_solves 0 = .ok (.iconst 0, 1) := by decide +kernel
theorem dX12_solves_1 : decode cX12_solves 1 = .ok (.istore_n 3, 1) := by decide +kernel
theorem dX12_solves_2 : decode cX12_solves 2 = .ok (.iload_n 3, 1) := by decide +kernel
theorem dX12_solves_3 : decode cX12_solves 3 = .ok (.aload_n 0, 1) := by decide +kernel
theorem dX12_solves_4 : decode cX12_solves 4 = .ok (.getfield 331, 3) := by decide +kernel
theorem dX12_solves_7 : decode cX12_solves 7 = .ok (.if_icmp .ge 16, 3) := by decide +kernel
theorem dX12_solves_10 : decode cX12_solves 10 = .ok (.aload_n 0, 1) := by decide +kernel
theorem dX12_solves_11 : decode cX12_solves 11 = .ok (.getfield 96, 3) := by decide +kernel
theorem dX12_solves_14 : decode cX12_solves 14 = .ok (.iload_n 3, 1) := by decide +kernel
theorem dX12_solves_15 : decode cX12_solves 15 = .ok (.iconst (-1), 1) := by decide +kernel
theorem dX12_solves_16 : decode cX12_solves 16 = .ok (.iastore, 1) := by decide +kernel
theorem dX12_solves_17 : decode cX12_solves 17 = .ok (.iinc 3 1, 3) := by decide +kernel
theorem dX12_solves_20 : decode cX12_solves 20 = .ok (.goto (-18), 3) := by decide +kernel
theorem dX12_solves_23 : decode cX12_solves 23 = .ok (.iconst 0, 1) := by decide +kernel
theorem dX12_solves_24 : decode cX12_solves 24 = .ok (.istore_n 3, 1) := by decide +kernel
theorem dX12_solves_25 : decode cX12_solves 25 = .ok (.iload_n 3, 1) := by decide +kernel
theorem dX12_solves_26 : decode cX12_solves 26 = .ok (.aload_n 0, 1) := by decide +kernel
theorem dX12_solves_27 : decode cX12_solves 27 = .ok (.getfield 334, 3) := by decide +kernel
theorem dX12_solves_30 : decode cX12_solves 30 = .ok (.if_icmp .ge 16, 3) := by decide +kernel
theorem dX12_solves_33 : decode cX12_solves 33 = .ok (.aload_n 0, 1) := by decide +kernel
theorem dX12_solves_34 : decode cX12_solves 34 = .ok (.getfield 99, 3) := by decide +kernel
theorem dX12_solves_37 : decode cX12_solves 37 = .ok (.iload_n 3, 1) := by decide +kernel
theorem dX12_solves_38 : decode cX12_solves 38 = .ok (.iconst (-1), 1) := by decide +kernel
theorem dX12_solves_39 : decode cX12_solves 39 = .ok (.iastore, 1) := by decide +kernel
theorem dX12_solves_40 : decode cX12_solves 40 = .ok (.iinc 3 1, 3) := by decide +kernel
theorem dX12_solves_43 : decode cX12_solves 43 = .ok (.goto (-18), 3) := by decide +kernel
theorem dX12_solves_46 : decode cX12_solves 46 = .ok (.aload_n 0, 1) := by decide +kernel
theorem dX12_solves_47 : decode cX12_solves 47 = .ok (.iload_n 1, 1) := by decide +kernel
theorem dX12_solves_48 : decode cX12_solves 48 = .ok (.putfield 337, 3) := by decide +kernel
theorem dX12_solves_51 : decode cX12_solves 51 = .ok (.aload_n 0, 1) := by decide +kernel
theorem dX12_solves_52 : decode cX12_solves 52 = .ok (.iload_n 2, 1) := by decide +kernel
theorem dX12_solves_53 : decode cX12_solves 53 = .ok (.putfield 340, 3) := by decide +kernel
theorem dX12_solves_56 : decode cX12_solves 56 = .ok (.iconst 1, 1) := by decide +kernel
theorem dX12_solves_57 : decode cX12_solves 57 = .ok (.istore_n 3, 1) := by decide +kernel
theorem dX12_solves_58 : decode cX12_solves 58 = .ok (.iload_n 3, 1) := by decide +kernel
theorem dX12_solves_59 : decode cX12_solves 59 = .ok (.ifCond .eq 11, 3) := by decide +kernel
theorem dX12_solves_62 : decode cX12_solves 62 = .ok (.aload_n 0, 1) := by decide +kernel
theorem dX12_solves_63 : decode cX12_solves 63 = .ok (.invokevirtual 347, 3) := by decide +kernel
theorem dX12_solves_66 : decode cX12_solves 66 = .ok (.istore_n 3, 1) := by decide +kernel
theorem dX12_solves_67 : decode cX12_solves 67 = .ok (.goto (-9), 3) := by decide +kernel
theorem dX12_solves_70 : decode cX12_solves 70 = .ok (.return_, 1) := by decide +kernel
theorem dX12_findJoin_0 : decode cX12_findJoin 0 = .ok (.aload_n 0, 1) := by decide +kernel
theorem dX12_findJoin_1 : decode cX12_findJoin 1 = .ok (.iload_n 1, 1) := by decide +kernel
theorem dX12_findJoin_2 : decode cX12_findJoin 2 = .ok (.invokevirtual 351, 3) := by decide +kernel
theorem dX12_findJoin_5 : decode cX12_findJoin 5 = .ok (.aload_n 0, 1) := by decide +kernel
theorem dX12_findJoin_6 : decode cX12_findJoin 6 = .ok (.iconst 0, 1) := by decide +kernel
theorem dX12_findJoin_7 : decode cX12_findJoin 7 = .ok (.iconst 0, 1) := by decide +kernel
theorem dX12_findJoin_8 : decode cX12_findJoin 8 = .ok (.invokevirtual 354, 3) := by decide +kernel
theorem dX12_findJoin_11 : decode cX12_findJoin 11 = .ok (.aload_n 0, 1) := by decide +kernel
theorem dX12_findJoin_12 : decode cX12_findJoin 12 = .ok (.getfield 337, 3) := by decide +kernel
theorem dX12_findJoin_15 : decode cX12_findJoin 15 = .ok (.istore_n 2, 1) := by decide +kernel
theorem dX12_findJoin_16 : decode cX12_findJoin 16 = .ok (.aload_n 0, 1) := by decide +kernel
theorem dX12_findJoin_17 : decode cX12_findJoin 17 = .ok (.getfield 340, 3) := by decide +kernel
theorem dX12_findJoin_20 : decode cX12_findJoin 20 = .ok (.istore_n 3, 1) := by decide +kernel
theorem dX12_findJoin_21 : decode cX12_findJoin 21 = .ok (.iconst 0, 1) := by decide +kernel
theorem dX12_findJoin_22 : decode cX12_findJoin 22 = .ok (.istore 4, 2) := by decide +kernel
theorem dX12_findJoin_24 : decode cX12_findJoin 24 = .ok (.iconst 0, 1) := by decide +kernel
theorem dX12_findJoin_25 : decode cX12_findJoin 25 = .ok (.istore 5, 2) := by decide +kernel
theorem dX12_findJoin_27 : decode cX12_findJoin 27 = .ok (.iconst 0, 1) := by decide +kernel
theorem dX12_findJoin_28 : decode cX12_findJoin 28 = .ok (.istore 6, 2) := by decide +kernel
theorem dX12_findJoin_30 : decode cX12_findJoin 30 = .ok (.iload 6, 2) := by decide +kernel
theorem dX12_findJoin_32 : decode cX12_findJoin 32 = .ok (.aload_n 0, 1) := by decide +kernel
theorem dX12_findJoin_33 : decode cX12_findJoin 33 = .ok (.getfield 331, 3) := by decide +kernel
theorem dX12_findJoin_36 : decode cX12_findJoin 36 = .ok (.if_icmp .ge 158, 3) := by decide +kernel
theorem dX12_findJoin_39 : decode cX12_findJoin 39 = .ok (.aload_n 0, 1) := by decide +kernel
theorem dX12_findJoin_40 : decode cX12_findJoin 40 = .ok (.getfield 105, 3) := by decide +kernel
theorem dX12_findJoin_43 : decode cX12_findJoin 43 = .ok (.iload 6, 2) := by decide +kernel
theorem dX12_findJoin_45 : decode cX12_findJoin 45 = .ok (.iconst 1, 1) := by decide +kernel
theorem dX12_findJoin_46 : decode cX12_findJoin 46 = .ok (.bastore, 1) := by decide +kernel
theorem dX12_findJoin_47 : decode cX12_findJoin 47 = .ok (.aload_n 0, 1) := by decide +kernel
theorem dX12_findJoin_48 : decode cX12_findJoin 48 = .ok (.getfield 102, 3) := by decide +kernel
theorem dX12_findJoin_51 : decode cX12_findJoin 51 = .ok (.iload 6, 2) := by decide +kernel
theorem dX12_findJoin_53 : decode cX12_findJoin 53 = .ok (.iconst (-1), 1) := by decide +kernel
theorem dX12_findJoin_54 : decode cX12_findJoin 54 = .ok (.iastore, 1) := by decide +kernel
theorem dX12_findJoin_55 : decode cX12_findJoin 55 = .ok (.iconst 0, 1) := by decide +kernel
theorem dX12_findJoin_56 : decode cX12_findJoin 56 = .ok (.istore 7, 2) := by decide +kernel
theorem dX12_findJoin_58 : decode cX12_findJoin 58 = .ok (.iload 7, 2) := by decide +kernel
theorem dX12_findJoin_60 : decode cX12_findJoin 60 = .ok (.aload_n 0, 1) := by decide +kernel
theorem dX12_findJoin_61 : decode cX12_findJoin 61 = .ok (.getfield 334, 3) := by decide +kernel
theorem dX12_findJoin_64 : decode cX12_findJoin 64 = .ok (.if_icmp .ge 124, 3) := by decide +kernel
theorem dX12_findJoin_67 : decode cX12_findJoin 67 = .ok (.aload_n 0, 1) := by decide +kernel
theorem dX12_findJoin_68 : decode cX12_findJoin 68 = .ok (.getfield 102, 3) := by decide +kernel
theorem dX12_findJoin_71 : decode cX12_findJoin 71 = .ok (.iload 6, 2) := by decide +kernel
theorem dX12_findJoin_73 : decode cX12_findJoin 73 = .ok (.iaload, 1) := by decide +kernel
theorem dX12_findJoin_74 : decode cX12_findJoin 74 = .ok (.iconst (-1), 1) := by decide +kernel
theorem dX12_findJoin_75 : decode cX12_findJoin 75 = .ok (.if_icmp .ne 113, 3) := by decide +kernel
theorem dX12_findJoin_78 : decode cX12_findJoin 78 = .ok (.aload_n 0, 1) := by decide +kernel
theorem dX12_findJoin_79 : decode cX12_findJoin 79 = .ok (.getfield 93, 3) := by decide +kernel
theorem dX12_findJoin_82 : decode cX12_findJoin 82 = .ok (.bipush 48, 2) := by decide +kernel
theorem dX12_findJoin_84 : decode cX12_findJoin 84 = .ok (.iload 6, 2) := by decide +kernel
theorem dX12_findJoin_86 : decode cX12_findJoin 86 = .ok (.imul, 1) := by decide +kernel
theorem dX12_findJoin_87 : decode cX12_findJoin 87 = .ok (.iload 7, 2) := by decide +kernel
theorem dX12_findJoin_89 : decode cX12_findJoin 89 = .ok (.iadd, 1) := by decide +kernel
theorem dX12_findJoin_90 : decode cX12_findJoin 90 = .ok (.iaload, 1) := by decide +kernel
theorem dX12_findJoin_91 : decode cX12_findJoin 91 = .ok (.istore 8, 2) := by decide +kernel
theorem dX12_findJoin_93 : decode cX12_findJoin 93 = .ok (.iload 8, 2) := by decide +kernel
theorem dX12_findJoin_95 : decode cX12_findJoin 95 = .ok (.iconst (-1), 1) := by decide +kernel
theorem dX12_findJoin_96 : decode cX12_findJoin 96 = .ok (.if_icmp .eq 86, 3) := by decide +kernel
theorem dX12_findJoin_99 : decode cX12_findJoin 99 = .ok (.aload_n 0, 1) := by decide +kernel
theorem dX12_findJoin_100 : decode cX12_findJoin 100 = .ok (.getfield 108, 3) := by decide +kernel
theorem dX12_findJoin_103 : decode cX12_findJoin 103 = .ok (.iload 7, 2) := by decide +kernel
theorem dX12_findJoin_105 : decode cX12_findJoin 105 = .ok (.baload, 1) := by decide +kernel
theorem dX12_findJoin_106 : decode cX12_findJoin 106 = .ok (.ifCond .eq 6, 3) := by decide +kernel
theorem dX12_findJoin_109 : decode cX12_findJoin 109 = .ok (.goto 73, 3) := by decide +kernel
theorem dX12_findJoin_112 : decode cX12_findJoin 112 = .ok (.aload_n 0, 1) := by decide +kernel
theorem dX12_findJoin_113 : decode cX12_findJoin 113 = .ok (.getfield 108, 3) := by decide +kernel
theorem dX12_findJoin_116 : decode cX12_findJoin 116 = .ok (.iload 7, 2) := by decide +kernel
theorem dX12_findJoin_118 : decode cX12_findJoin 118 = .ok (.iconst 1, 1) := by decide +kernel
theorem dX12_findJoin_119 : decode cX12_findJoin 119 = .ok (.bastore, 1) := by decide +kernel
theorem dX12_findJoin_120 : decode cX12_findJoin 120 = .ok (.aload_n 0, 1) := by decide +kernel
theorem dX12_findJoin_121 : decode cX12_findJoin 121 = .ok (.iload 4, 2) := by decide +kernel
theorem dX12_findJoin_123 : decode cX12_findJoin 123 = .ok (.iconst 1, 1) := by decide +kernel
theorem dX12_findJoin_124 : decode cX12_findJoin 124 = .ok (.iadd, 1) := by decide +kernel
theorem dX12_findJoin_125 : decode cX12_findJoin 125 = .ok (.iload 5, 2) := by decide +kernel
theorem dX12_findJoin_127 : decode cX12_findJoin 127 = .ok (.iload 8, 2) := by decide +kernel
theorem dX12_findJoin_129 : decode cX12_findJoin 129 = .ok (.iadd, 1) := by decide +kernel
theorem dX12_findJoin_130 : decode cX12_findJoin 130 = .ok (.invokevirtual 354, 3) := by decide +kernel
theorem dX12_findJoin_133 : decode cX12_findJoin 133 = .ok (.aload_n 0, 1) := by decide +kernel
theorem dX12_findJoin_134 : decode cX12_findJoin 134 = .ok (.getfield 337, 3) := by decide +kernel
theorem dX12_findJoin_137 : decode cX12_findJoin 137 = .ok (.iload_n 2, 1) := by decide +kernel
theorem dX12_findJoin_138 : decode cX12_findJoin 138 = .ok (.if_icmp .ne 36, 3) := by decide +kernel
theorem dX12_findJoin_141 : decode cX12_findJoin 141 = .ok (.aload_n 0, 1) := by decide +kernel
theorem dX12_findJoin_142 : decode cX12_findJoin 142 = .ok (.getfield 340, 3) := by decide +kernel
theorem dX12_findJoin_145 : decode cX12_findJoin 145 = .ok (.iload_n 3, 1) := by decide +kernel
theorem dX12_findJoin_146 : decode cX12_findJoin 146 = .ok (.if_icmp .ne 28, 3) := by decide +kernel
theorem dX12_findJoin_149 : decode cX12_findJoin 149 = .ok (.aload_n 0, 1) := by decide +kernel
theorem dX12_findJoin_150 : decode cX12_findJoin 150 = .ok (.getfield 102, 3) := by decide +kernel
theorem dX12_findJoin_153 : decode cX12_findJoin 153 = .ok (.iload 6, 2) := by decide +kernel
theorem dX12_findJoin_155 : decode cX12_findJoin 155 = .ok (.iload 7, 2) := by decide +kernel
theorem dX12_findJoin_157 : decode cX12_findJoin 157 = .ok (.iastore, 1) := by decide +kernel
theorem dX12_findJoin_158 : decode cX12_findJoin 158 = .ok (.iload 4, 2) := by decide +kernel
theorem dX12_findJoin_160 : decode cX12_findJoin 160 = .ok (.iconst 1, 1) := by decide +kernel
theorem dX12_findJoin_161 : decode cX12_findJoin 161 = .ok (.iadd, 1) := by decide +kernel
theorem dX12_findJoin_162 : decode cX12_findJoin 162 = .ok (.istore 4, 2) := by decide +kernel
theorem dX12_findJoin_164 : decode cX12_findJoin 164 = .ok (.iload 5, 2) := by decide +kernel
theorem dX12_findJoin_166 : decode cX12_findJoin 166 = .ok (.iload 8, 2) := by decide +kernel
theorem dX12_findJoin_168 : decode cX12_findJoin 168 = .ok (.iadd, 1) := by decide +kernel
theorem dX12_findJoin_169 : decode cX12_findJoin 169 = .ok (.istore 5, 2) := by decide +kernel
theorem dX12_findJoin_171 : decode cX12_findJoin 171 = .ok (.goto 11, 3) := by decide +kernel
theorem dX12_findJoin_174 : decode cX12_findJoin 174 = .ok (.aload_n 0, 1) := by decide +kernel
theorem dX12_findJoin_175 : decode cX12_findJoin 175 = .ok (.getfield 108, 3) := by decide +kernel
theorem dX12_findJoin_178 : decode cX12_findJoin 178 = .ok (.iload 7, 2) := by decide +kernel
theorem dX12_findJoin_180 : decode cX12_findJoin 180 = .ok (.iconst 0, 1) := by decide +kernel
theorem dX12_findJoin_181 : decode cX12_findJoin 181 = .ok (.bastore, 1) := by decide +kernel
theorem dX12_findJoin_182 : decode cX12_findJoin 182 = .ok (.iinc 7 1, 3) := by decide +kernel
theorem dX12_findJoin_185 : decode cX12_findJoin 185 = .ok (.goto (-127), 3) := by decide +kernel
theorem dX12_findJoin_188 : decode cX12_findJoin 188 = .ok (.iinc 6 1, 3) := by decide +kernel
theorem dX12_findJoin_191 : decode cX12_findJoin 191 = .ok (.goto (-161), 3) := by decide +kernel
theorem dX12_findJoin_194 : decode cX12_findJoin 194 = .ok (.iconst 0, 1) := by decide +kernel
theorem dX12_findJoin_195 : decode cX12_findJoin 195 = .ok (.istore 6, 2) := by decide +kernel
theorem dX12_findJoin_197 : decode cX12_findJoin 197 = .ok (.iload 6, 2) := by decide +kernel
theorem dX12_findJoin_199 : decode cX12_findJoin 199 = .ok (.aload_n 0, 1) := by decide +kernel
theorem dX12_findJoin_200 : decode cX12_findJoin 200 = .ok (.getfield 331, 3) := by decide +kernel
theorem dX12_findJoin_203 : decode cX12_findJoin 203 = .ok (.if_icmp .ge 17, 3) := by decide +kernel
theorem dX12_findJoin_206 : decode cX12_findJoin 206 = .ok (.aload_n 0, 1) := by decide +kernel
theorem dX12_findJoin_207 : decode cX12_findJoin 207 = .ok (.getfield 105, 3) := by decide +kernel
theorem dX12_findJoin_210 : decode cX12_findJoin 210 = .ok (.iload 6, 2) := by decide +kernel
theorem dX12_findJoin_212 : decode cX12_findJoin 212 = .ok (.iconst 0, 1) := by decide +kernel
theorem dX12_findJoin_213 : decode cX12_findJoin 213 = .ok (.bastore, 1) := by decide +kernel
theorem dX12_findJoin_214 : decode cX12_findJoin 214 = .ok (.iinc 6 1, 3) := by decide +kernel
theorem dX12_findJoin_217 : decode cX12_findJoin 217 = .ok (.goto (-20), 3) := by decide +kernel
theorem dX12_findJoin_220 : decode cX12_findJoin 220 = .ok (.iconst 0, 1) := by decide +kernel
theorem dX12_findJoin_221 : decode cX12_findJoin 221 = .ok (.istore 6, 2) := by decide +kernel
theorem dX12_findJoin_223 : decode cX12_findJoin 223 = .ok (.iload 6, 2) := by decide +kernel
theorem dX12_findJoin_225 : decode cX12_findJoin 225 = .ok (.aload_n 0, 1) := by decide +kernel
theorem dX12_findJoin_226 : decode cX12_findJoin 226 = .ok (.getfield 334, 3) := by decide +kernel
theorem dX12_findJoin_229 : decode cX12_findJoin 229 = .ok (.if_icmp .ge 17, 3) := by decide +kernel
theorem dX12_findJoin_232 : decode cX12_findJoin 232 = .ok (.aload_n 0, 1) := by decide +kernel
theorem dX12_findJoin_233 : decode cX12_findJoin 233 = .ok (.getfield 108, 3) := by decide +kernel
theorem dX12_findJoin_236 : decode cX12_findJoin 236 = .ok (.iload 6, 2) := by decide +kernel
theorem dX12_findJoin_238 : decode cX12_findJoin 238 = .ok (.iconst 0, 1) := by decide +kernel
theorem dX12_findJoin_239 : decode cX12_findJoin 239 = .ok (.bastore, 1) := by decide +kernel
theorem dX12_findJoin_240 : decode cX12_findJoin 240 = .ok (.iinc 6 1, 3) := by decide +kernel
theorem dX12_findJoin_243 : decode cX12_findJoin 243 = .ok (.goto (-20), 3) := by decide +kernel
theorem dX12_findJoin_246 : decode cX12_findJoin 246 = .ok (.iconst 0, 1) := by decide +kernel
theorem dX12_findJoin_247 : decode cX12_findJoin 247 = .ok (.istore 6, 2) := by decide +kernel
theorem dX12_findJoin_249 : decode cX12_findJoin 249 = .ok (.iload 6, 2) := by decide +kernel
theorem dX12_findJoin_251 : decode cX12_findJoin 251 = .ok (.aload_n 0, 1) := by decide +kernel
theorem dX12_findJoin_252 : decode cX12_findJoin 252 = .ok (.getfield 198, 3) := by decide +kernel
theorem dX12_findJoin_255 : decode cX12_findJoin 255 = .ok (.if_icmp .ge 35, 3) := by decide +kernel
theorem dX12_findJoin_258 : decode cX12_findJoin 258 = .ok (.aload_n 0, 1) := by decide +kernel
theorem dX12_findJoin_259 : decode cX12_findJoin 259 = .ok (.getfield 126, 3) := by decide +kernel
theorem dX12_findJoin_262 : decode cX12_findJoin 262 = .ok (.bipush 48, 2) := by decide +kernel
theorem dX12_findJoin_264 : decode cX12_findJoin 264 = .ok (.iload_n 1, 1) := by decide +kernel
theorem dX12_findJoin_265 : decode cX12_findJoin 265 = .ok (.imul, 1) := by decide +kernel
theorem dX12_findJoin_266 : decode cX12_findJoin 266 = .ok (.iload 6, 2) := by decide +kernel
theorem dX12_findJoin_268 : decode cX12_findJoin 268 = .ok (.iadd, 1) := by decide +kernel
theorem dX12_findJoin_269 : decode cX12_findJoin 269 = .ok (.iconst (-1), 1) := by decide +kernel
theorem dX12_findJoin_270 : decode cX12_findJoin 270 = .ok (.iastore, 1) := by decide +kernel
theorem dX12_findJoin_271 : decode cX12_findJoin 271 = .ok (.aload_n 0, 1) := by decide +kernel
theorem dX12_findJoin_272 : decode cX12_findJoin 272 = .ok (.getfield 129, 3) := by decide +kernel
theorem dX12_findJoin_275 : decode cX12_findJoin 275 = .ok (.bipush 48, 2) := by decide +kernel
theorem dX12_findJoin_277 : decode cX12_findJoin 277 = .ok (.iload_n 1, 1) := by decide +kernel
theorem dX12_findJoin_278 : decode cX12_findJoin 278 = .ok (.imul, 1) := by decide +kernel
theorem dX12_findJoin_279 : decode cX12_findJoin 279 = .ok (.iload 6, 2) := by decide +kernel
theorem dX12_findJoin_281 : decode cX12_findJoin 281 = .ok (.iadd, 1) := by decide +kernel
theorem dX12_findJoin_282 : decode cX12_findJoin 282 = .ok (.iconst 0, 1) := by decide +kernel
theorem dX12_findJoin_283 : decode cX12_findJoin 283 = .ok (.bastore, 1) := by decide +kernel
theorem dX12_findJoin_284 : decode cX12_findJoin 284 = .ok (.iinc 6 1, 3) := by decide +kernel
theorem dX12_findJoin_287 : decode cX12_findJoin 287 = .ok (.goto (-38), 3) := by decide +kernel
theorem dX12_findJoin_290 : decode cX12_findJoin 290 = .ok (.aload_n 0, 1) := by decide +kernel
theorem dX12_findJoin_291 : decode cX12_findJoin 291 = .ok (.getfield 132, 3) := by decide +kernel
theorem dX12_findJoin_294 : decode cX12_findJoin 294 = .ok (.iload_n 1, 1) := by decide +kernel
theorem dX12_findJoin_295 : decode cX12_findJoin 295 = .ok (.iload_n 2, 1) := by decide +kernel
theorem dX12_findJoin_296 : decode cX12_findJoin 296 = .ok (.iastore, 1) := by decide +kernel
theorem dX12_findJoin_297 : decode cX12_findJoin 297 = .ok (.aload_n 0, 1) := by decide +kernel
theorem dX12_findJoin_298 : decode cX12_findJoin 298 = .ok (.getfield 135, 3) := by decide +kernel
theorem dX12_findJoin_301 : decode cX12_findJoin 301 = .ok (.iload_n 1, 1) := by decide +kernel
theorem dX12_findJoin_302 : decode cX12_findJoin 302 = .ok (.iload_n 3, 1) := by decide +kernel
theorem dX12_findJoin_303 : decode cX12_findJoin 303 = .ok (.iastore, 1) := by decide +kernel
theorem dX12_findJoin_304 : decode cX12_findJoin 304 = .ok (.aload_n 0, 1) := by decide +kernel
theorem dX12_findJoin_305 : decode cX12_findJoin 305 = .ok (.getfield 138, 3) := by decide +kernel
theorem dX12_findJoin_308 : decode cX12_findJoin 308 = .ok (.iload_n 1, 1) := by decide +kernel
theorem dX12_findJoin_309 : decode cX12_findJoin 309 = .ok (.iconst 0, 1) := by decide +kernel
theorem dX12_findJoin_310 : decode cX12_findJoin 310 = .ok (.iastore, 1) := by decide +kernel
theorem dX12_findJoin_311 : decode cX12_findJoin 311 = .ok (.iconst 0, 1) := by decide +kernel
theorem dX12_findJoin_312 : decode cX12_findJoin 312 = .ok (.istore 6, 2) := by decide +kernel
theorem dX12_findJoin_314 : decode cX12_findJoin 314 = .ok (.iload 6, 2) := by decide +kernel
theorem dX12_findJoin_316 : decode cX12_findJoin 316 = .ok (.aload_n 0, 1) := by decide +kernel
theorem dX12_findJoin_317 : decode cX12_findJoin 317 = .ok (.getfield 331, 3) := by decide +kernel
theorem dX12_findJoin_320 : decode cX12_findJoin 320 = .ok (.if_icmp .ge 167, 3) := by decide +kernel
theorem dX12_findJoin_323 : decode cX12_findJoin 323 = .ok (.aload_n 0, 1) := by decide +kernel
theorem dX12_findJoin_324 : decode cX12_findJoin 324 = .ok (.getfield 102, 3) := by decide +kernel
theorem dX12_findJoin_327 : decode cX12_findJoin 327 = .ok (.iload 6, 2) := by decide +kernel
theorem dX12_findJoin_329 : decode cX12_findJoin 329 = .ok (.iaload, 1) := by decide +kernel
theorem dX12_findJoin_330 : decode cX12_findJoin 330 = .ok (.iconst (-1), 1) := by decide +kernel
theorem dX12_findJoin_331 : decode cX12_findJoin 331 = .ok (.if_icmp .ne 6, 3) := by decide +kernel
theorem dX12_findJoin_334 : decode cX12_findJoin 334 = .ok (.goto 147, 3) := by decide +kernel
theorem dX12_findJoin_337 : decode cX12_findJoin 337 = .ok (.aload_n 0, 1) := by decide +kernel
theorem dX12_findJoin_338 : decode cX12_findJoin 338 = .ok (.getfield 87, 3) := by decide +kernel
theorem dX12_findJoin_341 : decode cX12_findJoin 341 = .ok (.iload 6, 2) := by decide +kernel
theorem dX12_findJoin_343 : decode cX12_findJoin 343 = .ok (.iaload, 1) := by decide +kernel
theorem dX12_findJoin_344 : decode cX12_findJoin 344 = .ok (.istore 7, 2) := by decide +kernel
theorem dX12_findJoin_346 : decode cX12_findJoin 346 = .ok (.aload_n 0, 1) := by decide +kernel
theorem dX12_findJoin_347 : decode cX12_findJoin 347 = .ok (.getfield 90, 3) := by decide +kernel
theorem dX12_findJoin_350 : decode cX12_findJoin 350 = .ok (.aload_n 0, 1) := by decide +kernel
theorem dX12_findJoin_351 : decode cX12_findJoin 351 = .ok (.getfield 102, 3) := by decide +kernel
theorem dX12_findJoin_354 : decode cX12_findJoin 354 = .ok (.iload 6, 2) := by decide +kernel
theorem dX12_findJoin_356 : decode cX12_findJoin 356 = .ok (.iaload, 1) := by decide +kernel
theorem dX12_findJoin_357 : decode cX12_findJoin 357 = .ok (.iaload, 1) := by decide +kernel
theorem dX12_findJoin_358 : decode cX12_findJoin 358 = .ok (.istore 8, 2) := by decide +kernel
theorem dX12_findJoin_360 : decode cX12_findJoin 360 = .ok (.aload_n 0, 1) := by decide +kernel
theorem dX12_findJoin_361 : decode cX12_findJoin 361 = .ok (.getfield 126, 3) := by decide +kernel
theorem dX12_findJoin_364 : decode cX12_findJoin 364 = .ok (.bipush 48, 2) := by decide +kernel
theorem dX12_findJoin_366 : decode cX12_findJoin 366 = .ok (.iload_n 1, 1) := by decide +kernel
theorem dX12_findJoin_367 : decode cX12_findJoin 367 = .ok (.imul, 1) := by decide +kernel
theorem dX12_findJoin_368 : decode cX12_findJoin 368 = .ok (.iload 7, 2) := by decide +kernel
theorem dX12_findJoin_370 : decode cX12_findJoin 370 = .ok (.iadd, 1) := by decide +kernel
theorem dX12_findJoin_371 : decode cX12_findJoin 371 = .ok (.iload 8, 2) := by decide +kernel
theorem dX12_findJoin_373 : decode cX12_findJoin 373 = .ok (.iastore, 1) := by decide +kernel
theorem dX12_findJoin_374 : decode cX12_findJoin 374 = .ok (.aload_n 0, 1) := by decide +kernel
theorem dX12_findJoin_375 : decode cX12_findJoin 375 = .ok (.getfield 126, 3) := by decide +kernel
theorem dX12_findJoin_378 : decode cX12_findJoin 378 = .ok (.bipush 48, 2) := by decide +kernel
theorem dX12_findJoin_380 : decode cX12_findJoin 380 = .ok (.iload_n 1, 1) := by decide +kernel
theorem dX12_findJoin_381 : decode cX12_findJoin 381 = .ok (.imul, 1) := by decide +kernel
theorem dX12_findJoin_382 : decode cX12_findJoin 382 = .ok (.iload 8, 2) := by decide +kernel
theorem dX12_findJoin_384 : decode cX12_findJoin 384 = .ok (.iadd, 1) := by decide +kernel
theorem dX12_findJoin_385 : decode cX12_findJoin 385 = .ok (.iload 7, 2) := by decide +kernel
theorem dX12_findJoin_387 : decode cX12_findJoin 387 = .ok (.iastore, 1) := by decide +kernel
theorem dX12_findJoin_388 : decode cX12_findJoin 388 = .ok (.aload_n 0, 1) := by decide +kernel
theorem dX12_findJoin_389 : decode cX12_findJoin 389 = .ok (.iload 6, 2) := by decide +kernel
theorem dX12_findJoin_391 : decode cX12_findJoin 391 = .ok (.putfield 111, 3) := by decide +kernel
theorem dX12_findJoin_394 : decode cX12_findJoin 394 = .ok (.aload_n 0, 1) := by decide +kernel
theorem dX12_findJoin_395 : decode cX12_findJoin 395 = .ok (.aload_n 0, 1) := by decide +kernel
theorem dX12_findJoin_396 : decode cX12_findJoin 396 = .ok (.getfield 102, 3) := by decide +kernel
theorem dX12_findJoin_399 : decode cX12_findJoin 399 = .ok (.iload 6, 2) := by decide +kernel
theorem dX12_findJoin_401 : decode cX12_findJoin 401 = .ok (.iaload, 1) := by decide +kernel
theorem dX12_findJoin_402 : decode cX12_findJoin 402 = .ok (.putfield 114, 3) := by decide +kernel
theorem dX12_findJoin_405 : decode cX12_findJoin 405 = .ok (.aload_n 0, 1) := by decide +kernel
theorem dX12_findJoin_406 : decode cX12_findJoin 406 = .ok (.iconst 0, 1) := by decide +kernel
theorem dX12_findJoin_407 : decode cX12_findJoin 407 = .ok (.iconst 0, 1) := by decide +kernel
theorem dX12_findJoin_408 : decode cX12_findJoin 408 = .ok (.invokevirtual 354, 3) := by decide +kernel
theorem dX12_findJoin_411 : decode cX12_findJoin 411 = .ok (.aload_n 0, 1) := by decide +kernel
theorem dX12_findJoin_412 : decode cX12_findJoin 412 = .ok (.getfield 337, 3) := by decide +kernel
theorem dX12_findJoin_415 : decode cX12_findJoin 415 = .ok (.iload_n 2, 1) := by decide +kernel
theorem dX12_findJoin_416 : decode cX12_findJoin 416 = .ok (.if_icmp .ne 11, 3) := by decide +kernel
theorem dX12_findJoin_419 : decode cX12_findJoin 419 = .ok (.aload_n 0, 1) := by decide +kernel
theorem dX12_findJoin_420 : decode cX12_findJoin 420 = .ok (.getfield 340, 3) := by decide +kernel
theorem dX12_findJoin_423 : decode cX12_findJoin 423 = .ok (.iload_n 3, 1) := by decide +kernel
theorem dX12_findJoin_424 : decode cX12_findJoin 424 = .ok (.if_icmp .eq 7, 3) := by decide +kernel
theorem dX12_findJoin_427 : decode cX12_findJoin 427 = .ok (.iconst 1, 1) := by decide +kernel
theorem dX12_findJoin_428 : decode cX12_findJoin 428 = .ok (.goto 4, 3) := by decide +kernel
theorem dX12_findJoin_431 : decode cX12_findJoin 431 = .ok (.iconst 0, 1) := by decide +kernel
theorem dX12_findJoin_432 : decode cX12_findJoin 432 = .ok (.istore 9, 2) := by decide +kernel
theorem dX12_findJoin_434 : decode cX12_findJoin 434 = .ok (.aload_n 0, 1) := by decide +kernel
theorem dX12_findJoin_435 : decode cX12_findJoin 435 = .ok (.getfield 129, 3) := by decide +kernel
theorem dX12_findJoin_438 : decode cX12_findJoin 438 = .ok (.bipush 48, 2) := by decide +kernel
theorem dX12_findJoin_440 : decode cX12_findJoin 440 = .ok (.iload_n 1, 1) := by decide +kernel
theorem dX12_findJoin_441 : decode cX12_findJoin 441 = .ok (.imul, 1) := by decide +kernel
theorem dX12_findJoin_442 : decode cX12_findJoin 442 = .ok (.iload 7, 2) := by decide +kernel
theorem dX12_findJoin_444 : decode cX12_findJoin 444 = .ok (.iadd, 1) := by decide +kernel
theorem dX12_findJoin_445 : decode cX12_findJoin 445 = .ok (.iload 9, 2) := by decide +kernel
theorem dX12_findJoin_447 : decode cX12_findJoin 447 = .ok (.bastore, 1) := by decide +kernel
theorem dX12_findJoin_448 : decode cX12_findJoin 448 = .ok (.aload_n 0, 1) := by decide +kernel
theorem dX12_findJoin_449 : decode cX12_findJoin 449 = .ok (.getfield 129, 3) := by decide +kernel
theorem dX12_findJoin_452 : decode cX12_findJoin 452 = .ok (.bipush 48, 2) := by decide +kernel
theorem dX12_findJoin_454 : decode cX12_findJoin 454 = .ok (.iload_n 1, 1) := by decide +kernel
theorem dX12_findJoin_455 : decode cX12_findJoin 455 = .ok (.imul, 1) := by decide +kernel
theorem dX12_findJoin_456 : decode cX12_findJoin 456 = .ok (.iload 8, 2) := by decide +kernel
theorem dX12_findJoin_458 : decode cX12_findJoin 458 = .ok (.iadd, 1) := by decide +kernel
theorem dX12_findJoin_459 : decode cX12_findJoin 459 = .ok (.iload 9, 2) := by decide +kernel
theorem dX12_findJoin_461 : decode cX12_findJoin 461 = .ok (.bastore, 1) := by decide +kernel
theorem dX12_findJoin_462 : decode cX12_findJoin 462 = .ok (.iload 9, 2) := by decide +kernel
theorem dX12_findJoin_464 : decode cX12_findJoin 464 = .ok (.ifCond .eq 17, 3) := by decide +kernel
theorem dX12_findJoin_467 : decode cX12_findJoin 467 = .ok (.aload_n 0, 1) := by decide +kernel
theorem dX12_findJoin_468 : decode cX12_findJoin 468 = .ok (.getfield 138, 3) := by decide +kernel
theorem dX12_findJoin_471 : decode cX12_findJoin 471 = .ok (.iload_n 1, 1) := by decide +kernel
theorem dX12_findJoin_472 : decode cX12_findJoin 472 = .ok (.aload_n 0, 1) := by decide +kernel
theorem dX12_findJoin_473 : decode cX12_findJoin 473 = .ok (.getfield 138, 3) := by decide +kernel
theorem dX12_findJoin_476 : decode cX12_findJoin 476 = .ok (.iload_n 1, 1) := by decide +kernel
theorem dX12_findJoin_477 : decode cX12_findJoin 477 = .ok (.iaload, 1) := by decide +kernel
theorem dX12_findJoin_478 : decode cX12_findJoin 478 = .ok (.iconst 1, 1) := by decide +kernel
theorem dX12_findJoin_479 : decode cX12_findJoin 479 = .ok (.iadd, 1) := by decide +kernel
theorem dX12_findJoin_480 : decode cX12_findJoin 480 = .ok (.iastore, 1) := by decide +kernel
theorem dX12_findJoin_481 : decode cX12_findJoin 481 = .ok (.iinc 6 1, 3) := by decide +kernel
theorem dX12_findJoin_484 : decode cX12_findJoin 484 = .ok (.goto (-170), 3) := by decide +kernel
theorem dX12_findJoin_487 : decode cX12_findJoin 487 = .ok (.aload_n 0, 1) := by decide +kernel
theorem dX12_findJoin_488 : decode cX12_findJoin 488 = .ok (.iconst (-1), 1) := by decide +kernel
theorem dX12_findJoin_489 : decode cX12_findJoin 489 = .ok (.putfield 111, 3) := by decide +kernel
theorem dX12_findJoin_492 : decode cX12_findJoin 492 = .ok (.aload_n 0, 1) := by decide +kernel
theorem dX12_findJoin_493 : decode cX12_findJoin 493 = .ok (.iconst (-1), 1) := by decide +kernel
theorem dX12_findJoin_494 : decode cX12_findJoin 494 = .ok (.putfield 114, 3) := by decide +kernel
theorem dX12_findJoin_497 : decode cX12_findJoin 497 = .ok (.return_, 1) := by decide +kernel
theorem dX12_findJoins_0 : decode cX12_findJoins 0 = .ok (.aload_n 0, 1) := by decide +kernel
theorem dX12_findJoins_1 : decode cX12_findJoins 1 = .ok (.iconst 0, 1) := by decide +kernel
theorem dX12_findJoins_2 : decode cX12_findJoins 2 = .ok (.invokevirtual 357, 3) := by decide +kernel
theorem dX12_findJoins_5 : decode cX12_findJoins 5 = .ok (.iload_n 1, 1) := by decide +kernel
theorem dX12_findJoins_6 : decode cX12_findJoins 6 = .ok (.iconst 1, 1) := by decide +kernel
theorem dX12_findJoins_7 : decode cX12_findJoins 7 = .ok (.if_icmp .ne 8, 3) := by decide +kernel
theorem dX12_findJoins_10 : decode cX12_findJoins 10 = .ok (.aload_n 0, 1) := by decide +kernel
theorem dX12_findJoins_11 : decode cX12_findJoins 11 = .ok (.iconst 1, 1) := by decide +kernel
theorem dX12_findJoins_12 : decode cX12_findJoins 12 = .ok (.invokevirtual 357, 3) := by decide +kernel
theorem dX12_findJoins_15 : decode cX12_findJoins 15 = .ok (.return_, 1) := by decide +kernel
theorem dX12_join_0 : decode cX12_join 0 = .ok (.aload_n 0, 1) := by decide +kernel
theorem dX12_join_1 : decode cX12_join 1 = .ok (.iconst 0, 1) := by decide +kernel
theorem dX12_join_2 : decode cX12_join 2 = .ok (.putfield 188, 3) := by decide +kernel
theorem dX12_join_5 : decode cX12_join 5 = .ok (.aload_n 0, 1) := by decide +kernel
theorem dX12_join_6 : decode cX12_join 6 = .ok (.iload_n 1, 1) := by decide +kernel
theorem dX12_join_7 : decode cX12_join 7 = .ok (.iconst 0, 1) := by decide +kernel
theorem dX12_join_8 : decode cX12_join 8 = .ok (.iconst 1, 1) := by decide +kernel
theorem dX12_join_9 : decode cX12_join 9 = .ok (.invokevirtual 201, 3) := by decide +kernel
theorem dX12_join_12 : decode cX12_join 12 = .ok (.ifCond .eq 13, 3) := by decide +kernel
theorem dX12_join_15 : decode cX12_join 15 = .ok (.aload_n 0, 1) := by decide +kernel
theorem dX12_join_16 : decode cX12_join 16 = .ok (.iload_n 2, 1) := by decide +kernel
theorem dX12_join_17 : decode cX12_join 17 = .ok (.iconst 0, 1) := by decide +kernel
theorem dX12_join_18 : decode cX12_join 18 = .ok (.iconst 3, 1) := by decide +kernel
theorem dX12_join_19 : decode cX12_join 19 = .ok (.invokevirtual 201, 3) := by decide +kernel
theorem dX12_join_22 : decode cX12_join 22 = .ok (.ifCond .ne 5, 3) := by decide +kernel
theorem dX12_join_25 : decode cX12_join 25 = .ok (.iconst (-1), 1) := by decide +kernel
theorem dX12_join_26 : decode cX12_join 26 = .ok (.ireturn, 1) := by decide +kernel
theorem dX12_join_27 : decode cX12_join 27 = .ok (.aload_n 0, 1) := by decide +kernel
theorem dX12_join_28 : decode cX12_join 28 = .ok (.iload_n 1, 1) := by decide +kernel
theorem dX12_join_29 : decode cX12_join 29 = .ok (.invokevirtual 360, 3) := by decide +kernel
theorem dX12_join_32 : decode cX12_join 32 = .ok (.iload_n 2, 1) := by decide +kernel
theorem dX12_join_33 : decode cX12_join 33 = .ok (.ifCond .ne 10, 3) := by decide +kernel
theorem dX12_join_36 : decode cX12_join 36 = .ok (.aload_n 0, 1) := by decide +kernel
theorem dX12_join_37 : decode cX12_join 37 = .ok (.getfield 132, 3) := by decide +kernel
theorem dX12_join_40 : decode cX12_join 40 = .ok (.iload_n 1, 1) := by decide +kernel
theorem dX12_join_41 : decode cX12_join 41 = .ok (.iaload, 1) := by decide +kernel
theorem dX12_join_42 : decode cX12_join 42 = .ok (.ireturn, 1) := by decide +kernel
theorem dX12_join_43 : decode cX12_join 43 = .ok (.iload_n 2, 1) := by decide +kernel
theorem dX12_join_44 : decode cX12_join 44 = .ok (.iconst 1, 1) := by decide +kernel
theorem dX12_join_45 : decode cX12_join 45 = .ok (.if_icmp .ne 10, 3) := by decide +kernel
theorem dX12_join_48 : decode cX12_join 48 = .ok (.aload_n 0, 1) := by decide +kernel
theorem dX12_join_49 : decode cX12_join 49 = .ok (.getfield 135, 3) := by decide +kernel
theorem dX12_join_52 : decode cX12_join 52 = .ok (.iload_n 1, 1) := by decide +kernel
theorem dX12_join_53 : decode cX12_join 53 = .ok (.iaload, 1) := by decide +kernel
theorem dX12_join_54 : decode cX12_join 54 = .ok (.ireturn, 1) := by decide +kernel
theorem dX12_join_55 : decode cX12_join 55 = .ok (.iload_n 2, 1) := by decide +kernel
theorem dX12_join_56 : decode cX12_join 56 = .ok (.iconst 2, 1) := by decide +kernel
theorem dX12_join_57 : decode cX12_join 57 = .ok (.if_icmp .ne 10, 3) := by decide +kernel
theorem dX12_join_60 : decode cX12_join 60 = .ok (.aload_n 0, 1) := by decide +kernel
theorem dX12_join_61 : decode cX12_join 61 = .ok (.getfield 138, 3) := by decide +kernel
theorem dX12_join_64 : decode cX12_join 64 = .ok (.iload_n 1, 1) := by decide +kernel
theorem dX12_join_65 : decode cX12_join 65 = .ok (.iaload, 1) := by decide +kernel
theorem dX12_join_66 : decode cX12_join 66 = .ok (.ireturn, 1) := by decide +kernel
theorem dX12_join_67 : decode cX12_join 67 = .ok (.aload_n 0, 1) := by decide +kernel
theorem dX12_join_68 : decode cX12_join 68 = .ok (.iload_n 1, 1) := by decide +kernel
theorem dX12_join_69 : decode cX12_join 69 = .ok (.invokevirtual 363, 3) := by decide +kernel
theorem dX12_join_72 : decode cX12_join 72 = .ok (.aload_n 0, 1) := by decide +kernel
theorem dX12_join_73 : decode cX12_join 73 = .ok (.getfield 366, 3) := by decide +kernel
theorem dX12_join_76 : decode cX12_join 76 = .ok (.ireturn, 1) := by decide +kernel
theorem dX12_mate_0 : decode cX12_mate 0 = .ok (.aload_n 0, 1) := by decide +kernel
theorem dX12_mate_1 : decode cX12_mate 1 = .ok (.iconst 0, 1) := by decide +kernel
theorem dX12_mate_2 : decode cX12_mate 2 = .ok (.putfield 188, 3) := by decide +kernel
theorem dX12_mate_5 : decode cX12_mate 5 = .ok (.aload_n 0, 1) := by decide +kernel
theorem dX12_mate_6 : decode cX12_mate 6 = .ok (.iload_n 1, 1) := by decide +kernel
theorem dX12_mate_7 : decode cX12_mate 7 = .ok (.iconst 0, 1) := by decide +kernel
theorem dX12_mate_8 : decode cX12_mate 8 = .ok (.iconst 1, 1) := by decide +kernel
theorem dX12_mate_9 : decode cX12_mate 9 = .ok (.invokevirtual 201, 3) := by decide +kernel
theorem dX12_mate_12 : decode cX12_mate 12 = .ok (.ifCond .eq 11, 3) := by decide +kernel
theorem dX12_mate_15 : decode cX12_mate 15 = .ok (.aload_n 0, 1) := by decide +kernel
theorem dX12_mate_16 : decode cX12_mate 16 = .ok (.iload_n 2, 1) := by decide +kernel
theorem dX12_mate_17 : decode cX12_mate 17 = .ok (.invokevirtual 286, 3) := by decide +kernel
theorem dX12_mate_20 : decode cX12_mate 20 = .ok (.ifCond .ne 5, 3) := by decide +kernel
theorem dX12_mate_23 : decode cX12_mate 23 = .ok (.iconst (-1), 1) := by decide +kernel
theorem dX12_mate_24 : decode cX12_mate 24 = .ok (.ireturn, 1) := by decide +kernel
theorem dX12_mate_25 : decode cX12_mate 25 = .ok (.aload_n 0, 1) := by decide +kernel
theorem dX12_mate_26 : decode cX12_mate 26 = .ok (.iload_n 1, 1) := by decide +kernel
theorem dX12_mate_27 : decode cX12_mate 27 = .ok (.invokevirtual 360, 3) := by decide +kernel
theorem dX12_mate_30 : decode cX12_mate 30 = .ok (.aload_n 0, 1) := by decide +kernel
theorem dX12_mate_31 : decode cX12_mate 31 = .ok (.getfield 126, 3) := by decide +kernel
theorem dX12_mate_34 : decode cX12_mate 34 = .ok (.bipush 48, 2) := by decide +kernel
theorem dX12_mate_36 : decode cX12_mate 36 = .ok (.iload_n 1, 1) := by decide +kernel
theorem dX12_mate_37 : decode cX12_mate 37 = .ok (.imul, 1) := by decide +kernel
theorem dX12_mate_38 : decode cX12_mate 38 = .ok (.iload_n 2, 1) := by decide +kernel
theorem dX12_mate_39 : decode cX12_mate 39 = .ok (.iadd, 1) := by decide +kernel
theorem dX12_mate_40 : decode cX12_mate 40 = .ok (.iaload, 1) := by decide +kernel
theorem dX12_mate_41 : decode cX12_mate 41 = .ok (.ireturn, 1) := by decide +kernel
theorem dX12_forced_0 : decode cX12_forced 0 = .ok (.aload_n 0, 1) := by decide +kernel
theorem dX12_forced_1 : decode cX12_forced 1 = .ok (.iconst 0, 1) := by decide +kernel
theorem dX12_forced_2 : decode cX12_forced 2 = .ok (.putfield 188, 3) := by decide +kernel
theorem dX12_forced_5 : decode cX12_forced 5 = .ok (.aload_n 0, 1) := by decide +kernel
theorem dX12_forced_6 : decode cX12_forced 6 = .ok (.iload_n 1, 1) := by decide +kernel
theorem dX12_forced_7 : decode cX12_forced 7 = .ok (.iconst 0, 1) := by decide +kernel
theorem dX12_forced_8 : decode cX12_forced 8 = .ok (.iconst 1, 1) := by decide +kernel
theorem dX12_forced_9 : decode cX12_forced 9 = .ok (.invokevirtual 201, 3) := by decide +kernel
theorem dX12_forced_12 : decode cX12_forced 12 = .ok (.ifCond .eq 11, 3) := by decide +kernel
theorem dX12_forced_15 : decode cX12_forced 15 = .ok (.aload_n 0, 1) := by decide +kernel
theorem dX12_forced_16 : decode cX12_forced 16 = .ok (.iload_n 2, 1) := by decide +kernel
theorem dX12_forced_17 : decode cX12_forced 17 = .ok (.invokevirtual 286, 3) := by decide +kernel
theorem dX12_forced_20 : decode cX12_forced 20 = .ok (.ifCond .ne 5, 3) := by decide +kernel
theorem dX12_forced_23 : decode cX12_forced 23 = .ok (.iconst (-1), 1) := by decide +kernel
theorem dX12_forced_24 : decode cX12_forced 24 = .ok (.ireturn, 1) := by decide +kernel
theorem dX12_forced_25 : decode cX12_forced 25 = .ok (.aload_n 0, 1) := by decide +kernel
theorem dX12_forced_26 : decode cX12_forced 26 = .ok (.iload_n 1, 1) := by decide +kernel
theorem dX12_forced_27 : decode cX12_forced 27 = .ok (.invokevirtual 360, 3) := by decide +kernel
theorem dX12_forced_30 : decode cX12_forced 30 = .ok (.aload_n 0, 1) := by decide +kernel
theorem dX12_forced_31 : decode cX12_forced 31 = .ok (.getfield 126, 3) := by decide +kernel
theorem dX12_forced_34 : decode cX12_forced 34 = .ok (.bipush 48, 2) := by decide +kernel
theorem dX12_forced_36 : decode cX12_forced 36 = .ok (.iload_n 1, 1) := by decide +kernel
theorem dX12_forced_37 : decode cX12_forced 37 = .ok (.imul, 1) := by decide +kernel
theorem dX12_forced_38 : decode cX12_forced 38 = .ok (.iload_n 2, 1) := by decide +kernel
theorem dX12_forced_39 : decode cX12_forced 39 = .ok (.iadd, 1) := by decide +kernel
theorem dX12_forced_40 : decode cX12_forced 40 = .ok (.iaload, 1) := by decide +kernel
theorem dX12_forced_41 : decode cX12_forced 41 = .ok (.iconst (-1), 1) := by decide +kernel
theorem dX12_forced_42 : decode cX12_forced 42 = .ok (.if_icmp .ne 7, 3) := by decide +kernel
theorem dX12_forced_45 : decode cX12_forced 45 = .ok (.iconst (-1), 1) := by decide +kernel
theorem dX12_forced_46 : decode cX12_forced 46 = .ok (.goto 22, 3) := by decide +kernel
theorem dX12_forced_49 : decode cX12_forced 49 = .ok (.aload_n 0, 1) := by decide +kernel
theorem dX12_forced_50 : decode cX12_forced 50 = .ok (.getfield 129, 3) := by decide +kernel
theorem dX12_forced_53 : decode cX12_forced 53 = .ok (.bipush 48, 2) := by decide +kernel
theorem dX12_forced_55 : decode cX12_forced 55 = .ok (.iload_n 1, 1) := by decide +kernel
theorem dX12_forced_56 : decode cX12_forced 56 = .ok (.imul, 1) := by decide +kernel
theorem dX12_forced_57 : decode cX12_forced 57 = .ok (.iload_n 2, 1) := by decide +kernel
theorem dX12_forced_58 : decode cX12_forced 58 = .ok (.iadd, 1) := by decide +kernel
theorem dX12_forced_59 : decode cX12_forced 59 = .ok (.baload, 1) := by decide +kernel
theorem dX12_forced_60 : decode cX12_forced 60 = .ok (.ifCond .eq 7, 3) := by decide +kernel
theorem dX12_forced_63 : decode cX12_forced 63 = .ok (.iconst 1, 1) := by decide +kernel
theorem dX12_forced_64 : decode cX12_forced 64 = .ok (.goto 4, 3) := by decide +kernel
theorem dX12_forced_67 : decode cX12_forced 67 = .ok (.iconst 0, 1) := by decide +kernel
theorem dX12_forced_68 : decode cX12_forced 68 = .ok (.ireturn, 1) := by decide +kernel
theorem dX12_ones_0 : decode cX12_ones 0 = .ok (.iconst 0, 1) := by decide +kernel
theorem dX12_ones_1 : decode cX12_ones 1 = .ok (.istore_n 2, 1) := by decide +kernel
theorem dX12_ones_2 : decode cX12_ones 2 = .ok (.iload_n 1, 1) := by decide +kernel
theorem dX12_ones_3 : decode cX12_ones 3 = .ok (.istore_n 3, 1) := by decide +kernel
theorem dX12_ones_4 : decode cX12_ones 4 = .ok (.iload_n 3, 1) := by decide +kernel
theorem dX12_ones_5 : decode cX12_ones 5 = .ok (.ifCond .eq 16, 3) := by decide +kernel
theorem dX12_ones_8 : decode cX12_ones 8 = .ok (.iload_n 2, 1) := by decide +kernel
theorem dX12_ones_9 : decode cX12_ones 9 = .ok (.iconst 1, 1) := by decide +kernel
theorem dX12_ones_10 : decode cX12_ones 10 = .ok (.iadd, 1) := by decide +kernel
theorem dX12_ones_11 : decode cX12_ones 11 = .ok (.istore_n 2, 1) := by decide +kernel
theorem dX12_ones_12 : decode cX12_ones 12 = .ok (.iload_n 3, 1) := by decide +kernel
theorem dX12_ones_13 : decode cX12_ones 13 = .ok (.iload_n 3, 1) := by decide +kernel
theorem dX12_ones_14 : decode cX12_ones 14 = .ok (.iconst 1, 1) := by decide +kernel
theorem dX12_ones_15 : decode cX12_ones 15 = .ok (.isub, 1) := by decide +kernel
theorem dX12_ones_16 : decode cX12_ones 16 = .ok (.iand, 1) := by decide +kernel
theorem dX12_ones_17 : decode cX12_ones 17 = .ok (.istore_n 3, 1) := by decide +kernel
theorem dX12_ones_18 : decode cX12_ones 18 = .ok (.goto (-14), 3) := by decide +kernel
theorem dX12_ones_21 : decode cX12_ones 21 = .ok (.iload_n 2, 1) := by decide +kernel
theorem dX12_ones_22 : decode cX12_ones 22 = .ok (.ireturn, 1) := by decide +kernel
theorem dX12_findFrames_0 : decode cX12_findFrames 0 = .ok (.iconst 0, 1) := by decide +kernel
theorem dX12_findFrames_1 : decode cX12_findFrames 1 = .ok (.istore_n 2, 1) := by decide +kernel
theorem dX12_findFrames_2 : decode cX12_findFrames 2 = .ok (.iload_n 2, 1) := by decide +kernel
theorem dX12_findFrames_3 : decode cX12_findFrames 3 = .ok (.aload_n 0, 1) := by decide +kernel
theorem dX12_findFrames_4 : decode cX12_findFrames 4 = .ok (.getfield 191, 3) := by decide +kernel
theorem dX12_findFrames_7 : decode cX12_findFrames 7 = .ok (.if_icmp .ge 16, 3) := by decide +kernel
theorem dX12_findFrames_10 : decode cX12_findFrames 10 = .ok (.aload_n 0, 1) := by decide +kernel
theorem dX12_findFrames_11 : decode cX12_findFrames 11 = .ok (.getfield 141, 3) := by decide +kernel
theorem dX12_findFrames_14 : decode cX12_findFrames 14 = .ok (.iload_n 2, 1) := by decide +kernel
theorem dX12_findFrames_15 : decode cX12_findFrames 15 = .ok (.iconst 0, 1) := by decide +kernel
theorem dX12_findFrames_16 : decode cX12_findFrames 16 = .ok (.iastore, 1) := by decide +kernel
theorem dX12_findFrames_17 : decode cX12_findFrames 17 = .ok (.iinc 2 1, 3) := by decide +kernel
theorem dX12_findFrames_20 : decode cX12_findFrames 20 = .ok (.goto (-18), 3) := by decide +kernel
theorem dX12_findFrames_23 : decode cX12_findFrames 23 = .ok (.iconst 0, 1) := by decide +kernel
theorem dX12_findFrames_24 : decode cX12_findFrames 24 = .ok (.istore_n 2, 1) := by decide +kernel
theorem dX12_findFrames_25 : decode cX12_findFrames 25 = .ok (.iload_n 2, 1) := by decide +kernel
theorem dX12_findFrames_26 : decode cX12_findFrames 26 = .ok (.aload_n 0, 1) := by decide +kernel
theorem dX12_findFrames_27 : decode cX12_findFrames 27 = .ok (.getfield 198, 3) := by decide +kernel
theorem dX12_findFrames_30 : decode cX12_findFrames 30 = .ok (.if_icmp .ge 73, 3) := by decide +kernel
theorem dX12_findFrames_33 : decode cX12_findFrames 33 = .ok (.aload_n 0, 1) := by decide +kernel
theorem dX12_findFrames_34 : decode cX12_findFrames 34 = .ok (.getfield 126, 3) := by decide +kernel
theorem dX12_findFrames_37 : decode cX12_findFrames 37 = .ok (.bipush 48, 2) := by decide +kernel
theorem dX12_findFrames_39 : decode cX12_findFrames 39 = .ok (.iload_n 1, 1) := by decide +kernel
theorem dX12_findFrames_40 : decode cX12_findFrames 40 = .ok (.imul, 1) := by decide +kernel
theorem dX12_findFrames_41 : decode cX12_findFrames 41 = .ok (.iload_n 2, 1) := by decide +kernel
theorem dX12_findFrames_42 : decode cX12_findFrames 42 = .ok (.iadd, 1) := by decide +kernel
theorem dX12_findFrames_43 : decode cX12_findFrames 43 = .ok (.iaload, 1) := by decide +kernel
theorem dX12_findFrames_44 : decode cX12_findFrames 44 = .ok (.iconst (-1), 1) := by decide +kernel
theorem dX12_findFrames_45 : decode cX12_findFrames 45 = .ok (.if_icmp .eq 52, 3) := by decide +kernel
theorem dX12_findFrames_48 : decode cX12_findFrames 48 = .ok (.aload_n 0, 1) := by decide +kernel
theorem dX12_findFrames_49 : decode cX12_findFrames 49 = .ok (.iload_n 2, 1) := by decide +kernel
theorem dX12_findFrames_50 : decode cX12_findFrames 50 = .ok (.invokevirtual 286, 3) := by decide +kernel
theorem dX12_findFrames_53 : decode cX12_findFrames 53 = .ok (.ifCond .eq 44, 3) := by decide +kernel
theorem dX12_findFrames_56 : decode cX12_findFrames 56 = .ok (.aload_n 0, 1) := by decide +kernel
theorem dX12_findFrames_57 : decode cX12_findFrames 57 = .ok (.getfield 141, 3) := by decide +kernel
theorem dX12_findFrames_60 : decode cX12_findFrames 60 = .ok (.aload_n 0, 1) := by decide +kernel
theorem dX12_findFrames_61 : decode cX12_findFrames 61 = .ok (.getfield 42, 3) := by decide +kernel
theorem dX12_findFrames_64 : decode cX12_findFrames 64 = .ok (.iload_n 2, 1) := by decide +kernel
theorem dX12_findFrames_65 : decode cX12_findFrames 65 = .ok (.iaload, 1) := by decide +kernel
theorem dX12_findFrames_66 : decode cX12_findFrames 66 = .ok (.aload_n 0, 1) := by decide +kernel
theorem dX12_findFrames_67 : decode cX12_findFrames 67 = .ok (.getfield 141, 3) := by decide +kernel
theorem dX12_findFrames_70 : decode cX12_findFrames 70 = .ok (.aload_n 0, 1) := by decide +kernel
theorem dX12_findFrames_71 : decode cX12_findFrames 71 = .ok (.getfield 42, 3) := by decide +kernel
theorem dX12_findFrames_74 : decode cX12_findFrames 74 = .ok (.iload_n 2, 1) := by decide +kernel
theorem dX12_findFrames_75 : decode cX12_findFrames 75 = .ok (.iaload, 1) := by decide +kernel
theorem dX12_findFrames_76 : decode cX12_findFrames 76 = .ok (.iaload, 1) := by decide +kernel
theorem dX12_findFrames_77 : decode cX12_findFrames 77 = .ok (.iconst 1, 1) := by decide +kernel
theorem dX12_findFrames_78 : decode cX12_findFrames 78 = .ok (.aload_n 0, 1) := by decide +kernel
theorem dX12_findFrames_79 : decode cX12_findFrames 79 = .ok (.getfield 42, 3) := by decide +kernel
theorem dX12_findFrames_82 : decode cX12_findFrames 82 = .ok (.aload_n 0, 1) := by decide +kernel
theorem dX12_findFrames_83 : decode cX12_findFrames 83 = .ok (.getfield 126, 3) := by decide +kernel
theorem dX12_findFrames_86 : decode cX12_findFrames 86 = .ok (.bipush 48, 2) := by decide +kernel
theorem dX12_findFrames_88 : decode cX12_findFrames 88 = .ok (.iload_n 1, 1) := by decide +kernel
theorem dX12_findFrames_89 : decode cX12_findFrames 89 = .ok (.imul, 1) := by decide +kernel
theorem dX12_findFrames_90 : decode cX12_findFrames 90 = .ok (.iload_n 2, 1) := by decide +kernel
theorem dX12_findFrames_91 : decode cX12_findFrames 91 = .ok (.iadd, 1) := by decide +kernel
theorem dX12_findFrames_92 : decode cX12_findFrames 92 = .ok (.iaload, 1) := by decide +kernel
theorem dX12_findFrames_93 : decode cX12_findFrames 93 = .ok (.iaload, 1) := by decide +kernel
theorem dX12_findFrames_94 : decode cX12_findFrames 94 = .ok (.ishl, 1) := by decide +kernel
theorem dX12_findFrames_95 : decode cX12_findFrames 95 = .ok (.ior, 1) := by decide +kernel
theorem dX12_findFrames_96 : decode cX12_findFrames 96 = .ok (.iastore, 1) := by decide +kernel
theorem dX12_findFrames_97 : decode cX12_findFrames 97 = .ok (.iinc 2 1, 3) := by decide +kernel
theorem dX12_findFrames_100 : decode cX12_findFrames 100 = .ok (.goto (-75), 3) := by decide +kernel
theorem dX12_findFrames_103 : decode cX12_findFrames 103 = .ok (.aload_n 0, 1) := by decide +kernel
theorem dX12_findFrames_104 : decode cX12_findFrames 104 = .ok (.iconst 0, 1) := by decide +kernel
theorem dX12_findFrames_105 : decode cX12_findFrames 105 = .ok (.putfield 366, 3) := by decide +kernel
theorem dX12_findFrames_108 : decode cX12_findFrames 108 = .ok (.iconst 0, 1) := by decide +kernel
theorem dX12_findFrames_109 : decode cX12_findFrames 109 = .ok (.istore_n 2, 1) := by decide +kernel
theorem dX12_findFrames_110 : decode cX12_findFrames 110 = .ok (.iconst 0, 1) := by decide +kernel
theorem dX12_findFrames_111 : decode cX12_findFrames 111 = .ok (.istore_n 3, 1) := by decide +kernel
theorem dX12_findFrames_112 : decode cX12_findFrames 112 = .ok (.iload_n 3, 1) := by decide +kernel
theorem dX12_findFrames_113 : decode cX12_findFrames 113 = .ok (.aload_n 0, 1) := by decide +kernel
theorem dX12_findFrames_114 : decode cX12_findFrames 114 = .ok (.getfield 191, 3) := by decide +kernel
theorem dX12_findFrames_117 : decode cX12_findFrames 117 = .ok (.if_icmp .ge 119, 3) := by decide +kernel
theorem dX12_findFrames_120 : decode cX12_findFrames 120 = .ok (.aload_n 0, 1) := by decide +kernel
theorem dX12_findFrames_121 : decode cX12_findFrames 121 = .ok (.getfield 141, 3) := by decide +kernel
theorem dX12_findFrames_124 : decode cX12_findFrames 124 = .ok (.iload_n 3, 1) := by decide +kernel
theorem dX12_findFrames_125 : decode cX12_findFrames 125 = .ok (.iaload, 1) := by decide +kernel
theorem dX12_findFrames_126 : decode cX12_findFrames 126 = .ok (.ifCond .eq 104, 3) := by decide +kernel
theorem dX12_findFrames_129 : decode cX12_findFrames 129 = .ok (.iload_n 2, 1) := by decide +kernel
theorem dX12_findFrames_130 : decode cX12_findFrames 130 = .ok (.iload_n 3, 1) := by decide +kernel
theorem dX12_findFrames_131 : decode cX12_findFrames 131 = .ok (.ishr, 1) := by decide +kernel
theorem dX12_findFrames_132 : decode cX12_findFrames 132 = .ok (.iconst 1, 1) := by decide +kernel
theorem dX12_findFrames_133 : decode cX12_findFrames 133 = .ok (.iand, 1) := by decide +kernel
theorem dX12_findFrames_134 : decode cX12_findFrames 134 = .ok (.iconst 1, 1) := by decide +kernel
theorem dX12_findFrames_135 : decode cX12_findFrames 135 = .ok (.if_icmp .ne 6, 3) := by decide +kernel
theorem dX12_findFrames_138 : decode cX12_findFrames 138 = .ok (.goto 92, 3) := by decide +kernel
theorem dX12_findFrames_141 : decode cX12_findFrames 141 = .ok (.iconst 1, 1) := by decide +kernel
theorem dX12_findFrames_142 : decode cX12_findFrames 142 = .ok (.iload_n 3, 1) := by decide +kernel
theorem dX12_findFrames_143 : decode cX12_findFrames 143 = .ok (.ishl, 1) := by decide +kernel
theorem dX12_findFrames_144 : decode cX12_findFrames 144 = .ok (.istore 4, 2) := by decide +kernel
theorem dX12_findFrames_146 : decode cX12_findFrames 146 = .ok (.iconst 0, 1) := by decide +kernel
theorem dX12_findFrames_147 : decode cX12_findFrames 147 = .ok (.istore 5, 2) := by decide +kernel
theorem dX12_findFrames_149 : decode cX12_findFrames 149 = .ok (.iload 4, 2) := by decide +kernel
theorem dX12_findFrames_151 : decode cX12_findFrames 151 = .ok (.iload 5, 2) := by decide +kernel
theorem dX12_findFrames_153 : decode cX12_findFrames 153 = .ok (.if_icmp .eq 51, 3) := by decide +kernel
theorem dX12_findFrames_156 : decode cX12_findFrames 156 = .ok (.iload 4, 2) := by decide +kernel
theorem dX12_findFrames_158 : decode cX12_findFrames 158 = .ok (.istore 5, 2) := by decide +kernel
theorem dX12_findFrames_160 : decode cX12_findFrames 160 = .ok (.iconst 0, 1) := by decide +kernel
theorem dX12_findFrames_161 : decode cX12_findFrames 161 = .ok (.istore 6, 2) := by decide +kernel
theorem dX12_findFrames_163 : decode cX12_findFrames 163 = .ok (.iload 6, 2) := by decide +kernel
theorem dX12_findFrames_165 : decode cX12_findFrames 165 = .ok (.aload_n 0, 1) := by decide +kernel
theorem dX12_findFrames_166 : decode cX12_findFrames 166 = .ok (.getfield 191, 3) := by decide +kernel
theorem dX12_findFrames_169 : decode cX12_findFrames 169 = .ok (.if_icmp .ge 32, 3) := by decide +kernel
theorem dX12_findFrames_172 : decode cX12_findFrames 172 = .ok (.iload 4, 2) := by decide +kernel
theorem dX12_findFrames_174 : decode cX12_findFrames 174 = .ok (.iload 6, 2) := by decide +kernel
theorem dX12_findFrames_176 : decode cX12_findFrames 176 = .ok (.ishr, 1) := by decide +kernel
theorem dX12_findFrames_177 : decode cX12_findFrames 177 = .ok (.iconst 1, 1) := by decide +kernel
theorem dX12_findFrames_178 : decode cX12_findFrames 178 = .ok (.iand, 1) := by decide +kernel
theorem dX12_findFrames_179 : decode cX12_findFrames 179 = .ok (.iconst 1, 1) := by decide +kernel
theorem dX12_findFrames_180 : decode cX12_findFrames 180 = .ok (.if_icmp .ne 15, 3) := by decide +kernel
theorem dX12_findFrames_183 : decode cX12_findFrames 183 = .ok (.iload 4, 2) := by decide +kernel
theorem dX12_findFrames_185 : decode cX12_findFrames 185 = .ok (.aload_n 0, 1) := by decide +kernel
theorem dX12_findFrames_186 : decode cX12_findFrames 186 = .ok (.getfield 141, 3) := by decide +kernel
theorem dX12_findFrames_189 : decode cX12_findFrames 189 = .ok (.iload 6, 2) := by decide +kernel
theorem dX12_findFrames_191 : decode cX12_findFrames 191 = .ok (.iaload, 1) := by decide +kernel
theorem dX12_findFrames_192 : decode cX12_findFrames 192 = .ok (.ior, 1) := by decide +kernel
theorem dX12_findFrames_193 : decode cX12_findFrames 193 = .ok (.istore 4, 2) := by decide +kernel
theorem dX12_findFrames_195 : decode cX12_findFrames 195 = .ok (.iinc 6 1, 3) := by decide +kernel
theorem dX12_findFrames_198 : decode cX12_findFrames 198 = .ok (.goto (-35), 3) := by decide +kernel
theorem dX12_findFrames_201 : decode cX12_findFrames 201 = .ok (.goto (-52), 3) := by decide +kernel
theorem dX12_findFrames_204 : decode cX12_findFrames 204 = .ok (.iload_n 2, 1) := by decide +kernel
theorem dX12_findFrames_205 : decode cX12_findFrames 205 = .ok (.iload 4, 2) := by decide +kernel
theorem dX12_findFrames_207 : decode cX12_findFrames 207 = .ok (.ior, 1) := by decide +kernel
theorem dX12_findFrames_208 : decode cX12_findFrames 208 = .ok (.istore_n 2, 1) := by decide +kernel
theorem dX12_findFrames_209 : decode cX12_findFrames 209 = .ok (.aload_n 0, 1) := by decide +kernel
theorem dX12_findFrames_210 : decode cX12_findFrames 210 = .ok (.getfield 144, 3) := by decide +kernel
theorem dX12_findFrames_213 : decode cX12_findFrames 213 = .ok (.aload_n 0, 1) := by decide +kernel
theorem dX12_findFrames_214 : decode cX12_findFrames 214 = .ok (.getfield 366, 3) := by decide +kernel
theorem dX12_findFrames_217 : decode cX12_findFrames 217 = .ok (.iload 4, 2) := by decide +kernel
theorem dX12_findFrames_219 : decode cX12_findFrames 219 = .ok (.iastore, 1) := by decide +kernel
theorem dX12_findFrames_220 : decode cX12_findFrames 220 = .ok (.aload_n 0, 1) := by decide +kernel
theorem dX12_findFrames_221 : decode cX12_findFrames 221 = .ok (.aload_n 0, 1) := by decide +kernel
theorem dX12_findFrames_222 : decode cX12_findFrames 222 = .ok (.getfield 366, 3) := by decide +kernel
theorem dX12_findFrames_225 : decode cX12_findFrames 225 = .ok (.iconst 1, 1) := by decide +kernel
theorem dX12_findFrames_226 : decode cX12_findFrames 226 = .ok (.iadd, 1) := by decide +kernel
theorem dX12_findFrames_227 : decode cX12_findFrames 227 = .ok (.putfield 366, 3) := by decide +kernel
theorem dX12_findFrames_230 : decode cX12_findFrames 230 = .ok (.iinc 3 1, 3) := by decide +kernel
theorem dX12_findFrames_233 : decode cX12_findFrames 233 = .ok (.goto (-121), 3) := by decide +kernel
theorem dX12_findFrames_236 : decode cX12_findFrames 236 = .ok (.return_, 1) := by decide +kernel
theorem dX12_hasFrame_0 : decode cX12_hasFrame 0 = .ok (.aload_n 0, 1) := by decide +kernel
theorem dX12_hasFrame_1 : decode cX12_hasFrame 1 = .ok (.iload_n 1, 1) := by decide +kernel
theorem dX12_hasFrame_2 : decode cX12_hasFrame 2 = .ok (.iconst 0, 1) := by decide +kernel
theorem dX12_hasFrame_3 : decode cX12_hasFrame 3 = .ok (.iconst 1, 1) := by decide +kernel
theorem dX12_hasFrame_4 : decode cX12_hasFrame 4 = .ok (.invokevirtual 201, 3) := by decide +kernel
theorem dX12_hasFrame_7 : decode cX12_hasFrame 7 = .ok (.ifCond .ne 5, 3) := by decide +kernel
theorem dX12_hasFrame_10 : decode cX12_hasFrame 10 = .ok (.iconst 0, 1) := by decide +kernel
theorem dX12_hasFrame_11 : decode cX12_hasFrame 11 = .ok (.ireturn, 1) := by decide +kernel
theorem dX12_hasFrame_12 : decode cX12_hasFrame 12 = .ok (.aload_n 0, 1) := by decide +kernel
theorem dX12_hasFrame_13 : decode cX12_hasFrame 13 = .ok (.iload_n 1, 1) := by decide +kernel
theorem dX12_hasFrame_14 : decode cX12_hasFrame 14 = .ok (.invokevirtual 360, 3) := by decide +kernel
theorem dX12_hasFrame_17 : decode cX12_hasFrame 17 = .ok (.aload_n 0, 1) := by decide +kernel
theorem dX12_hasFrame_18 : decode cX12_hasFrame 18 = .ok (.iload_n 1, 1) := by decide +kernel
theorem dX12_hasFrame_19 : decode cX12_hasFrame 19 = .ok (.invokevirtual 363, 3) := by decide +kernel
theorem dX12_hasFrame_22 : decode cX12_hasFrame 22 = .ok (.aload_n 0, 1) := by decide +kernel
theorem dX12_hasFrame_23 : decode cX12_hasFrame 23 = .ok (.iload_n 2, 1) := by decide +kernel
theorem dX12_hasFrame_24 : decode cX12_hasFrame 24 = .ok (.iconst 0, 1) := by decide +kernel
theorem dX12_hasFrame_25 : decode cX12_hasFrame 25 = .ok (.aload_n 0, 1) := by decide +kernel
theorem dX12_hasFrame_26 : decode cX12_hasFrame 26 = .ok (.getfield 366, 3) := by decide +kernel
theorem dX12_hasFrame_29 : decode cX12_hasFrame 29 = .ok (.iconst 1, 1) := by decide +kernel
theorem dX12_hasFrame_30 : decode cX12_hasFrame 30 = .ok (.isub, 1) := by decide +kernel
theorem dX12_hasFrame_31 : decode cX12_hasFrame 31 = .ok (.invokevirtual 201, 3) := by decide +kernel
theorem dX12_hasFrame_34 : decode cX12_hasFrame 34 = .ok (.ireturn, 1) := by decide +kernel
theorem dX12_frameOf_0 : decode cX12_frameOf 0 = .ok (.aload_n 0, 1) := by decide +kernel
theorem dX12_frameOf_1 : decode cX12_frameOf 1 = .ok (.iconst 0, 1) := by decide +kernel
theorem dX12_frameOf_2 : decode cX12_frameOf 2 = .ok (.putfield 188, 3) := by decide +kernel
theorem dX12_frameOf_5 : decode cX12_frameOf 5 = .ok (.aload_n 0, 1) := by decide +kernel
theorem dX12_frameOf_6 : decode cX12_frameOf 6 = .ok (.iload_n 1, 1) := by decide +kernel
theorem dX12_frameOf_7 : decode cX12_frameOf 7 = .ok (.iconst 0, 1) := by decide +kernel
theorem dX12_frameOf_8 : decode cX12_frameOf 8 = .ok (.iconst 1, 1) := by decide +kernel
theorem dX12_frameOf_9 : decode cX12_frameOf 9 = .ok (.invokevirtual 201, 3) := by decide +kernel
theorem dX12_frameOf_12 : decode cX12_frameOf 12 = .ok (.ifCond .eq 11, 3) := by decide +kernel
theorem dX12_frameOf_15 : decode cX12_frameOf 15 = .ok (.aload_n 0, 1) := by decide +kernel
theorem dX12_frameOf_16 : decode cX12_frameOf 16 = .ok (.iload_n 2, 1) := by decide +kernel
theorem dX12_frameOf_17 : decode cX12_frameOf 17 = .ok (.invokevirtual 289, 3) := by decide +kernel
theorem dX12_frameOf_20 : decode cX12_frameOf 20 = .ok (.ifCond .ne 5, 3) := by decide +kernel
theorem dX12_frameOf_23 : decode cX12_frameOf 23 = .ok (.iconst (-1), 1) := by decide +kernel
theorem dX12_frameOf_24 : decode cX12_frameOf 24 = .ok (.ireturn, 1) := by decide +kernel
theorem dX12_frameOf_25 : decode cX12_frameOf 25 = .ok (.aload_n 0, 1) := by decide +kernel
theorem dX12_frameOf_26 : decode cX12_frameOf 26 = .ok (.iload_n 1, 1) := by decide +kernel
theorem dX12_frameOf_27 : decode cX12_frameOf 27 = .ok (.invokevirtual 360, 3) := by decide +kernel
theorem dX12_frameOf_30 : decode cX12_frameOf 30 = .ok (.aload_n 0, 1) := by decide +kernel
theorem dX12_frameOf_31 : decode cX12_frameOf 31 = .ok (.iload_n 1, 1) := by decide +kernel
theorem dX12_frameOf_32 : decode cX12_frameOf 32 = .ok (.invokevirtual 363, 3) := by decide +kernel
theorem dX12_frameOf_35 : decode cX12_frameOf 35 = .ok (.iconst 0, 1) := by decide +kernel
theorem dX12_frameOf_36 : decode cX12_frameOf 36 = .ok (.istore_n 3, 1) := by decide +kernel
theorem dX12_frameOf_37 : decode cX12_frameOf 37 = .ok (.iload_n 3, 1) := by decide +kernel
theorem dX12_frameOf_38 : decode cX12_frameOf 38 = .ok (.aload_n 0, 1) := by decide +kernel
theorem dX12_frameOf_39 : decode cX12_frameOf 39 = .ok (.getfield 366, 3) := by decide +kernel
theorem dX12_frameOf_42 : decode cX12_frameOf 42 = .ok (.if_icmp .ge 25, 3) := by decide +kernel
theorem dX12_frameOf_45 : decode cX12_frameOf 45 = .ok (.aload_n 0, 1) := by decide +kernel
theorem dX12_frameOf_46 : decode cX12_frameOf 46 = .ok (.getfield 144, 3) := by decide +kernel
theorem dX12_frameOf_49 : decode cX12_frameOf 49 = .ok (.iload_n 3, 1) := by decide +kernel
theorem dX12_frameOf_50 : decode cX12_frameOf 50 = .ok (.iaload, 1) := by decide +kernel
theorem dX12_frameOf_51 : decode cX12_frameOf 51 = .ok (.iload_n 2, 1) := by decide +kernel
theorem dX12_frameOf_52 : decode cX12_frameOf 52 = .ok (.ishr, 1) := by decide +kernel
theorem dX12_frameOf_53 : decode cX12_frameOf 53 = .ok (.iconst 1, 1) := by decide +kernel
theorem dX12_frameOf_54 : decode cX12_frameOf 54 = .ok (.iand, 1) := by decide +kernel
theorem dX12_frameOf_55 : decode cX12_frameOf 55 = .ok (.iconst 1, 1) := by decide +kernel
theorem dX12_frameOf_56 : decode cX12_frameOf 56 = .ok (.if_icmp .ne 5, 3) := by decide +kernel
theorem dX12_frameOf_59 : decode cX12_frameOf 59 = .ok (.iload_n 3, 1) := by decide +kernel
theorem dX12_frameOf_60 : decode cX12_frameOf 60 = .ok (.ireturn, 1) := by decide +kernel
theorem dX12_frameOf_61 : decode cX12_frameOf 61 = .ok (.iinc 3 1, 3) := by decide +kernel
theorem dX12_frameOf_64 : decode cX12_frameOf 64 = .ok (.goto (-27), 3) := by decide +kernel
theorem dX12_frameOf_67 : decode cX12_frameOf 67 = .ok (.iconst (-1), 1) := by decide +kernel
theorem dX12_frameOf_68 : decode cX12_frameOf 68 = .ok (.ireturn, 1) := by decide +kernel
theorem dX12_pairsIn_0 : decode cX12_pairsIn 0 = .ok (.iconst 0, 1) := by decide +kernel
theorem dX12_pairsIn_1 : decode cX12_pairsIn 1 = .ok (.istore_n 3, 1) := by decide +kernel
theorem dX12_pairsIn_2 : decode cX12_pairsIn 2 = .ok (.iconst 0, 1) := by decide +kernel
theorem dX12_pairsIn_3 : decode cX12_pairsIn 3 = .ok (.istore 4, 2) := by decide +kernel
theorem dX12_pairsIn_5 : decode cX12_pairsIn 5 = .ok (.iload 4, 2) := by decide +kernel
theorem dX12_pairsIn_7 : decode cX12_pairsIn 7 = .ok (.aload_n 0, 1) := by decide +kernel
theorem dX12_pairsIn_8 : decode cX12_pairsIn 8 = .ok (.getfield 198, 3) := by decide +kernel
theorem dX12_pairsIn_11 : decode cX12_pairsIn 11 = .ok (.if_icmp .ge 63, 3) := by decide +kernel
theorem dX12_pairsIn_14 : decode cX12_pairsIn 14 = .ok (.aload_n 0, 1) := by decide +kernel
theorem dX12_pairsIn_15 : decode cX12_pairsIn 15 = .ok (.iload 4, 2) := by decide +kernel
theorem dX12_pairsIn_17 : decode cX12_pairsIn 17 = .ok (.invokevirtual 286, 3) := by decide +kernel
theorem dX12_pairsIn_20 : decode cX12_pairsIn 20 = .ok (.ifCond .eq 48, 3) := by decide +kernel
theorem dX12_pairsIn_23 : decode cX12_pairsIn 23 = .ok (.aload_n 0, 1) := by decide +kernel
theorem dX12_pairsIn_24 : decode cX12_pairsIn 24 = .ok (.getfield 48, 3) := by decide +kernel
theorem dX12_pairsIn_27 : decode cX12_pairsIn 27 = .ok (.iload 4, 2) := by decide +kernel
theorem dX12_pairsIn_29 : decode cX12_pairsIn 29 = .ok (.iaload, 1) := by decide +kernel
theorem dX12_pairsIn_30 : decode cX12_pairsIn 30 = .ok (.ifCond .ne 38, 3) := by decide +kernel
theorem dX12_pairsIn_33 : decode cX12_pairsIn 33 = .ok (.aload_n 0, 1) := by decide +kernel
theorem dX12_pairsIn_34 : decode cX12_pairsIn 34 = .ok (.getfield 126, 3) := by decide +kernel
theorem dX12_pairsIn_37 : decode cX12_pairsIn 37 = .ok (.bipush 48, 2) := by decide +kernel
theorem dX12_pairsIn_39 : decode cX12_pairsIn 39 = .ok (.iload_n 1, 1) := by decide +kernel
theorem dX12_pairsIn_40 : decode cX12_pairsIn 40 = .ok (.imul, 1) := by decide +kernel
theorem dX12_pairsIn_41 : decode cX12_pairsIn 41 = .ok (.iload 4, 2) := by decide +kernel
theorem dX12_pairsIn_43 : decode cX12_pairsIn 43 = .ok (.iadd, 1) := by decide +kernel
theorem dX12_pairsIn_44 : decode cX12_pairsIn 44 = .ok (.iaload, 1) := by decide +kernel
theorem dX12_pairsIn_45 : decode cX12_pairsIn 45 = .ok (.iconst (-1), 1) := by decide +kernel
theorem dX12_pairsIn_46 : decode cX12_pairsIn 46 = .ok (.if_icmp .eq 22, 3) := by decide +kernel
theorem dX12_pairsIn_49 : decode cX12_pairsIn 49 = .ok (.iload_n 2, 1) := by decide +kernel
theorem dX12_pairsIn_50 : decode cX12_pairsIn 50 = .ok (.aload_n 0, 1) := by decide +kernel
theorem dX12_pairsIn_51 : decode cX12_pairsIn 51 = .ok (.getfield 42, 3) := by decide +kernel
theorem dX12_pairsIn_54 : decode cX12_pairsIn 54 = .ok (.iload 4, 2) := by decide +kernel
theorem dX12_pairsIn_56 : decode cX12_pairsIn 56 = .ok (.iaload, 1) := by decide +kernel
theorem dX12_pairsIn_57 : decode cX12_pairsIn 57 = .ok (.ishr, 1) := by decide +kernel
theorem dX12_pairsIn_58 : decode cX12_pairsIn 58 = .ok (.iconst 1, 1) := by decide +kernel
theorem dX12_pairsIn_59 : decode cX12_pairsIn 59 = .ok (.iand, 1) := by decide +kernel
theorem dX12_pairsIn_60 : decode cX12_pairsIn 60 = .ok (.iconst 1, 1) := by decide +kernel
theorem dX12_pairsIn_61 : decode cX12_pairsIn 61 = .ok (.if_icmp .ne 7, 3) := by decide +kernel
theorem dX12_pairsIn_64 : decode cX12_pairsIn 64 = .ok (.iload_n 3, 1) := by decide +kernel
theorem dX12_pairsIn_65 : decode cX12_pairsIn 65 = .ok (.iconst 1, 1) := by decide +kernel
theorem dX12_pairsIn_66 : decode cX12_pairsIn 66 = .ok (.iadd, 1) := by decide +kernel
theorem dX12_pairsIn_67 : decode cX12_pairsIn 67 = .ok (.istore_n 3, 1) := by decide +kernel
theorem dX12_pairsIn_68 : decode cX12_pairsIn 68 = .ok (.iinc 4 1, 3) := by decide +kernel
theorem dX12_pairsIn_71 : decode cX12_pairsIn 71 = .ok (.goto (-66), 3) := by decide +kernel
theorem dX12_pairsIn_74 : decode cX12_pairsIn 74 = .ok (.iload_n 3, 1) := by decide +kernel
theorem dX12_pairsIn_75 : decode cX12_pairsIn 75 = .ok (.ireturn, 1) := by decide +kernel
theorem dX12_props_0 : decode cX12_props 0 = .ok (.iconst 0, 1) := by decide +kernel
theorem dX12_props_1 : decode cX12_props 1 = .ok (.istore_n 3, 1) := by decide +kernel
theorem dX12_props_2 : decode cX12_props 2 = .ok (.iconst 0, 1) := by decide +kernel
theorem dX12_props_3 : decode cX12_props 3 = .ok (.istore 4, 2) := by decide +kernel
theorem dX12_props_5 : decode cX12_props 5 = .ok (.iload 4, 2) := by decide +kernel
theorem dX12_props_7 : decode cX12_props 7 = .ok (.aload_n 0, 1) := by decide +kernel
theorem dX12_props_8 : decode cX12_props 8 = .ok (.getfield 369, 3) := by decide +kernel
theorem dX12_props_11 : decode cX12_props 11 = .ok (.if_icmp .ge 62, 3) := by decide +kernel
theorem dX12_props_14 : decode cX12_props 14 = .ok (.iload_n 2, 1) := by decide +kernel
theorem dX12_props_15 : decode cX12_props 15 = .ok (.iload 4, 2) := by decide +kernel
theorem dX12_props_17 : decode cX12_props 17 = .ok (.ishr, 1) := by decide +kernel
theorem dX12_props_18 : decode cX12_props 18 = .ok (.iconst 1, 1) := by decide +kernel
theorem dX12_props_19 : decode cX12_props 19 = .ok (.iand, 1) := by decide +kernel
theorem dX12_props_20 : decode cX12_props 20 = .ok (.ifCond .ne 6, 3) := by decide +kernel
theorem dX12_props_23 : decode cX12_props 23 = .ok (.goto 44, 3) := by decide +kernel
theorem dX12_props_26 : decode cX12_props 26 = .ok (.aload_n 0, 1) := by decide +kernel
theorem dX12_props_27 : decode cX12_props 27 = .ok (.aload_n 0, 1) := by decide +kernel
theorem dX12_props_28 : decode cX12_props 28 = .ok (.getfield 150, 3) := by decide +kernel
theorem dX12_props_31 : decode cX12_props 31 = .ok (.iload 4, 2) := by decide +kernel
theorem dX12_props_33 : decode cX12_props 33 = .ok (.iaload, 1) := by decide +kernel
theorem dX12_props_34 : decode cX12_props 34 = .ok (.iload_n 2, 1) := by decide +kernel
theorem dX12_props_35 : decode cX12_props 35 = .ok (.iand, 1) := by decide +kernel
theorem dX12_props_36 : decode cX12_props 36 = .ok (.invokevirtual 372, 3) := by decide +kernel
theorem dX12_props_39 : decode cX12_props 39 = .ok (.istore 5, 2) := by decide +kernel
theorem dX12_props_41 : decode cX12_props 41 = .ok (.iload 5, 2) := by decide +kernel
theorem dX12_props_43 : decode cX12_props 43 = .ok (.iload_n 1, 1) := by decide +kernel
theorem dX12_props_44 : decode cX12_props 44 = .ok (.if_icmp .ge 23, 3) := by decide +kernel
theorem dX12_props_47 : decode cX12_props 47 = .ok (.iload 5, 2) := by decide +kernel
theorem dX12_props_49 : decode cX12_props 49 = .ok (.aload_n 0, 1) := by decide +kernel
theorem dX12_props_50 : decode cX12_props 50 = .ok (.aload_n 0, 1) := by decide +kernel
theorem dX12_props_51 : decode cX12_props 51 = .ok (.getfield 150, 3) := by decide +kernel
theorem dX12_props_54 : decode cX12_props 54 = .ok (.iload 4, 2) := by decide +kernel
theorem dX12_props_56 : decode cX12_props 56 = .ok (.iaload, 1) := by decide +kernel
theorem dX12_props_57 : decode cX12_props 57 = .ok (.invokevirtual 372, 3) := by decide +kernel
theorem dX12_props_60 : decode cX12_props 60 = .ok (.if_icmp .ge 7, 3) := by decide +kernel
theorem dX12_props_63 : decode cX12_props 63 = .ok (.iload_n 3, 1) := by decide +kernel
theorem dX12_props_64 : decode cX12_props 64 = .ok (.iconst 1, 1) := by decide +kernel
theorem dX12_props_65 : decode cX12_props 65 = .ok (.iadd, 1) := by decide +kernel
theorem dX12_props_66 : decode cX12_props 66 = .ok (.istore_n 3, 1) := by decide +kernel
theorem dX12_props_67 : decode cX12_props 67 = .ok (.iinc 4 1, 3) := by decide +kernel
theorem dX12_props_70 : decode cX12_props 70 = .ok (.goto (-65), 3) := by decide +kernel
theorem dX12_props_73 : decode cX12_props 73 = .ok (.iload_n 3, 1) := by decide +kernel
theorem dX12_props_74 : decode cX12_props 74 = .ok (.ireturn, 1) := by decide +kernel
theorem dX12_canCome_0 : decode cX12_canCome 0 = .ok (.iload_n 2, 1) := by decide +kernel
theorem dX12_canCome_1 : decode cX12_canCome 1 = .ok (.iload_n 1, 1) := by decide +kernel
theorem dX12_canCome_2 : decode cX12_canCome 2 = .ok (.ishr, 1) := by decide +kernel
theorem dX12_canCome_3 : decode cX12_canCome 3 = .ok (.iconst 1, 1) := by decide +kernel
theorem dX12_canCome_4 : decode cX12_canCome 4 = .ok (.iand, 1) := by decide +kernel
theorem dX12_canCome_5 : decode cX12_canCome 5 = .ok (.ifCond .ne 20, 3) := by decide +kernel
theorem dX12_canCome_8 : decode cX12_canCome 8 = .ok (.aload_n 0, 1) := by decide +kernel
theorem dX12_canCome_9 : decode cX12_canCome 9 = .ok (.getfield 153, 3) := by decide +kernel
theorem dX12_canCome_12 : decode cX12_canCome 12 = .ok (.iload_n 1, 1) := by decide +kernel
theorem dX12_canCome_13 : decode cX12_canCome 13 = .ok (.iaload, 1) := by decide +kernel
theorem dX12_canCome_14 : decode cX12_canCome 14 = .ok (.iload_n 2, 1) := by decide +kernel
theorem dX12_canCome_15 : decode cX12_canCome 15 = .ok (.iconst (-1), 1) := by decide +kernel
theorem dX12_canCome_16 : decode cX12_canCome 16 = .ok (.ixor, 1) := by decide +kernel
theorem dX12_canCome_17 : decode cX12_canCome 17 = .ok (.iand, 1) := by decide +kernel
theorem dX12_canCome_18 : decode cX12_canCome 18 = .ok (.ifCond .ne 7, 3) := by decide +kernel
theorem dX12_canCome_21 : decode cX12_canCome 21 = .ok (.iconst 1, 1) := by decide +kernel
theorem dX12_canCome_22 : decode cX12_canCome 22 = .ok (.goto 4, 3) := by decide +kernel
theorem dX12_canCome_25 : decode cX12_canCome 25 = .ok (.iconst 0, 1) := by decide +kernel
theorem dX12_canCome_26 : decode cX12_canCome 26 = .ok (.ireturn, 1) := by decide +kernel
theorem dX12_findRaisings_0 : decode cX12_findRaisings 0 = .ok (.aload_n 0, 1) := by decide +kernel
theorem dX12_findRaisings_1 : decode cX12_findRaisings 1 = .ok (.iconst 0, 1) := by decide +kernel
theorem dX12_findRaisings_2 : decode cX12_findRaisings 2 = .ok (.putfield 369, 3) := by decide +kernel
theorem dX12_findRaisings_5 : decode cX12_findRaisings 5 = .ok (.iconst 0, 1) := by decide +kernel
theorem dX12_findRaisings_6 : decode cX12_findRaisings 6 = .ok (.istore_n 3, 1) := by decide +kernel
theorem dX12_findRaisings_7 : decode cX12_findRaisings 7 = .ok (.iload_n 3, 1) := by decide +kernel
theorem dX12_findRaisings_8 : decode cX12_findRaisings 8 = .ok (.aload_n 0, 1) := by decide +kernel
theorem dX12_findRaisings_9 : decode cX12_findRaisings 9 = .ok (.getfield 191, 3) := by decide +kernel
theorem dX12_findRaisings_12 : decode cX12_findRaisings 12 = .ok (.if_icmp .ge 40, 3) := by decide +kernel
theorem dX12_findRaisings_15 : decode cX12_findRaisings 15 = .ok (.iload_n 2, 1) := by decide +kernel
theorem dX12_findRaisings_16 : decode cX12_findRaisings 16 = .ok (.iload_n 3, 1) := by decide +kernel
theorem dX12_findRaisings_17 : decode cX12_findRaisings 17 = .ok (.ishr, 1) := by decide +kernel
theorem dX12_findRaisings_18 : decode cX12_findRaisings 18 = .ok (.iconst 1, 1) := by decide +kernel
theorem dX12_findRaisings_19 : decode cX12_findRaisings 19 = .ok (.iand, 1) := by decide +kernel
theorem dX12_findRaisings_20 : decode cX12_findRaisings 20 = .ok (.ifCond .ne 6, 3) := by decide +kernel
theorem dX12_findRaisings_23 : decode cX12_findRaisings 23 = .ok (.goto 23, 3) := by decide +kernel
theorem dX12_findRaisings_26 : decode cX12_findRaisings 26 = .ok (.aload_n 0, 1) := by decide +kernel
theorem dX12_findRaisings_27 : decode cX12_findRaisings 27 = .ok (.getfield 147, 3) := by decide +kernel
theorem dX12_findRaisings_30 : decode cX12_findRaisings 30 = .ok (.aload_n 0, 1) := by decide +kernel
theorem dX12_findRaisings_31 : decode cX12_findRaisings 31 = .ok (.getfield 369, 3) := by decide +kernel
theorem dX12_findRaisings_34 : decode cX12_findRaisings 34 = .ok (.iload_n 3, 1) := by decide +kernel
theorem dX12_findRaisings_35 : decode cX12_findRaisings 35 = .ok (.iastore, 1) := by decide +kernel
theorem dX12_findRaisings_36 : decode cX12_findRaisings 36 = .ok (.aload_n 0, 1) := by decide +kernel
theorem dX12_findRaisings_37 : decode cX12_findRaisings 37 = .ok (.aload_n 0, 1) := by decide +kernel
theorem dX12_findRaisings_38 : decode cX12_findRaisings 38 = .ok (.getfield 369, 3) := by decide +kernel
theorem dX12_findRaisings_41 : decode cX12_findRaisings 41 = .ok (.iconst 1, 1) := by decide +kernel
theorem dX12_findRaisings_42 : decode cX12_findRaisings 42 = .ok (.iadd, 1) := by decide +kernel
theorem dX12_findRaisings_43 : decode cX12_findRaisings 43 = .ok (.putfield 369, 3) := by decide +kernel
theorem dX12_findRaisings_46 : decode cX12_findRaisings 46 = .ok (.iinc 3 1, 3) := by decide +kernel
theorem dX12_findRaisings_49 : decode cX12_findRaisings 49 = .ok (.goto (-42), 3) := by decide +kernel
theorem dX12_findRaisings_52 : decode cX12_findRaisings 52 = .ok (.iconst 0, 1) := by decide +kernel
theorem dX12_findRaisings_53 : decode cX12_findRaisings 53 = .ok (.istore_n 3, 1) := by decide +kernel
theorem dX12_findRaisings_54 : decode cX12_findRaisings 54 = .ok (.iload_n 3, 1) := by decide +kernel
theorem dX12_findRaisings_55 : decode cX12_findRaisings 55 = .ok (.aload_n 0, 1) := by decide +kernel
theorem dX12_findRaisings_56 : decode cX12_findRaisings 56 = .ok (.getfield 369, 3) := by decide +kernel
theorem dX12_findRaisings_59 : decode cX12_findRaisings 59 = .ok (.if_icmp .ge 133, 3) := by decide +kernel
theorem dX12_findRaisings_62 : decode cX12_findRaisings 62 = .ok (.aload_n 0, 1) := by decide +kernel
theorem dX12_findRaisings_63 : decode cX12_findRaisings 63 = .ok (.getfield 150, 3) := by decide +kernel
theorem dX12_findRaisings_66 : decode cX12_findRaisings 66 = .ok (.iload_n 3, 1) := by decide +kernel
theorem dX12_findRaisings_67 : decode cX12_findRaisings 67 = .ok (.iconst 0, 1) := by decide +kernel
theorem dX12_findRaisings_68 : decode cX12_findRaisings 68 = .ok (.iastore, 1) := by decide +kernel
theorem dX12_findRaisings_69 : decode cX12_findRaisings 69 = .ok (.aload_n 0, 1) := by decide +kernel
theorem dX12_findRaisings_70 : decode cX12_findRaisings 70 = .ok (.getfield 153, 3) := by decide +kernel
theorem dX12_findRaisings_73 : decode cX12_findRaisings 73 = .ok (.iload_n 3, 1) := by decide +kernel
theorem dX12_findRaisings_74 : decode cX12_findRaisings 74 = .ok (.iconst 0, 1) := by decide +kernel
theorem dX12_findRaisings_75 : decode cX12_findRaisings 75 = .ok (.iastore, 1) := by decide +kernel
theorem dX12_findRaisings_76 : decode cX12_findRaisings 76 = .ok (.iconst 0, 1) := by decide +kernel
theorem dX12_findRaisings_77 : decode cX12_findRaisings 77 = .ok (.istore 4, 2) := by decide +kernel
theorem dX12_findRaisings_79 : decode cX12_findRaisings 79 = .ok (.iload 4, 2) := by decide +kernel
theorem dX12_findRaisings_81 : decode cX12_findRaisings 81 = .ok (.aload_n 0, 1) := by decide +kernel
theorem dX12_findRaisings_82 : decode cX12_findRaisings 82 = .ok (.getfield 369, 3) := by decide +kernel
theorem dX12_findRaisings_85 : decode cX12_findRaisings 85 = .ok (.if_icmp .ge 101, 3) := by decide +kernel
theorem dX12_findRaisings_88 : decode cX12_findRaisings 88 = .ok (.aload_n 0, 1) := by decide +kernel
theorem dX12_findRaisings_89 : decode cX12_findRaisings 89 = .ok (.getfield 141, 3) := by decide +kernel
theorem dX12_findRaisings_92 : decode cX12_findRaisings 92 = .ok (.aload_n 0, 1) := by decide +kernel
theorem dX12_findRaisings_93 : decode cX12_findRaisings 93 = .ok (.getfield 147, 3) := by decide +kernel
theorem dX12_findRaisings_96 : decode cX12_findRaisings 96 = .ok (.iload_n 3, 1) := by decide +kernel
theorem dX12_findRaisings_97 : decode cX12_findRaisings 97 = .ok (.iaload, 1) := by decide +kernel
theorem dX12_findRaisings_98 : decode cX12_findRaisings 98 = .ok (.iaload, 1) := by decide +kernel
theorem dX12_findRaisings_99 : decode cX12_findRaisings 99 = .ok (.aload_n 0, 1) := by decide +kernel
theorem dX12_findRaisings_100 : decode cX12_findRaisings 100 = .ok (.getfield 147, 3) := by decide +kernel
theorem dX12_findRaisings_103 : decode cX12_findRaisings 103 = .ok (.iload 4, 2) := by decide +kernel
theorem dX12_findRaisings_105 : decode cX12_findRaisings 105 = .ok (.iaload, 1) := by decide +kernel
theorem dX12_findRaisings_106 : decode cX12_findRaisings 106 = .ok (.ishr, 1) := by decide +kernel
theorem dX12_findRaisings_107 : decode cX12_findRaisings 107 = .ok (.iconst 1, 1) := by decide +kernel
theorem dX12_findRaisings_108 : decode cX12_findRaisings 108 = .ok (.iand, 1) := by decide +kernel
theorem dX12_findRaisings_109 : decode cX12_findRaisings 109 = .ok (.ifCond .ne 6, 3) := by decide +kernel
theorem dX12_findRaisings_112 : decode cX12_findRaisings 112 = .ok (.goto 68, 3) := by decide +kernel
theorem dX12_findRaisings_115 : decode cX12_findRaisings 115 = .ok (.aload_n 0, 1) := by decide +kernel
theorem dX12_findRaisings_116 : decode cX12_findRaisings 116 = .ok (.getfield 150, 3) := by decide +kernel
theorem dX12_findRaisings_119 : decode cX12_findRaisings 119 = .ok (.iload_n 3, 1) := by decide +kernel
theorem dX12_findRaisings_120 : decode cX12_findRaisings 120 = .ok (.aload_n 0, 1) := by decide +kernel
theorem dX12_findRaisings_121 : decode cX12_findRaisings 121 = .ok (.getfield 150, 3) := by decide +kernel
theorem dX12_findRaisings_124 : decode cX12_findRaisings 124 = .ok (.iload_n 3, 1) := by decide +kernel
theorem dX12_findRaisings_125 : decode cX12_findRaisings 125 = .ok (.iaload, 1) := by decide +kernel
theorem dX12_findRaisings_126 : decode cX12_findRaisings 126 = .ok (.iconst 1, 1) := by decide +kernel
theorem dX12_findRaisings_127 : decode cX12_findRaisings 127 = .ok (.iload 4, 2) := by decide +kernel
theorem dX12_findRaisings_129 : decode cX12_findRaisings 129 = .ok (.ishl, 1) := by decide +kernel
theorem dX12_findRaisings_130 : decode cX12_findRaisings 130 = .ok (.ior, 1) := by decide +kernel
theorem dX12_findRaisings_131 : decode cX12_findRaisings 131 = .ok (.iastore, 1) := by decide +kernel
theorem dX12_findRaisings_132 : decode cX12_findRaisings 132 = .ok (.aload_n 0, 1) := by decide +kernel
theorem dX12_findRaisings_133 : decode cX12_findRaisings 133 = .ok (.iload_n 1, 1) := by decide +kernel
theorem dX12_findRaisings_134 : decode cX12_findRaisings 134 = .ok (.aload_n 0, 1) := by decide +kernel
theorem dX12_findRaisings_135 : decode cX12_findRaisings 135 = .ok (.getfield 13, 3) := by decide +kernel
theorem dX12_findRaisings_138 : decode cX12_findRaisings 138 = .ok (.aload_n 0, 1) := by decide +kernel
theorem dX12_findRaisings_139 : decode cX12_findRaisings 139 = .ok (.getfield 147, 3) := by decide +kernel
theorem dX12_findRaisings_142 : decode cX12_findRaisings 142 = .ok (.iload 4, 2) := by decide +kernel
theorem dX12_findRaisings_144 : decode cX12_findRaisings 144 = .ok (.iaload, 1) := by decide +kernel
theorem dX12_findRaisings_145 : decode cX12_findRaisings 145 = .ok (.iaload, 1) := by decide +kernel
theorem dX12_findRaisings_146 : decode cX12_findRaisings 146 = .ok (.aload_n 0, 1) := by decide +kernel
theorem dX12_findRaisings_147 : decode cX12_findRaisings 147 = .ok (.getfield 13, 3) := by decide +kernel
theorem dX12_findRaisings_150 : decode cX12_findRaisings 150 = .ok (.aload_n 0, 1) := by decide +kernel
theorem dX12_findRaisings_151 : decode cX12_findRaisings 151 = .ok (.getfield 147, 3) := by decide +kernel
theorem dX12_findRaisings_154 : decode cX12_findRaisings 154 = .ok (.iload_n 3, 1) := by decide +kernel
theorem dX12_findRaisings_155 : decode cX12_findRaisings 155 = .ok (.iaload, 1) := by decide +kernel
theorem dX12_findRaisings_156 : decode cX12_findRaisings 156 = .ok (.iaload, 1) := by decide +kernel
theorem dX12_findRaisings_157 : decode cX12_findRaisings 157 = .ok (.invokevirtual 283, 3) := by decide +kernel
theorem dX12_findRaisings_160 : decode cX12_findRaisings 160 = .ok (.ifCond .eq 20, 3) := by decide +kernel
theorem dX12_findRaisings_163 : decode cX12_findRaisings 163 = .ok (.aload_n 0, 1) := by decide +kernel
theorem dX12_findRaisings_164 : decode cX12_findRaisings 164 = .ok (.getfield 153, 3) := by decide +kernel
theorem dX12_findRaisings_167 : decode cX12_findRaisings 167 = .ok (.iload_n 3, 1) := by decide +kernel
theorem dX12_findRaisings_168 : decode cX12_findRaisings 168 = .ok (.aload_n 0, 1) := by decide +kernel
theorem dX12_findRaisings_169 : decode cX12_findRaisings 169 = .ok (.getfield 153, 3) := by decide +kernel
theorem dX12_findRaisings_172 : decode cX12_findRaisings 172 = .ok (.iload_n 3, 1) := by decide +kernel
theorem dX12_findRaisings_173 : decode cX12_findRaisings 173 = .ok (.iaload, 1) := by decide +kernel
theorem dX12_findRaisings_174 : decode cX12_findRaisings 174 = .ok (.iconst 1, 1) := by decide +kernel
theorem dX12_findRaisings_175 : decode cX12_findRaisings 175 = .ok (.iload 4, 2) := by decide +kernel
theorem dX12_findRaisings_177 : decode cX12_findRaisings 177 = .ok (.ishl, 1) := by decide +kernel
theorem dX12_findRaisings_178 : decode cX12_findRaisings 178 = .ok (.ior, 1) := by decide +kernel
theorem dX12_findRaisings_179 : decode cX12_findRaisings 179 = .ok (.iastore, 1) := by decide +kernel
theorem dX12_findRaisings_180 : decode cX12_findRaisings 180 = .ok (.iinc 4 1, 3) := by decide +kernel
theorem dX12_findRaisings_183 : decode cX12_findRaisings 183 = .ok (.goto (-104), 3) := by decide +kernel
theorem dX12_findRaisings_186 : decode cX12_findRaisings 186 = .ok (.iinc 3 1, 3) := by decide +kernel
theorem dX12_findRaisings_189 : decode cX12_findRaisings 189 = .ok (.goto (-135), 3) := by decide +kernel
theorem dX12_findRaisings_192 : decode cX12_findRaisings 192 = .ok (.iconst 1, 1) := by decide +kernel
theorem dX12_findRaisings_193 : decode cX12_findRaisings 193 = .ok (.aload_n 0, 1) := by decide +kernel
theorem dX12_findRaisings_194 : decode cX12_findRaisings 194 = .ok (.getfield 369, 3) := by decide +kernel
theorem dX12_findRaisings_197 : decode cX12_findRaisings 197 = .ok (.ishl, 1) := by decide +kernel
theorem dX12_findRaisings_198 : decode cX12_findRaisings 198 = .ok (.iconst 1, 1) := by decide +kernel
theorem dX12_findRaisings_199 : decode cX12_findRaisings 199 = .ok (.isub, 1) := by decide +kernel
theorem dX12_findRaisings_200 : decode cX12_findRaisings 200 = .ok (.istore_n 3, 1) := by decide +kernel
theorem dX12_findRaisings_201 : decode cX12_findRaisings 201 = .ok (.aload_n 0, 1) := by decide +kernel
theorem dX12_findRaisings_202 : decode cX12_findRaisings 202 = .ok (.getfield 75, 3) := by decide +kernel
theorem dX12_findRaisings_205 : decode cX12_findRaisings 205 = .ok (.bipush 50, 2) := by decide +kernel
theorem dX12_findRaisings_207 : decode cX12_findRaisings 207 = .ok (.iload_n 1, 1) := by decide +kernel
theorem dX12_findRaisings_208 : decode cX12_findRaisings 208 = .ok (.imul, 1) := by decide +kernel
theorem dX12_findRaisings_209 : decode cX12_findRaisings 209 = .ok (.iconst 3, 1) := by decide +kernel
theorem dX12_findRaisings_210 : decode cX12_findRaisings 210 = .ok (.iadd, 1) := by decide +kernel
theorem dX12_findRaisings_211 : decode cX12_findRaisings 211 = .ok (.iaload, 1) := by decide +kernel
theorem dX12_findRaisings_212 : decode cX12_findRaisings 212 = .ok (.istore 4, 2) := by decide +kernel
theorem dX12_findRaisings_214 : decode cX12_findRaisings 214 = .ok (.aload_n 0, 1) := by decide +kernel
theorem dX12_findRaisings_215 : decode cX12_findRaisings 215 = .ok (.getfield 157, 3) := by decide +kernel
theorem dX12_findRaisings_218 : decode cX12_findRaisings 218 = .ok (.iload_n 3, 1) := by decide +kernel
theorem dX12_findRaisings_219 : decode cX12_findRaisings 219 = .ok (.iconst 0, 1) := by decide +kernel
theorem dX12_findRaisings_220 : decode cX12_findRaisings 220 = .ok (.iastore, 1) := by decide +kernel
theorem dX12_findRaisings_221 : decode cX12_findRaisings 221 = .ok (.iload_n 3, 1) := by decide +kernel
theorem dX12_findRaisings_222 : decode cX12_findRaisings 222 = .ok (.iconst 1, 1) := by decide +kernel
theorem dX12_findRaisings_223 : decode cX12_findRaisings 223 = .ok (.isub, 1) := by decide +kernel
theorem dX12_findRaisings_224 : decode cX12_findRaisings 224 = .ok (.istore 5, 2) := by decide +kernel
theorem dX12_findRaisings_226 : decode cX12_findRaisings 226 = .ok (.iload 5, 2) := by decide +kernel
theorem dX12_findRaisings_228 : decode cX12_findRaisings 228 = .ok (.ifCond .lt 136, 3) := by decide +kernel
theorem dX12_findRaisings_231 : decode cX12_findRaisings 231 = .ok (.aload_n 0, 1) := by decide +kernel
theorem dX12_findRaisings_232 : decode cX12_findRaisings 232 = .ok (.getfield 157, 3) := by decide +kernel
theorem dX12_findRaisings_235 : decode cX12_findRaisings 235 = .ok (.iload 5, 2) := by decide +kernel
theorem dX12_findRaisings_237 : decode cX12_findRaisings 237 = .ok (.ldc_w 343, 3) := by decide +kernel
theorem dX12_findRaisings_240 : decode cX12_findRaisings 240 = .ok (.iastore, 1) := by decide +kernel
theorem dX12_findRaisings_241 : decode cX12_findRaisings 241 = .ok (.iconst 0, 1) := by decide +kernel
theorem dX12_findRaisings_242 : decode cX12_findRaisings 242 = .ok (.istore 6, 2) := by decide +kernel
theorem dX12_findRaisings_244 : decode cX12_findRaisings 244 = .ok (.iload 6, 2) := by decide +kernel
theorem dX12_findRaisings_246 : decode cX12_findRaisings 246 = .ok (.aload_n 0, 1) := by decide +kernel
theorem dX12_findRaisings_247 : decode cX12_findRaisings 247 = .ok (.getfield 369, 3) := by decide +kernel
theorem dX12_findRaisings_250 : decode cX12_findRaisings 250 = .ok (.if_icmp .ge 108, 3) := by decide +kernel
theorem dX12_findRaisings_253 : decode cX12_findRaisings 253 = .ok (.aload_n 0, 1) := by decide +kernel
theorem dX12_findRaisings_254 : decode cX12_findRaisings 254 = .ok (.iload 6, 2) := by decide +kernel
theorem dX12_findRaisings_256 : decode cX12_findRaisings 256 = .ok (.iload 5, 2) := by decide +kernel
theorem dX12_findRaisings_258 : decode cX12_findRaisings 258 = .ok (.invokevirtual 375, 3) := by decide +kernel
theorem dX12_findRaisings_261 : decode cX12_findRaisings 261 = .ok (.ifCond .eq 91, 3) := by decide +kernel
theorem dX12_findRaisings_264 : decode cX12_findRaisings 264 = .ok (.aload_n 0, 1) := by decide +kernel
theorem dX12_findRaisings_265 : decode cX12_findRaisings 265 = .ok (.getfield 157, 3) := by decide +kernel
theorem dX12_findRaisings_268 : decode cX12_findRaisings 268 = .ok (.iload 5, 2) := by decide +kernel
theorem dX12_findRaisings_270 : decode cX12_findRaisings 270 = .ok (.iconst 1, 1) := by decide +kernel
theorem dX12_findRaisings_271 : decode cX12_findRaisings 271 = .ok (.iload 6, 2) := by decide +kernel
theorem dX12_findRaisings_273 : decode cX12_findRaisings 273 = .ok (.ishl, 1) := by decide +kernel
theorem dX12_findRaisings_274 : decode cX12_findRaisings 274 = .ok (.ior, 1) := by decide +kernel
theorem dX12_findRaisings_275 : decode cX12_findRaisings 275 = .ok (.iaload, 1) := by decide +kernel
theorem dX12_findRaisings_276 : decode cX12_findRaisings 276 = .ok (.ldc_w 343, 3) := by decide +kernel
theorem dX12_findRaisings_279 : decode cX12_findRaisings 279 = .ok (.if_icmp .ne 6, 3) := by decide +kernel
theorem dX12_findRaisings_282 : decode cX12_findRaisings 282 = .ok (.goto 70, 3) := by decide +kernel
theorem dX12_findRaisings_285 : decode cX12_findRaisings 285 = .ok (.aload_n 0, 1) := by decide +kernel
theorem dX12_findRaisings_286 : decode cX12_findRaisings 286 = .ok (.iload 4, 2) := by decide +kernel
theorem dX12_findRaisings_288 : decode cX12_findRaisings 288 = .ok (.iload 5, 2) := by decide +kernel
theorem dX12_findRaisings_290 : decode cX12_findRaisings 290 = .ok (.iconst 1, 1) := by decide +kernel
theorem dX12_findRaisings_291 : decode cX12_findRaisings 291 = .ok (.iload 6, 2) := by decide +kernel
theorem dX12_findRaisings_293 : decode cX12_findRaisings 293 = .ok (.ishl, 1) := by decide +kernel
theorem dX12_findRaisings_294 : decode cX12_findRaisings 294 = .ok (.ior, 1) := by decide +kernel
theorem dX12_findRaisings_295 : decode cX12_findRaisings 295 = .ok (.invokevirtual 378, 3) := by decide +kernel
theorem dX12_findRaisings_298 : decode cX12_findRaisings 298 = .ok (.istore 7, 2) := by decide +kernel
theorem dX12_findRaisings_300 : decode cX12_findRaisings 300 = .ok (.aload_n 0, 1) := by decide +kernel
theorem dX12_findRaisings_301 : decode cX12_findRaisings 301 = .ok (.getfield 157, 3) := by decide +kernel
theorem dX12_findRaisings_304 : decode cX12_findRaisings 304 = .ok (.iload 5, 2) := by decide +kernel
theorem dX12_findRaisings_306 : decode cX12_findRaisings 306 = .ok (.iconst 1, 1) := by decide +kernel
theorem dX12_findRaisings_307 : decode cX12_findRaisings 307 = .ok (.iload 6, 2) := by decide +kernel
theorem dX12_findRaisings_309 : decode cX12_findRaisings 309 = .ok (.ishl, 1) := by decide +kernel
theorem dX12_findRaisings_310 : decode cX12_findRaisings 310 = .ok (.ior, 1) := by decide +kernel
theorem dX12_findRaisings_311 : decode cX12_findRaisings 311 = .ok (.iaload, 1) := by decide +kernel
theorem dX12_findRaisings_312 : decode cX12_findRaisings 312 = .ok (.iload 7, 2) := by decide +kernel
theorem dX12_findRaisings_314 : decode cX12_findRaisings 314 = .ok (.if_icmp .le 17, 3) := by decide +kernel
theorem dX12_findRaisings_317 : decode cX12_findRaisings 317 = .ok (.aload_n 0, 1) := by decide +kernel
theorem dX12_findRaisings_318 : decode cX12_findRaisings 318 = .ok (.getfield 157, 3) := by decide +kernel
theorem dX12_findRaisings_321 : decode cX12_findRaisings 321 = .ok (.iload 5, 2) := by decide +kernel
theorem dX12_findRaisings_323 : decode cX12_findRaisings 323 = .ok (.iconst 1, 1) := by decide +kernel
theorem dX12_findRaisings_324 : decode cX12_findRaisings 324 = .ok (.iload 6, 2) := by decide +kernel
theorem dX12_findRaisings_326 : decode cX12_findRaisings 326 = .ok (.ishl, 1) := by decide +kernel
theorem dX12_findRaisings_327 : decode cX12_findRaisings 327 = .ok (.ior, 1) := by decide +kernel
theorem dX12_findRaisings_328 : decode cX12_findRaisings 328 = .ok (.iaload, 1) := by decide +kernel
theorem dX12_findRaisings_329 : decode cX12_findRaisings 329 = .ok (.istore 7, 2) := by decide +kernel
theorem dX12_findRaisings_331 : decode cX12_findRaisings 331 = .ok (.iload 7, 2) := by decide +kernel
theorem dX12_findRaisings_333 : decode cX12_findRaisings 333 = .ok (.aload_n 0, 1) := by decide +kernel
theorem dX12_findRaisings_334 : decode cX12_findRaisings 334 = .ok (.getfield 157, 3) := by decide +kernel
theorem dX12_findRaisings_337 : decode cX12_findRaisings 337 = .ok (.iload 5, 2) := by decide +kernel
theorem dX12_findRaisings_339 : decode cX12_findRaisings 339 = .ok (.iaload, 1) := by decide +kernel
theorem dX12_findRaisings_340 : decode cX12_findRaisings 340 = .ok (.if_icmp .ge 12, 3) := by decide +kernel
theorem dX12_findRaisings_343 : decode cX12_findRaisings 343 = .ok (.aload_n 0, 1) := by decide +kernel
theorem dX12_findRaisings_344 : decode cX12_findRaisings 344 = .ok (.getfield 157, 3) := by decide +kernel
theorem dX12_findRaisings_347 : decode cX12_findRaisings 347 = .ok (.iload 5, 2) := by decide +kernel
theorem dX12_findRaisings_349 : decode cX12_findRaisings 349 = .ok (.iload 7, 2) := by decide +kernel
theorem dX12_findRaisings_351 : decode cX12_findRaisings 351 = .ok (.iastore, 1) := by decide +kernel
theorem dX12_findRaisings_352 : decode cX12_findRaisings 352 = .ok (.iinc 6 1, 3) := by decide +kernel
theorem dX12_findRaisings_355 : decode cX12_findRaisings 355 = .ok (.goto (-111), 3) := by decide +kernel
theorem dX12_findRaisings_358 : decode cX12_findRaisings 358 = .ok (.iinc 5 (-1), 3) := by decide +kernel
theorem dX12_findRaisings_361 : decode cX12_findRaisings 361 = .ok (.goto (-135), 3) := by decide +kernel
theorem dX12_findRaisings_364 : decode cX12_findRaisings 364 = .ok (.aload_n 0, 1) := by decide +kernel
theorem dX12_findRaisings_365 : decode cX12_findRaisings 365 = .ok (.getfield 160, 3) := by decide +kernel
theorem dX12_findRaisings_368 : decode cX12_findRaisings 368 = .ok (.iconst 0, 1) := by decide +kernel
theorem dX12_findRaisings_369 : decode cX12_findRaisings 369 = .ok (.lconst 1, 1) := by decide +kernel
theorem dX12_findRaisings_370 : decode cX12_findRaisings 370 = .ok (.lastore, 1) := by decide +kernel
theorem dX12_findRaisings_371 : decode cX12_findRaisings 371 = .ok (.iconst 1, 1) := by decide +kernel
theorem dX12_findRaisings_372 : decode cX12_findRaisings 372 = .ok (.istore 5, 2) := by decide +kernel
theorem dX12_findRaisings_374 : decode cX12_findRaisings 374 = .ok (.iload 5, 2) := by decide +kernel
theorem dX12_findRaisings_376 : decode cX12_findRaisings 376 = .ok (.iload_n 3, 1) := by decide +kernel
theorem dX12_findRaisings_377 : decode cX12_findRaisings 377 = .ok (.if_icmp .gt 93, 3) := by decide +kernel
theorem dX12_findRaisings_380 : decode cX12_findRaisings 380 = .ok (.aload_n 0, 1) := by decide +kernel
theorem dX12_findRaisings_381 : decode cX12_findRaisings 381 = .ok (.getfield 160, 3) := by decide +kernel
theorem dX12_findRaisings_384 : decode cX12_findRaisings 384 = .ok (.iload 5, 2) := by decide +kernel
theorem dX12_findRaisings_386 : decode cX12_findRaisings 386 = .ok (.lconst 0, 1) := by decide +kernel
theorem dX12_findRaisings_387 : decode cX12_findRaisings 387 = .ok (.lastore, 1) := by decide +kernel
theorem dX12_findRaisings_388 : decode cX12_findRaisings 388 = .ok (.iconst 0, 1) := by decide +kernel
theorem dX12_findRaisings_389 : decode cX12_findRaisings 389 = .ok (.istore 6, 2) := by decide +kernel
theorem dX12_findRaisings_391 : decode cX12_findRaisings 391 = .ok (.iload 6, 2) := by decide +kernel
theorem dX12_findRaisings_393 : decode cX12_findRaisings 393 = .ok (.aload_n 0, 1) := by decide +kernel
theorem dX12_findRaisings_394 : decode cX12_findRaisings 394 = .ok (.getfield 369, 3) := by decide +kernel
theorem dX12_findRaisings_397 : decode cX12_findRaisings 397 = .ok (.if_icmp .ge 67, 3) := by decide +kernel
theorem dX12_findRaisings_400 : decode cX12_findRaisings 400 = .ok (.iload 5, 2) := by decide +kernel
theorem dX12_findRaisings_402 : decode cX12_findRaisings 402 = .ok (.iload 6, 2) := by decide +kernel
theorem dX12_findRaisings_404 : decode cX12_findRaisings 404 = .ok (.ishr, 1) := by decide +kernel
theorem dX12_findRaisings_405 : decode cX12_findRaisings 405 = .ok (.iconst 1, 1) := by decide +kernel
theorem dX12_findRaisings_406 : decode cX12_findRaisings 406 = .ok (.iand, 1) := by decide +kernel
theorem dX12_findRaisings_407 : decode cX12_findRaisings 407 = .ok (.iconst 1, 1) := by decide +kernel
theorem dX12_findRaisings_408 : decode cX12_findRaisings 408 = .ok (.if_icmp .ne 50, 3) := by decide +kernel
theorem dX12_findRaisings_411 : decode cX12_findRaisings 411 = .ok (.aload_n 0, 1) := by decide +kernel
theorem dX12_findRaisings_412 : decode cX12_findRaisings 412 = .ok (.iload 6, 2) := by decide +kernel
theorem dX12_findRaisings_414 : decode cX12_findRaisings 414 = .ok (.iload 5, 2) := by decide +kernel
theorem dX12_findRaisings_416 : decode cX12_findRaisings 416 = .ok (.iconst 1, 1) := by decide +kernel
theorem dX12_findRaisings_417 : decode cX12_findRaisings 417 = .ok (.iload 6, 2) := by decide +kernel
theorem dX12_findRaisings_419 : decode cX12_findRaisings 419 = .ok (.ishl, 1) := by decide +kernel
theorem dX12_findRaisings_420 : decode cX12_findRaisings 420 = .ok (.iconst (-1), 1) := by decide +kernel
theorem dX12_findRaisings_421 : decode cX12_findRaisings 421 = .ok (.ixor, 1) := by decide +kernel
theorem dX12_findRaisings_422 : decode cX12_findRaisings 422 = .ok (.iand, 1) := by decide +kernel
theorem dX12_findRaisings_423 : decode cX12_findRaisings 423 = .ok (.invokevirtual 375, 3) := by decide +kernel
theorem dX12_findRaisings_426 : decode cX12_findRaisings 426 = .ok (.ifCond .eq 32, 3) := by decide +kernel
theorem dX12_findRaisings_429 : decode cX12_findRaisings 429 = .ok (.aload_n 0, 1) := by decide +kernel
theorem dX12_findRaisings_430 : decode cX12_findRaisings 430 = .ok (.getfield 160, 3) := by decide +kernel
theorem dX12_findRaisings_433 : decode cX12_findRaisings 433 = .ok (.iload 5, 2) := by decide +kernel
theorem dX12_findRaisings_435 : decode cX12_findRaisings 435 = .ok (.aload_n 0, 1) := by decide +kernel
theorem dX12_findRaisings_436 : decode cX12_findRaisings 436 = .ok (.getfield 160, 3) := by decide +kernel
theorem dX12_findRaisings_439 : decode cX12_findRaisings 439 = .ok (.iload 5, 2) := by decide +kernel
theorem dX12_findRaisings_441 : decode cX12_findRaisings 441 = .ok (.laload, 1) := by decide +kernel
theorem dX12_findRaisings_442 : decode cX12_findRaisings 442 = .ok (.aload_n 0, 1) := by decide +kernel
theorem dX12_findRaisings_443 : decode cX12_findRaisings 443 = .ok (.getfield 160, 3) := by decide +kernel
theorem dX12_findRaisings_446 : decode cX12_findRaisings 446 = .ok (.iload 5, 2) := by decide +kernel
theorem dX12_findRaisings_448 : decode cX12_findRaisings 448 = .ok (.iconst 1, 1) := by decide +kernel
theorem dX12_findRaisings_449 : decode cX12_findRaisings 449 = .ok (.iload 6, 2) := by decide +kernel
theorem dX12_findRaisings_451 : decode cX12_findRaisings 451 = .ok (.ishl, 1) := by decide +kernel
theorem dX12_findRaisings_452 : decode cX12_findRaisings 452 = .ok (.iconst (-1), 1) := by decide +kernel
theorem dX12_findRaisings_453 : decode cX12_findRaisings 453 = .ok (.ixor, 1) := by decide +kernel
theorem dX12_findRaisings_454 : decode cX12_findRaisings 454 = .ok (.iand, 1) := by decide +kernel
theorem dX12_findRaisings_455 : decode cX12_findRaisings 455 = .ok (.laload, 1) := by decide +kernel
theorem dX12_findRaisings_456 : decode cX12_findRaisings 456 = .ok (.ladd, 1) := by decide +kernel
theorem dX12_findRaisings_457 : decode cX12_findRaisings 457 = .ok (.lastore, 1) := by decide +kernel
theorem dX12_findRaisings_458 : decode cX12_findRaisings 458 = .ok (.iinc 6 1, 3) := by decide +kernel
theorem dX12_findRaisings_461 : decode cX12_findRaisings 461 = .ok (.goto (-70), 3) := by decide +kernel
theorem dX12_findRaisings_464 : decode cX12_findRaisings 464 = .ok (.iinc 5 1, 3) := by decide +kernel
theorem dX12_findRaisings_467 : decode cX12_findRaisings 467 = .ok (.goto (-93), 3) := by decide +kernel
theorem dX12_findRaisings_470 : decode cX12_findRaisings 470 = .ok (.return_, 1) := by decide +kernel
theorem dX12_frame_0 : decode cX12_frame 0 = .ok (.aload_n 0, 1) := by decide +kernel
theorem dX12_frame_1 : decode cX12_frame 1 = .ok (.iconst 0, 1) := by decide +kernel
theorem dX12_frame_2 : decode cX12_frame 2 = .ok (.putfield 188, 3) := by decide +kernel
theorem dX12_frame_5 : decode cX12_frame 5 = .ok (.aload_n 0, 1) := by decide +kernel
theorem dX12_frame_6 : decode cX12_frame 6 = .ok (.iload_n 3, 1) := by decide +kernel
theorem dX12_frame_7 : decode cX12_frame 7 = .ok (.iconst 0, 1) := by decide +kernel
theorem dX12_frame_8 : decode cX12_frame 8 = .ok (.iconst 3, 1) := by decide +kernel
theorem dX12_frame_9 : decode cX12_frame 9 = .ok (.invokevirtual 201, 3) := by decide +kernel
theorem dX12_frame_12 : decode cX12_frame 12 = .ok (.ifCond .eq 12, 3) := by decide +kernel
theorem dX12_frame_15 : decode cX12_frame 15 = .ok (.aload_n 0, 1) := by decide +kernel
theorem dX12_frame_16 : decode cX12_frame 16 = .ok (.iload_n 1, 1) := by decide +kernel
theorem dX12_frame_17 : decode cX12_frame 17 = .ok (.iload_n 2, 1) := by decide +kernel
theorem dX12_frame_18 : decode cX12_frame 18 = .ok (.invokevirtual 381, 3) := by decide +kernel
theorem dX12_frame_21 : decode cX12_frame 21 = .ok (.ifCond .ne 5, 3) := by decide +kernel
theorem dX12_frame_24 : decode cX12_frame 24 = .ok (.iconst (-1), 1) := by decide +kernel
theorem dX12_frame_25 : decode cX12_frame 25 = .ok (.ireturn, 1) := by decide +kernel
theorem dX12_frame_26 : decode cX12_frame 26 = .ok (.iload_n 3, 1) := by decide +kernel
theorem dX12_frame_27 : decode cX12_frame 27 = .ok (.ifCond .ne 10, 3) := by decide +kernel
theorem dX12_frame_30 : decode cX12_frame 30 = .ok (.aload_n 0, 1) := by decide +kernel
theorem dX12_frame_31 : decode cX12_frame 31 = .ok (.getfield 144, 3) := by decide +kernel
theorem dX12_frame_34 : decode cX12_frame 34 = .ok (.iload_n 2, 1) := by decide +kernel
theorem dX12_frame_35 : decode cX12_frame 35 = .ok (.iaload, 1) := by decide +kernel
theorem dX12_frame_36 : decode cX12_frame 36 = .ok (.ireturn, 1) := by decide +kernel
theorem dX12_frame_37 : decode cX12_frame 37 = .ok (.iload_n 3, 1) := by decide +kernel
theorem dX12_frame_38 : decode cX12_frame 38 = .ok (.iconst 1, 1) := by decide +kernel
theorem dX12_frame_39 : decode cX12_frame 39 = .ok (.if_icmp .ne 15, 3) := by decide +kernel
theorem dX12_frame_42 : decode cX12_frame 42 = .ok (.aload_n 0, 1) := by decide +kernel
theorem dX12_frame_43 : decode cX12_frame 43 = .ok (.iload_n 1, 1) := by decide +kernel
theorem dX12_frame_44 : decode cX12_frame 44 = .ok (.aload_n 0, 1) := by decide +kernel
theorem dX12_frame_45 : decode cX12_frame 45 = .ok (.getfield 144, 3) := by decide +kernel
theorem dX12_frame_48 : decode cX12_frame 48 = .ok (.iload_n 2, 1) := by decide +kernel
theorem dX12_frame_49 : decode cX12_frame 49 = .ok (.iaload, 1) := by decide +kernel
theorem dX12_frame_50 : decode cX12_frame 50 = .ok (.invokevirtual 384, 3) := by decide +kernel
theorem dX12_frame_53 : decode cX12_frame 53 = .ok (.ireturn, 1) := by decide +kernel
theorem dX12_frame_54 : decode cX12_frame 54 = .ok (.aload_n 0, 1) := by decide +kernel
theorem dX12_frame_55 : decode cX12_frame 55 = .ok (.iload_n 1, 1) := by decide +kernel
theorem dX12_frame_56 : decode cX12_frame 56 = .ok (.aload_n 0, 1) := by decide +kernel
theorem dX12_frame_57 : decode cX12_frame 57 = .ok (.getfield 144, 3) := by decide +kernel
theorem dX12_frame_60 : decode cX12_frame 60 = .ok (.iload_n 2, 1) := by decide +kernel
theorem dX12_frame_61 : decode cX12_frame 61 = .ok (.iaload, 1) := by decide +kernel
theorem dX12_frame_62 : decode cX12_frame 62 = .ok (.invokevirtual 387, 3) := by decide +kernel
theorem dX12_frame_65 : decode cX12_frame 65 = .ok (.aload_n 0, 1) := by decide +kernel
theorem dX12_frame_66 : decode cX12_frame 66 = .ok (.getfield 157, 3) := by decide +kernel
theorem dX12_frame_69 : decode cX12_frame 69 = .ok (.iconst 0, 1) := by decide +kernel
theorem dX12_frame_70 : decode cX12_frame 70 = .ok (.iaload, 1) := by decide +kernel
theorem dX12_frame_71 : decode cX12_frame 71 = .ok (.ldc_w 343, 3) := by decide +kernel
theorem dX12_frame_74 : decode cX12_frame 74 = .ok (.if_icmp .ge 7, 3) := by decide +kernel
theorem dX12_frame_77 : decode cX12_frame 77 = .ok (.iconst 1, 1) := by decide +kernel
theorem dX12_frame_78 : decode cX12_frame 78 = .ok (.goto 4, 3) := by decide +kernel
theorem dX12_frame_81 : decode cX12_frame 81 = .ok (.iconst 0, 1) := by decide +kernel
theorem dX12_frame_82 : decode cX12_frame 82 = .ok (.istore 4, 2) := by decide +kernel
theorem dX12_frame_84 : decode cX12_frame 84 = .ok (.iload_n 3, 1) := by decide +kernel
theorem dX12_frame_85 : decode cX12_frame 85 = .ok (.iconst 3, 1) := by decide +kernel
theorem dX12_frame_86 : decode cX12_frame 86 = .ok (.if_icmp .ne 16, 3) := by decide +kernel
theorem dX12_frame_89 : decode cX12_frame 89 = .ok (.iload 4, 2) := by decide +kernel
theorem dX12_frame_91 : decode cX12_frame 91 = .ok (.ifCond .eq 7, 3) := by decide +kernel
theorem dX12_frame_94 : decode cX12_frame 94 = .ok (.iconst 1, 1) := by decide +kernel
theorem dX12_frame_95 : decode cX12_frame 95 = .ok (.goto 22, 3) := by decide +kernel
theorem dX12_frame_98 : decode cX12_frame 98 = .ok (.iconst 0, 1) := by decide +kernel
theorem dX12_frame_99 : decode cX12_frame 99 = .ok (.goto 18, 3) := by decide +kernel
theorem dX12_frame_102 : decode cX12_frame 102 = .ok (.iload 4, 2) := by decide +kernel
theorem dX12_frame_104 : decode cX12_frame 104 = .ok (.ifCond .eq 12, 3) := by decide +kernel
theorem dX12_frame_107 : decode cX12_frame 107 = .ok (.aload_n 0, 1) := by decide +kernel
theorem dX12_frame_108 : decode cX12_frame 108 = .ok (.getfield 157, 3) := by decide +kernel
theorem dX12_frame_111 : decode cX12_frame 111 = .ok (.iconst 0, 1) := by decide +kernel
theorem dX12_frame_112 : decode cX12_frame 112 = .ok (.iaload, 1) := by decide +kernel
theorem dX12_frame_113 : decode cX12_frame 113 = .ok (.goto 4, 3) := by decide +kernel
theorem dX12_frame_116 : decode cX12_frame 116 = .ok (.iconst (-1), 1) := by decide +kernel
theorem dX12_frame_117 : decode cX12_frame 117 = .ok (.ireturn, 1) := by decide +kernel
theorem dX12_orders_0 : decode cX12_orders 0 = .ok (.aload_n 0, 1) := by decide +kernel
theorem dX12_orders_1 : decode cX12_orders 1 = .ok (.iconst 0, 1) := by decide +kernel
theorem dX12_orders_2 : decode cX12_orders 2 = .ok (.putfield 188, 3) := by decide +kernel
theorem dX12_orders_5 : decode cX12_orders 5 = .ok (.aload_n 0, 1) := by decide +kernel
theorem dX12_orders_6 : decode cX12_orders 6 = .ok (.iload_n 1, 1) := by decide +kernel
theorem dX12_orders_7 : decode cX12_orders 7 = .ok (.iload_n 2, 1) := by decide +kernel
theorem dX12_orders_8 : decode cX12_orders 8 = .ok (.invokevirtual 381, 3) := by decide +kernel
theorem dX12_orders_11 : decode cX12_orders 11 = .ok (.ifCond .ne 7, 3) := by decide +kernel
theorem dX12_orders_14 : decode cX12_orders 14 = .ok (.ldc2_w 326, 3) := by decide +kernel
theorem dX12_orders_17 : decode cX12_orders 17 = .ok (.lreturn, 1) := by decide +kernel
theorem dX12_orders_18 : decode cX12_orders 18 = .ok (.aload_n 0, 1) := by decide +kernel
theorem dX12_orders_19 : decode cX12_orders 19 = .ok (.iload_n 1, 1) := by decide +kernel
theorem dX12_orders_20 : decode cX12_orders 20 = .ok (.aload_n 0, 1) := by decide +kernel
theorem dX12_orders_21 : decode cX12_orders 21 = .ok (.getfield 144, 3) := by decide +kernel
theorem dX12_orders_24 : decode cX12_orders 24 = .ok (.iload_n 2, 1) := by decide +kernel
theorem dX12_orders_25 : decode cX12_orders 25 = .ok (.iaload, 1) := by decide +kernel
theorem dX12_orders_26 : decode cX12_orders 26 = .ok (.invokevirtual 387, 3) := by decide +kernel
theorem dX12_orders_29 : decode cX12_orders 29 = .ok (.aload_n 0, 1) := by decide +kernel
theorem dX12_orders_30 : decode cX12_orders 30 = .ok (.getfield 160, 3) := by decide +kernel
theorem dX12_orders_33 : decode cX12_orders 33 = .ok (.iconst 1, 1) := by decide +kernel
theorem dX12_orders_34 : decode cX12_orders 34 = .ok (.aload_n 0, 1) := by decide +kernel
theorem dX12_orders_35 : decode cX12_orders 35 = .ok (.getfield 369, 3) := by decide +kernel
theorem dX12_orders_38 : decode cX12_orders 38 = .ok (.ishl, 1) := by decide +kernel
theorem dX12_orders_39 : decode cX12_orders 39 = .ok (.iconst 1, 1) := by decide +kernel
theorem dX12_orders_40 : decode cX12_orders 40 = .ok (.isub, 1) := by decide +kernel
theorem dX12_orders_41 : decode cX12_orders 41 = .ok (.laload, 1) := by decide +kernel
theorem dX12_orders_42 : decode cX12_orders 42 = .ok (.lreturn, 1) := by decide +kernel
theorem dX12_raised_0 : decode cX12_raised 0 = .ok (.aload_n 0, 1) := by decide +kernel
theorem dX12_raised_1 : decode cX12_raised 1 = .ok (.iconst 0, 1) := by decide +kernel
theorem dX12_raised_2 : decode cX12_raised 2 = .ok (.putfield 188, 3) := by decide +kernel
theorem dX12_raised_5 : decode cX12_raised 5 = .ok (.aload_n 0, 1) := by decide +kernel
theorem dX12_raised_6 : decode cX12_raised 6 = .ok (.iload_n 1, 1) := by decide +kernel
theorem dX12_raised_7 : decode cX12_raised 7 = .ok (.iload_n 2, 1) := by decide +kernel
theorem dX12_raised_8 : decode cX12_raised 8 = .ok (.invokevirtual 381, 3) := by decide +kernel
theorem dX12_raised_11 : decode cX12_raised 11 = .ok (.ifCond .ne 5, 3) := by decide +kernel
theorem dX12_raised_14 : decode cX12_raised 14 = .ok (.iconst (-1), 1) := by decide +kernel
theorem dX12_raised_15 : decode cX12_raised 15 = .ok (.ireturn, 1) := by decide +kernel
theorem dX12_raised_16 : decode cX12_raised 16 = .ok (.aload_n 0, 1) := by decide +kernel
theorem dX12_raised_17 : decode cX12_raised 17 = .ok (.iload_n 1, 1) := by decide +kernel
theorem dX12_raised_18 : decode cX12_raised 18 = .ok (.aload_n 0, 1) := by decide +kernel
theorem dX12_raised_19 : decode cX12_raised 19 = .ok (.getfield 144, 3) := by decide +kernel
theorem dX12_raised_22 : decode cX12_raised 22 = .ok (.iload_n 2, 1) := by decide +kernel
theorem dX12_raised_23 : decode cX12_raised 23 = .ok (.iaload, 1) := by decide +kernel
theorem dX12_raised_24 : decode cX12_raised 24 = .ok (.invokevirtual 387, 3) := by decide +kernel
theorem dX12_raised_27 : decode cX12_raised 27 = .ok (.aload_n 0, 1) := by decide +kernel
theorem dX12_raised_28 : decode cX12_raised 28 = .ok (.getfield 157, 3) := by decide +kernel
theorem dX12_raised_31 : decode cX12_raised 31 = .ok (.iconst 0, 1) := by decide +kernel
theorem dX12_raised_32 : decode cX12_raised 32 = .ok (.iaload, 1) := by decide +kernel
theorem dX12_raised_33 : decode cX12_raised 33 = .ok (.ldc_w 343, 3) := by decide +kernel
theorem dX12_raised_36 : decode cX12_raised 36 = .ok (.if_icmp .eq 18, 3) := by decide +kernel
theorem dX12_raised_39 : decode cX12_raised 39 = .ok (.aload_n 0, 1) := by decide +kernel
theorem dX12_raised_40 : decode cX12_raised 40 = .ok (.iload_n 3, 1) := by decide +kernel
theorem dX12_raised_41 : decode cX12_raised 41 = .ok (.iconst 0, 1) := by decide +kernel
theorem dX12_raised_42 : decode cX12_raised 42 = .ok (.aload_n 0, 1) := by decide +kernel
theorem dX12_raised_43 : decode cX12_raised 43 = .ok (.getfield 369, 3) := by decide +kernel
theorem dX12_raised_46 : decode cX12_raised 46 = .ok (.iconst 1, 1) := by decide +kernel
theorem dX12_raised_47 : decode cX12_raised 47 = .ok (.isub, 1) := by decide +kernel
theorem dX12_raised_48 : decode cX12_raised 48 = .ok (.invokevirtual 201, 3) := by decide +kernel
theorem dX12_raised_51 : decode cX12_raised 51 = .ok (.ifCond .ne 5, 3) := by decide +kernel
theorem dX12_raised_54 : decode cX12_raised 54 = .ok (.iconst (-1), 1) := by decide +kernel
theorem dX12_raised_55 : decode cX12_raised 55 = .ok (.ireturn, 1) := by decide +kernel
theorem dX12_raised_56 : decode cX12_raised 56 = .ok (.aload_n 0, 1) := by decide +kernel
theorem dX12_raised_57 : decode cX12_raised 57 = .ok (.getfield 75, 3) := by decide +kernel
theorem dX12_raised_60 : decode cX12_raised 60 = .ok (.bipush 50, 2) := by decide +kernel
theorem dX12_raised_62 : decode cX12_raised 62 = .ok (.iload_n 1, 1) := by decide +kernel
theorem dX12_raised_63 : decode cX12_raised 63 = .ok (.imul, 1) := by decide +kernel
theorem dX12_raised_64 : decode cX12_raised 64 = .ok (.iconst 3, 1) := by decide +kernel
theorem dX12_raised_65 : decode cX12_raised 65 = .ok (.iadd, 1) := by decide +kernel
theorem dX12_raised_66 : decode cX12_raised 66 = .ok (.iaload, 1) := by decide +kernel
theorem dX12_raised_67 : decode cX12_raised 67 = .ok (.istore 4, 2) := by decide +kernel
theorem dX12_raised_69 : decode cX12_raised 69 = .ok (.iconst 0, 1) := by decide +kernel
theorem dX12_raised_70 : decode cX12_raised 70 = .ok (.istore 5, 2) := by decide +kernel
theorem dX12_raised_72 : decode cX12_raised 72 = .ok (.iconst (-1), 1) := by decide +kernel
theorem dX12_raised_73 : decode cX12_raised 73 = .ok (.istore 6, 2) := by decide +kernel
theorem dX12_raised_75 : decode cX12_raised 75 = .ok (.iconst 0, 1) := by decide +kernel
theorem dX12_raised_76 : decode cX12_raised 76 = .ok (.istore 7, 2) := by decide +kernel
theorem dX12_raised_78 : decode cX12_raised 78 = .ok (.iload 7, 2) := by decide +kernel
theorem dX12_raised_80 : decode cX12_raised 80 = .ok (.iload_n 3, 1) := by decide +kernel
theorem dX12_raised_81 : decode cX12_raised 81 = .ok (.if_icmp .gt 84, 3) := by decide +kernel
theorem dX12_raised_84 : decode cX12_raised 84 = .ok (.iconst 0, 1) := by decide +kernel
theorem dX12_raised_85 : decode cX12_raised 85 = .ok (.istore 6, 2) := by decide +kernel
theorem dX12_raised_87 : decode cX12_raised 87 = .ok (.aload_n 0, 1) := by decide +kernel
theorem dX12_raised_88 : decode cX12_raised 88 = .ok (.iload 6, 2) := by decide +kernel
theorem dX12_raised_90 : decode cX12_raised 90 = .ok (.iload 5, 2) := by decide +kernel
theorem dX12_raised_92 : decode cX12_raised 92 = .ok (.invokevirtual 375, 3) := by decide +kernel
theorem dX12_raised_95 : decode cX12_raised 95 = .ok (.ifCond .eq 46, 3) := by decide +kernel
theorem dX12_raised_98 : decode cX12_raised 98 = .ok (.aload_n 0, 1) := by decide +kernel
theorem dX12_raised_99 : decode cX12_raised 99 = .ok (.getfield 157, 3) := by decide +kernel
theorem dX12_raised_102 : decode cX12_raised 102 = .ok (.iload 5, 2) := by decide +kernel
theorem dX12_raised_104 : decode cX12_raised 104 = .ok (.iconst 1, 1) := by decide +kernel
theorem dX12_raised_105 : decode cX12_raised 105 = .ok (.iload 6, 2) := by decide +kernel
theorem dX12_raised_107 : decode cX12_raised 107 = .ok (.ishl, 1) := by decide +kernel
theorem dX12_raised_108 : decode cX12_raised 108 = .ok (.ior, 1) := by decide +kernel
theorem dX12_raised_109 : decode cX12_raised 109 = .ok (.iaload, 1) := by decide +kernel
theorem dX12_raised_110 : decode cX12_raised 110 = .ok (.aload_n 0, 1) := by decide +kernel
theorem dX12_raised_111 : decode cX12_raised 111 = .ok (.getfield 157, 3) := by decide +kernel
theorem dX12_raised_114 : decode cX12_raised 114 = .ok (.iconst 0, 1) := by decide +kernel
theorem dX12_raised_115 : decode cX12_raised 115 = .ok (.iaload, 1) := by decide +kernel
theorem dX12_raised_116 : decode cX12_raised 116 = .ok (.if_icmp .gt 25, 3) := by decide +kernel
theorem dX12_raised_119 : decode cX12_raised 119 = .ok (.aload_n 0, 1) := by decide +kernel
theorem dX12_raised_120 : decode cX12_raised 120 = .ok (.iload 4, 2) := by decide +kernel
theorem dX12_raised_122 : decode cX12_raised 122 = .ok (.iload 5, 2) := by decide +kernel
theorem dX12_raised_124 : decode cX12_raised 124 = .ok (.iconst 1, 1) := by decide +kernel
theorem dX12_raised_125 : decode cX12_raised 125 = .ok (.iload 6, 2) := by decide +kernel
theorem dX12_raised_127 : decode cX12_raised 127 = .ok (.ishl, 1) := by decide +kernel
theorem dX12_raised_128 : decode cX12_raised 128 = .ok (.ior, 1) := by decide +kernel
theorem dX12_raised_129 : decode cX12_raised 129 = .ok (.invokevirtual 378, 3) := by decide +kernel
theorem dX12_raised_132 : decode cX12_raised 132 = .ok (.aload_n 0, 1) := by decide +kernel
theorem dX12_raised_133 : decode cX12_raised 133 = .ok (.getfield 157, 3) := by decide +kernel
theorem dX12_raised_136 : decode cX12_raised 136 = .ok (.iconst 0, 1) := by decide +kernel
theorem dX12_raised_137 : decode cX12_raised 137 = .ok (.iaload, 1) := by decide +kernel
theorem dX12_raised_138 : decode cX12_raised 138 = .ok (.if_icmp .le 12, 3) := by decide +kernel
theorem dX12_raised_141 : decode cX12_raised 141 = .ok (.iload 6, 2) := by decide +kernel
theorem dX12_raised_143 : decode cX12_raised 143 = .ok (.iconst 1, 1) := by decide +kernel
theorem dX12_raised_144 : decode cX12_raised 144 = .ok (.iadd, 1) := by decide +kernel
theorem dX12_raised_145 : decode cX12_raised 145 = .ok (.istore 6, 2) := by decide +kernel
theorem dX12_raised_147 : decode cX12_raised 147 = .ok (.goto (-60), 3) := by decide +kernel
theorem dX12_raised_150 : decode cX12_raised 150 = .ok (.iload 5, 2) := by decide +kernel
theorem dX12_raised_152 : decode cX12_raised 152 = .ok (.iconst 1, 1) := by decide +kernel
theorem dX12_raised_153 : decode cX12_raised 153 = .ok (.iload 6, 2) := by decide +kernel
theorem dX12_raised_155 : decode cX12_raised 155 = .ok (.ishl, 1) := by decide +kernel
theorem dX12_raised_156 : decode cX12_raised 156 = .ok (.ior, 1) := by decide +kernel
theorem dX12_raised_157 : decode cX12_raised 157 = .ok (.istore 5, 2) := by decide +kernel
theorem dX12_raised_159 : decode cX12_raised 159 = .ok (.iinc 7 1, 3) := by decide +kernel
theorem dX12_raised_162 : decode cX12_raised 162 = .ok (.goto (-84), 3) := by decide +kernel
theorem dX12_raised_165 : decode cX12_raised 165 = .ok (.aload_n 0, 1) := by decide +kernel
theorem dX12_raised_166 : decode cX12_raised 166 = .ok (.getfield 147, 3) := by decide +kernel
theorem dX12_raised_169 : decode cX12_raised 169 = .ok (.iload 6, 2) := by decide +kernel
theorem dX12_raised_171 : decode cX12_raised 171 = .ok (.iaload, 1) := by decide +kernel
theorem dX12_raised_172 : decode cX12_raised 172 = .ok (.ireturn, 1) := by decide +kernel
theorem dX12_master_0 : decode cX12_master 0 = .ok (.aload_n 0, 1) := by decide +kernel
theorem dX12_master_1 : decode cX12_master 1 = .ok (.iconst 0, 1) := by decide +kernel
theorem dX12_master_2 : decode cX12_master 2 = .ok (.putfield 188, 3) := by decide +kernel
theorem dX12_master_5 : decode cX12_master 5 = .ok (.aload_n 0, 1) := by decide +kernel
theorem dX12_master_6 : decode cX12_master 6 = .ok (.iload_n 1, 1) := by decide +kernel
theorem dX12_master_7 : decode cX12_master 7 = .ok (.iconst 0, 1) := by decide +kernel
theorem dX12_master_8 : decode cX12_master 8 = .ok (.sipush 199, 3) := by decide +kernel
theorem dX12_master_11 : decode cX12_master 11 = .ok (.invokevirtual 201, 3) := by decide +kernel
theorem dX12_master_14 : decode cX12_master 14 = .ok (.ifCond .eq 14, 3) := by decide +kernel
theorem dX12_master_17 : decode cX12_master 17 = .ok (.aload_n 0, 1) := by decide +kernel
theorem dX12_master_18 : decode cX12_master 18 = .ok (.iload_n 2, 1) := by decide +kernel
theorem dX12_master_19 : decode cX12_master 19 = .ok (.iconst (-1), 1) := by decide +kernel
theorem dX12_master_20 : decode cX12_master 20 = .ok (.bipush 99, 2) := by decide +kernel
theorem dX12_master_22 : decode cX12_master 22 = .ok (.invokevirtual 201, 3) := by decide +kernel
theorem dX12_master_25 : decode cX12_master 25 = .ok (.ifCond .ne 5, 3) := by decide +kernel
theorem dX12_master_28 : decode cX12_master 28 = .ok (.iconst 0, 1) := by decide +kernel
theorem dX12_master_29 : decode cX12_master 29 = .ok (.ireturn, 1) := by decide +kernel
theorem dX12_master_30 : decode cX12_master 30 = .ok (.aload_n 0, 1) := by decide +kernel
theorem dX12_master_31 : decode cX12_master 31 = .ok (.getfield 167, 3) := by decide +kernel
theorem dX12_master_34 : decode cX12_master 34 = .ok (.iload_n 1, 1) := by decide +kernel
theorem dX12_master_35 : decode cX12_master 35 = .ok (.iload_n 2, 1) := by decide +kernel
theorem dX12_master_36 : decode cX12_master 36 = .ok (.iconst (-1), 1) := by decide +kernel
theorem dX12_master_37 : decode cX12_master 37 = .ok (.if_icmp .eq 7, 3) := by decide +kernel
theorem dX12_master_40 : decode cX12_master 40 = .ok (.iconst 1, 1) := by decide +kernel
theorem dX12_master_41 : decode cX12_master 41 = .ok (.goto 4, 3) := by decide +kernel
theorem dX12_master_44 : decode cX12_master 44 = .ok (.iconst 0, 1) := by decide +kernel
theorem dX12_master_45 : decode cX12_master 45 = .ok (.bastore, 1) := by decide +kernel
theorem dX12_master_46 : decode cX12_master 46 = .ok (.aload_n 0, 1) := by decide +kernel
theorem dX12_master_47 : decode cX12_master 47 = .ok (.getfield 164, 3) := by decide +kernel
theorem dX12_master_50 : decode cX12_master 50 = .ok (.iload_n 1, 1) := by decide +kernel
theorem dX12_master_51 : decode cX12_master 51 = .ok (.iload_n 2, 1) := by decide +kernel
theorem dX12_master_52 : decode cX12_master 52 = .ok (.iastore, 1) := by decide +kernel
theorem dX12_master_53 : decode cX12_master 53 = .ok (.iconst 1, 1) := by decide +kernel
theorem dX12_master_54 : decode cX12_master 54 = .ok (.ireturn, 1) := by decide +kernel
theorem dX12_ring_0 : decode cX12_ring 0 = .ok (.aload_n 0, 1) := by decide +kernel
theorem dX12_ring_1 : decode cX12_ring 1 = .ok (.iconst 0, 1) := by decide +kernel
theorem dX12_ring_2 : decode cX12_ring 2 = .ok (.putfield 188, 3) := by decide +kernel
theorem dX12_ring_5 : decode cX12_ring 5 = .ok (.aload_n 0, 1) := by decide +kernel
theorem dX12_ring_6 : decode cX12_ring 6 = .ok (.iload_n 1, 1) := by decide +kernel
theorem dX12_ring_7 : decode cX12_ring 7 = .ok (.iconst 0, 1) := by decide +kernel
theorem dX12_ring_8 : decode cX12_ring 8 = .ok (.aload_n 0, 1) := by decide +kernel
theorem dX12_ring_9 : decode cX12_ring 9 = .ok (.getfield 191, 3) := by decide +kernel
theorem dX12_ring_12 : decode cX12_ring 12 = .ok (.iconst 1, 1) := by decide +kernel
theorem dX12_ring_13 : decode cX12_ring 13 = .ok (.isub, 1) := by decide +kernel
theorem dX12_ring_14 : decode cX12_ring 14 = .ok (.invokevirtual 201, 3) := by decide +kernel
theorem dX12_ring_17 : decode cX12_ring 17 = .ok (.ifCond .eq 25, 3) := by decide +kernel
theorem dX12_ring_20 : decode cX12_ring 20 = .ok (.aload_n 0, 1) := by decide +kernel
theorem dX12_ring_21 : decode cX12_ring 21 = .ok (.iload_n 2, 1) := by decide +kernel
theorem dX12_ring_22 : decode cX12_ring 22 = .ok (.iconst 0, 1) := by decide +kernel
theorem dX12_ring_23 : decode cX12_ring 23 = .ok (.bipush 99, 2) := by decide +kernel
theorem dX12_ring_25 : decode cX12_ring 25 = .ok (.invokevirtual 201, 3) := by decide +kernel
theorem dX12_ring_28 : decode cX12_ring 28 = .ok (.ifCond .eq 14, 3) := by decide +kernel
theorem dX12_ring_31 : decode cX12_ring 31 = .ok (.aload_n 0, 1) := by decide +kernel
theorem dX12_ring_32 : decode cX12_ring 32 = .ok (.getfield 26, 3) := by decide +kernel
theorem dX12_ring_35 : decode cX12_ring 35 = .ok (.iload_n 1, 1) := by decide +kernel
theorem dX12_ring_36 : decode cX12_ring 36 = .ok (.iaload, 1) := by decide +kernel
theorem dX12_ring_37 : decode cX12_ring 37 = .ok (.bipush 24, 2) := by decide +kernel
theorem dX12_ring_39 : decode cX12_ring 39 = .ok (.if_icmp .ne 5, 3) := by decide +kernel
theorem dX12_ring_42 : decode cX12_ring 42 = .ok (.iconst (-1), 1) := by decide +kernel
theorem dX12_ring_43 : decode cX12_ring 43 = .ok (.ireturn, 1) := by decide +kernel
theorem dX12_ring_44 : decode cX12_ring 44 = .ok (.aload_n 0, 1) := by decide +kernel
theorem dX12_ring_45 : decode cX12_ring 45 = .ok (.getfield 29, 3) := by decide +kernel
theorem dX12_ring_48 : decode cX12_ring 48 = .ok (.bipush 24, 2) := by decide +kernel
theorem dX12_ring_50 : decode cX12_ring 50 = .ok (.iload_n 1, 1) := by decide +kernel
theorem dX12_ring_51 : decode cX12_ring 51 = .ok (.imul, 1) := by decide +kernel
theorem dX12_ring_52 : decode cX12_ring 52 = .ok (.aload_n 0, 1) := by decide +kernel
theorem dX12_ring_53 : decode cX12_ring 53 = .ok (.getfield 26, 3) := by decide +kernel
theorem dX12_ring_56 : decode cX12_ring 56 = .ok (.iload_n 1, 1) := by decide +kernel
theorem dX12_ring_57 : decode cX12_ring 57 = .ok (.iaload, 1) := by decide +kernel
theorem dX12_ring_58 : decode cX12_ring 58 = .ok (.iadd, 1) := by decide +kernel
theorem dX12_ring_59 : decode cX12_ring 59 = .ok (.iload_n 2, 1) := by decide +kernel
theorem dX12_ring_60 : decode cX12_ring 60 = .ok (.iastore, 1) := by decide +kernel
theorem dX12_ring_61 : decode cX12_ring 61 = .ok (.aload_n 0, 1) := by decide +kernel
theorem dX12_ring_62 : decode cX12_ring 62 = .ok (.getfield 32, 3) := by decide +kernel
theorem dX12_ring_65 : decode cX12_ring 65 = .ok (.bipush 24, 2) := by decide +kernel
theorem dX12_ring_67 : decode cX12_ring 67 = .ok (.iload_n 1, 1) := by decide +kernel
theorem dX12_ring_68 : decode cX12_ring 68 = .ok (.imul, 1) := by decide +kernel
theorem dX12_ring_69 : decode cX12_ring 69 = .ok (.aload_n 0, 1) := by decide +kernel
theorem dX12_ring_70 : decode cX12_ring 70 = .ok (.getfield 26, 3) := by decide +kernel
theorem dX12_ring_73 : decode cX12_ring 73 = .ok (.iload_n 1, 1) := by decide +kernel
theorem dX12_ring_74 : decode cX12_ring 74 = .ok (.iaload, 1) := by decide +kernel
theorem dX12_ring_75 : decode cX12_ring 75 = .ok (.iadd, 1) := by decide +kernel
theorem dX12_ring_76 : decode cX12_ring 76 = .ok (.aload_n 0, 1) := by decide +kernel
theorem dX12_ring_77 : decode cX12_ring 77 = .ok (.getfield 205, 3) := by decide +kernel
theorem dX12_ring_80 : decode cX12_ring 80 = .ok (.iastore, 1) := by decide +kernel
theorem dX12_ring_81 : decode cX12_ring 81 = .ok (.aload_n 0, 1) := by decide +kernel
theorem dX12_ring_82 : decode cX12_ring 82 = .ok (.getfield 26, 3) := by decide +kernel
theorem dX12_ring_85 : decode cX12_ring 85 = .ok (.iload_n 1, 1) := by decide +kernel
theorem dX12_ring_86 : decode cX12_ring 86 = .ok (.aload_n 0, 1) := by decide +kernel
theorem dX12_ring_87 : decode cX12_ring 87 = .ok (.getfield 26, 3) := by decide +kernel
theorem dX12_ring_90 : decode cX12_ring 90 = .ok (.iload_n 1, 1) := by decide +kernel
theorem dX12_ring_91 : decode cX12_ring 91 = .ok (.iaload, 1) := by decide +kernel
theorem dX12_ring_92 : decode cX12_ring 92 = .ok (.iconst 1, 1) := by decide +kernel
theorem dX12_ring_93 : decode cX12_ring 93 = .ok (.iadd, 1) := by decide +kernel
theorem dX12_ring_94 : decode cX12_ring 94 = .ok (.iastore, 1) := by decide +kernel
theorem dX12_ring_95 : decode cX12_ring 95 = .ok (.aload_n 0, 1) := by decide +kernel
theorem dX12_ring_96 : decode cX12_ring 96 = .ok (.getfield 26, 3) := by decide +kernel
theorem dX12_ring_99 : decode cX12_ring 99 = .ok (.iload_n 1, 1) := by decide +kernel
theorem dX12_ring_100 : decode cX12_ring 100 = .ok (.iaload, 1) := by decide +kernel
theorem dX12_ring_101 : decode cX12_ring 101 = .ok (.ireturn, 1) := by decide +kernel
theorem dX12_sap_0 : decode cX12_sap 0 = .ok (.aload_n 0, 1) := by decide +kernel
theorem dX12_sap_1 : decode cX12_sap 1 = .ok (.iconst 0, 1) := by decide +kernel
theorem dX12_sap_2 : decode cX12_sap 2 = .ok (.putfield 188, 3) := by decide +kernel
theorem dX12_sap_5 : decode cX12_sap 5 = .ok (.aload_n 0, 1) := by decide +kernel
theorem dX12_sap_6 : decode cX12_sap 6 = .ok (.iload_n 1, 1) := by decide +kernel
theorem dX12_sap_7 : decode cX12_sap 7 = .ok (.iconst 0, 1) := by decide +kernel
theorem dX12_sap_8 : decode cX12_sap 8 = .ok (.aload_n 0, 1) := by decide +kernel
theorem dX12_sap_9 : decode cX12_sap 9 = .ok (.getfield 191, 3) := by decide +kernel
theorem dX12_sap_12 : decode cX12_sap 12 = .ok (.iconst 1, 1) := by decide +kernel
theorem dX12_sap_13 : decode cX12_sap 13 = .ok (.isub, 1) := by decide +kernel
theorem dX12_sap_14 : decode cX12_sap 14 = .ok (.invokevirtual 201, 3) := by decide +kernel
theorem dX12_sap_17 : decode cX12_sap 17 = .ok (.ifCond .eq 14, 3) := by decide +kernel
theorem dX12_sap_20 : decode cX12_sap 20 = .ok (.aload_n 0, 1) := by decide +kernel
theorem dX12_sap_21 : decode cX12_sap 21 = .ok (.iload_n 2, 1) := by decide +kernel
theorem dX12_sap_22 : decode cX12_sap 22 = .ok (.iconst 0, 1) := by decide +kernel
theorem dX12_sap_23 : decode cX12_sap 23 = .ok (.bipush 24, 2) := by decide +kernel
theorem dX12_sap_25 : decode cX12_sap 25 = .ok (.invokevirtual 201, 3) := by decide +kernel
theorem dX12_sap_28 : decode cX12_sap 28 = .ok (.ifCond .ne 5, 3) := by decide +kernel
theorem dX12_sap_31 : decode cX12_sap 31 = .ok (.iconst 0, 1) := by decide +kernel
theorem dX12_sap_32 : decode cX12_sap 32 = .ok (.ireturn, 1) := by decide +kernel
theorem dX12_sap_33 : decode cX12_sap 33 = .ok (.aload_n 0, 1) := by decide +kernel
theorem dX12_sap_34 : decode cX12_sap 34 = .ok (.getfield 35, 3) := by decide +kernel
theorem dX12_sap_37 : decode cX12_sap 37 = .ok (.iload_n 1, 1) := by decide +kernel
theorem dX12_sap_38 : decode cX12_sap 38 = .ok (.iload_n 2, 1) := by decide +kernel
theorem dX12_sap_39 : decode cX12_sap 39 = .ok (.iastore, 1) := by decide +kernel
theorem dX12_sap_40 : decode cX12_sap 40 = .ok (.aload_n 0, 1) := by decide +kernel
theorem dX12_sap_41 : decode cX12_sap 41 = .ok (.getfield 38, 3) := by decide +kernel
theorem dX12_sap_44 : decode cX12_sap 44 = .ok (.iload_n 1, 1) := by decide +kernel
theorem dX12_sap_45 : decode cX12_sap 45 = .ok (.iload_n 3, 1) := by decide +kernel
theorem dX12_sap_46 : decode cX12_sap 46 = .ok (.bastore, 1) := by decide +kernel
theorem dX12_sap_47 : decode cX12_sap 47 = .ok (.iconst 1, 1) := by decide +kernel
theorem dX12_sap_48 : decode cX12_sap 48 = .ok (.ireturn, 1) := by decide +kernel
theorem dX12_goes_0 : decode cX12_goes 0 = .ok (.iload_n 1, 1) := by decide +kernel
theorem dX12_goes_1 : decode cX12_goes 1 = .ok (.iload_n 2, 1) := by decide +kernel
theorem dX12_goes_2 : decode cX12_goes 2 = .ok (.if_icmp .ge 7, 3) := by decide +kernel
theorem dX12_goes_5 : decode cX12_goes 5 = .ok (.iconst 1, 1) := by decide +kernel
theorem dX12_goes_6 : decode cX12_goes 6 = .ok (.goto 13, 3) := by decide +kernel
theorem dX12_goes_9 : decode cX12_goes 9 = .ok (.iload_n 1, 1) := by decide +kernel
theorem dX12_goes_10 : decode cX12_goes 10 = .ok (.iload_n 2, 1) := by decide +kernel
theorem dX12_goes_11 : decode cX12_goes 11 = .ok (.if_icmp .le 7, 3) := by decide +kernel
theorem dX12_goes_14 : decode cX12_goes 14 = .ok (.iconst (-1), 1) := by decide +kernel
theorem dX12_goes_15 : decode cX12_goes 15 = .ok (.goto 4, 3) := by decide +kernel
theorem dX12_goes_18 : decode cX12_goes 18 = .ok (.iconst 0, 1) := by decide +kernel
theorem dX12_goes_19 : decode cX12_goes 19 = .ok (.ireturn, 1) := by decide +kernel
theorem dX12_agree_0 : decode cX12_agree 0 = .ok (.iload_n 3, 1) := by decide +kernel
theorem dX12_agree_1 : decode cX12_agree 1 = .ok (.iload_n 2, 1) := by decide +kernel
theorem dX12_agree_2 : decode cX12_agree 2 = .ok (.isub, 1) := by decide +kernel
theorem dX12_agree_3 : decode cX12_agree 3 = .ok (.iconst 1, 1) := by decide +kernel
theorem dX12_agree_4 : decode cX12_agree 4 = .ok (.iadd, 1) := by decide +kernel
theorem dX12_agree_5 : decode cX12_agree 5 = .ok (.ifCond .ge 5, 3) := by decide +kernel
theorem dX12_agree_8 : decode cX12_agree 8 = .ok (.iconst (-1), 1) := by decide +kernel
theorem dX12_agree_9 : decode cX12_agree 9 = .ok (.ireturn, 1) := by decide +kernel
theorem dX12_agree_10 : decode cX12_agree 10 = .ok (.iload_n 3, 1) := by decide +kernel
theorem dX12_agree_11 : decode cX12_agree 11 = .ok (.iload_n 2, 1) := by decide +kernel
theorem dX12_agree_12 : decode cX12_agree 12 = .ok (.isub, 1) := by decide +kernel
theorem dX12_agree_13 : decode cX12_agree 13 = .ok (.iconst 1, 1) := by decide +kernel
theorem dX12_agree_14 : decode cX12_agree 14 = .ok (.iadd, 1) := by decide +kernel
theorem dX12_agree_15 : decode cX12_agree 15 = .ok (.istore 4, 2) := by decide +kernel
theorem dX12_agree_17 : decode cX12_agree 17 = .ok (.iload 4, 2) := by decide +kernel
theorem dX12_agree_19 : decode cX12_agree 19 = .ok (.iload_n 3, 1) := by decide +kernel
theorem dX12_agree_20 : decode cX12_agree 20 = .ok (.if_icmp .gt 21, 3) := by decide +kernel
theorem dX12_agree_23 : decode cX12_agree 23 = .ok (.aload_n 0, 1) := by decide +kernel
theorem dX12_agree_24 : decode cX12_agree 24 = .ok (.getfield 167, 3) := by decide +kernel
theorem dX12_agree_27 : decode cX12_agree 27 = .ok (.iload 4, 2) := by decide +kernel
theorem dX12_agree_29 : decode cX12_agree 29 = .ok (.baload, 1) := by decide +kernel
theorem dX12_agree_30 : decode cX12_agree 30 = .ok (.ifCond .ne 5, 3) := by decide +kernel
theorem dX12_agree_33 : decode cX12_agree 33 = .ok (.iconst (-1), 1) := by decide +kernel
theorem dX12_agree_34 : decode cX12_agree 34 = .ok (.ireturn, 1) := by decide +kernel
theorem dX12_agree_35 : decode cX12_agree 35 = .ok (.iinc 4 1, 3) := by decide +kernel
theorem dX12_agree_38 : decode cX12_agree 38 = .ok (.goto (-21), 3) := by decide +kernel
theorem dX12_agree_41 : decode cX12_agree 41 = .ok (.iconst 0, 1) := by decide +kernel
theorem dX12_agree_42 : decode cX12_agree 42 = .ok (.istore 4, 2) := by decide +kernel
theorem dX12_agree_44 : decode cX12_agree 44 = .ok (.iconst 1, 1) := by decide +kernel
theorem dX12_agree_45 : decode cX12_agree 45 = .ok (.istore 5, 2) := by decide +kernel
theorem dX12_agree_47 : decode cX12_agree 47 = .ok (.iload 5, 2) := by decide +kernel
theorem dX12_agree_49 : decode cX12_agree 49 = .ok (.iload_n 2, 1) := by decide +kernel
theorem dX12_agree_50 : decode cX12_agree 50 = .ok (.if_icmp .ge 76, 3) := by decide +kernel
theorem dX12_agree_53 : decode cX12_agree 53 = .ok (.aload_n 0, 1) := by decide +kernel
theorem dX12_agree_54 : decode cX12_agree 54 = .ok (.aload_n 0, 1) := by decide +kernel
theorem dX12_agree_55 : decode cX12_agree 55 = .ok (.getfield 29, 3) := by decide +kernel
theorem dX12_agree_58 : decode cX12_agree 58 = .ok (.bipush 24, 2) := by decide +kernel
theorem dX12_agree_60 : decode cX12_agree 60 = .ok (.iload_n 1, 1) := by decide +kernel
theorem dX12_agree_61 : decode cX12_agree 61 = .ok (.imul, 1) := by decide +kernel
theorem dX12_agree_62 : decode cX12_agree 62 = .ok (.iload 5, 2) := by decide +kernel
theorem dX12_agree_64 : decode cX12_agree 64 = .ok (.iadd, 1) := by decide +kernel
theorem dX12_agree_65 : decode cX12_agree 65 = .ok (.iconst 1, 1) := by decide +kernel
theorem dX12_agree_66 : decode cX12_agree 66 = .ok (.isub, 1) := by decide +kernel
theorem dX12_agree_67 : decode cX12_agree 67 = .ok (.iaload, 1) := by decide +kernel
theorem dX12_agree_68 : decode cX12_agree 68 = .ok (.aload_n 0, 1) := by decide +kernel
theorem dX12_agree_69 : decode cX12_agree 69 = .ok (.getfield 29, 3) := by decide +kernel
theorem dX12_agree_72 : decode cX12_agree 72 = .ok (.bipush 24, 2) := by decide +kernel
theorem dX12_agree_74 : decode cX12_agree 74 = .ok (.iload_n 1, 1) := by decide +kernel
theorem dX12_agree_75 : decode cX12_agree 75 = .ok (.imul, 1) := by decide +kernel
theorem dX12_agree_76 : decode cX12_agree 76 = .ok (.iload 5, 2) := by decide +kernel
theorem dX12_agree_78 : decode cX12_agree 78 = .ok (.iadd, 1) := by decide +kernel
theorem dX12_agree_79 : decode cX12_agree 79 = .ok (.iaload, 1) := by decide +kernel
theorem dX12_agree_80 : decode cX12_agree 80 = .ok (.invokevirtual 390, 3) := by decide +kernel
theorem dX12_agree_83 : decode cX12_agree 83 = .ok (.aload_n 0, 1) := by decide +kernel
theorem dX12_agree_84 : decode cX12_agree 84 = .ok (.aload_n 0, 1) := by decide +kernel
theorem dX12_agree_85 : decode cX12_agree 85 = .ok (.getfield 164, 3) := by decide +kernel
theorem dX12_agree_88 : decode cX12_agree 88 = .ok (.iload_n 3, 1) := by decide +kernel
theorem dX12_agree_89 : decode cX12_agree 89 = .ok (.iload_n 2, 1) := by decide +kernel
theorem dX12_agree_90 : decode cX12_agree 90 = .ok (.isub, 1) := by decide +kernel
theorem dX12_agree_91 : decode cX12_agree 91 = .ok (.iload 5, 2) := by decide +kernel
theorem dX12_agree_93 : decode cX12_agree 93 = .ok (.iadd, 1) := by decide +kernel
theorem dX12_agree_94 : decode cX12_agree 94 = .ok (.iaload, 1) := by decide +kernel
theorem dX12_agree_95 : decode cX12_agree 95 = .ok (.aload_n 0, 1) := by decide +kernel
theorem dX12_agree_96 : decode cX12_agree 96 = .ok (.getfield 164, 3) := by decide +kernel
theorem dX12_agree_99 : decode cX12_agree 99 = .ok (.iload_n 3, 1) := by decide +kernel
theorem dX12_agree_100 : decode cX12_agree 100 = .ok (.iload_n 2, 1) := by decide +kernel
theorem dX12_agree_101 : decode cX12_agree 101 = .ok (.isub, 1) := by decide +kernel
theorem dX12_agree_102 : decode cX12_agree 102 = .ok (.iconst 1, 1) := by decide +kernel
theorem dX12_agree_103 : decode cX12_agree 103 = .ok (.iadd, 1) := by decide +kernel
theorem dX12_agree_104 : decode cX12_agree 104 = .ok (.iload 5, 2) := by decide +kernel
theorem dX12_agree_106 : decode cX12_agree 106 = .ok (.iadd, 1) := by decide +kernel
theorem dX12_agree_107 : decode cX12_agree 107 = .ok (.iaload, 1) := by decide +kernel
theorem dX12_agree_108 : decode cX12_agree 108 = .ok (.invokevirtual 390, 3) := by decide +kernel
theorem dX12_agree_111 : decode cX12_agree 111 = .ok (.if_icmp .ne 9, 3) := by decide +kernel
theorem dX12_agree_114 : decode cX12_agree 114 = .ok (.iload 4, 2) := by decide +kernel
theorem dX12_agree_116 : decode cX12_agree 116 = .ok (.iconst 1, 1) := by decide +kernel
theorem dX12_agree_117 : decode cX12_agree 117 = .ok (.iadd, 1) := by decide +kernel
theorem dX12_agree_118 : decode cX12_agree 118 = .ok (.istore 4, 2) := by decide +kernel
theorem dX12_agree_120 : decode cX12_agree 120 = .ok (.iinc 5 1, 3) := by decide +kernel
theorem dX12_agree_123 : decode cX12_agree 123 = .ok (.goto (-76), 3) := by decide +kernel
theorem dX12_agree_126 : decode cX12_agree 126 = .ok (.iload 4, 2) := by decide +kernel
theorem dX12_agree_128 : decode cX12_agree 128 = .ok (.ireturn, 1) := by decide +kernel
theorem dX12_findDate_0 : decode cX12_findDate 0 = .ok (.aload_n 0, 1) := by decide +kernel
theorem dX12_findDate_1 : decode cX12_findDate 1 = .ok (.iload_n 2, 1) := by decide +kernel
theorem dX12_findDate_2 : decode cX12_findDate 2 = .ok (.invokevirtual 295, 3) := by decide +kernel
theorem dX12_findDate_5 : decode cX12_findDate 5 = .ok (.istore_n 3, 1) := by decide +kernel
theorem dX12_findDate_6 : decode cX12_findDate 6 = .ok (.aload_n 0, 1) := by decide +kernel
theorem dX12_findDate_7 : decode cX12_findDate 7 = .ok (.iconst (-1), 1) := by decide +kernel
theorem dX12_findDate_8 : decode cX12_findDate 8 = .ok (.putfield 393, 3) := by decide +kernel
theorem dX12_findDate_11 : decode cX12_findDate 11 = .ok (.aload_n 0, 1) := by decide +kernel
theorem dX12_findDate_12 : decode cX12_findDate 12 = .ok (.iconst (-1), 1) := by decide +kernel
theorem dX12_findDate_13 : decode cX12_findDate 13 = .ok (.putfield 396, 3) := by decide +kernel
theorem dX12_findDate_16 : decode cX12_findDate 16 = .ok (.aload_n 0, 1) := by decide +kernel
theorem dX12_findDate_17 : decode cX12_findDate 17 = .ok (.iconst 0, 1) := by decide +kernel
theorem dX12_findDate_18 : decode cX12_findDate 18 = .ok (.putfield 399, 3) := by decide +kernel
theorem dX12_findDate_21 : decode cX12_findDate 21 = .ok (.iload_n 3, 1) := by decide +kernel
theorem dX12_findDate_22 : decode cX12_findDate 22 = .ok (.iconst 2, 1) := by decide +kernel
theorem dX12_findDate_23 : decode cX12_findDate 23 = .ok (.if_icmp .ge 4, 3) := by decide +kernel
theorem dX12_findDate_26 : decode cX12_findDate 26 = .ok (.return_, 1) := by decide +kernel
theorem dX12_findDate_27 : decode cX12_findDate 27 = .ok (.iconst 0, 1) := by decide +kernel
theorem dX12_findDate_28 : decode cX12_findDate 28 = .ok (.istore 4, 2) := by decide +kernel
theorem dX12_findDate_30 : decode cX12_findDate 30 = .ok (.iload 4, 2) := by decide +kernel
theorem dX12_findDate_32 : decode cX12_findDate 32 = .ok (.sipush 200, 3) := by decide +kernel
theorem dX12_findDate_35 : decode cX12_findDate 35 = .ok (.if_icmp .ge 43, 3) := by decide +kernel
theorem dX12_findDate_38 : decode cX12_findDate 38 = .ok (.aload_n 0, 1) := by decide +kernel
theorem dX12_findDate_39 : decode cX12_findDate 39 = .ok (.iload_n 2, 1) := by decide +kernel
theorem dX12_findDate_40 : decode cX12_findDate 40 = .ok (.iload_n 3, 1) := by decide +kernel
theorem dX12_findDate_41 : decode cX12_findDate 41 = .ok (.iload 4, 2) := by decide +kernel
theorem dX12_findDate_43 : decode cX12_findDate 43 = .ok (.invokevirtual 403, 3) := by decide +kernel
theorem dX12_findDate_46 : decode cX12_findDate 46 = .ok (.istore 5, 2) := by decide +kernel
theorem dX12_findDate_48 : decode cX12_findDate 48 = .ok (.iload 5, 2) := by decide +kernel
theorem dX12_findDate_50 : decode cX12_findDate 50 = .ok (.aload_n 0, 1) := by decide +kernel
theorem dX12_findDate_51 : decode cX12_findDate 51 = .ok (.getfield 396, 3) := by decide +kernel
theorem dX12_findDate_54 : decode cX12_findDate 54 = .ok (.if_icmp .gt 6, 3) := by decide +kernel
theorem dX12_findDate_57 : decode cX12_findDate 57 = .ok (.goto 15, 3) := by decide +kernel
theorem dX12_findDate_60 : decode cX12_findDate 60 = .ok (.aload_n 0, 1) := by decide +kernel
theorem dX12_findDate_61 : decode cX12_findDate 61 = .ok (.iload 5, 2) := by decide +kernel
theorem dX12_findDate_63 : decode cX12_findDate 63 = .ok (.putfield 396, 3) := by decide +kernel
theorem dX12_findDate_66 : decode cX12_findDate 66 = .ok (.aload_n 0, 1) := by decide +kernel
theorem dX12_findDate_67 : decode cX12_findDate 67 = .ok (.iload 4, 2) := by decide +kernel
theorem dX12_findDate_69 : decode cX12_findDate 69 = .ok (.putfield 393, 3) := by decide +kernel
theorem dX12_findDate_72 : decode cX12_findDate 72 = .ok (.iinc 4 1, 3) := by decide +kernel
theorem dX12_findDate_75 : decode cX12_findDate 75 = .ok (.goto (-45), 3) := by decide +kernel
theorem dX12_findDate_78 : decode cX12_findDate 78 = .ok (.aload_n 0, 1) := by decide +kernel
theorem dX12_findDate_79 : decode cX12_findDate 79 = .ok (.getfield 393, 3) := by decide +kernel
theorem dX12_findDate_82 : decode cX12_findDate 82 = .ok (.iconst (-1), 1) := by decide +kernel
theorem dX12_findDate_83 : decode cX12_findDate 83 = .ok (.if_icmp .ne 4, 3) := by decide +kernel
theorem dX12_findDate_86 : decode cX12_findDate 86 = .ok (.return_, 1) := by decide +kernel
theorem dX12_findDate_87 : decode cX12_findDate 87 = .ok (.aload_n 0, 1) := by decide +kernel
theorem dX12_findDate_88 : decode cX12_findDate 88 = .ok (.bipush 100, 2) := by decide +kernel
theorem dX12_findDate_90 : decode cX12_findDate 90 = .ok (.aload_n 0, 1) := by decide +kernel
theorem dX12_findDate_91 : decode cX12_findDate 91 = .ok (.getfield 396, 3) := by decide +kernel
theorem dX12_findDate_94 : decode cX12_findDate 94 = .ok (.imul, 1) := by decide +kernel
theorem dX12_findDate_95 : decode cX12_findDate 95 = .ok (.aload_n 0, 1) := by decide +kernel
theorem dX12_findDate_96 : decode cX12_findDate 96 = .ok (.getfield 75, 3) := by decide +kernel
theorem dX12_findDate_99 : decode cX12_findDate 99 = .ok (.bipush 50, 2) := by decide +kernel
theorem dX12_findDate_101 : decode cX12_findDate 101 = .ok (.iload_n 1, 1) := by decide +kernel
theorem dX12_findDate_102 : decode cX12_findDate 102 = .ok (.imul, 1) := by decide +kernel
theorem dX12_findDate_103 : decode cX12_findDate 103 = .ok (.iconst 4, 1) := by decide +kernel
theorem dX12_findDate_104 : decode cX12_findDate 104 = .ok (.iadd, 1) := by decide +kernel
theorem dX12_findDate_105 : decode cX12_findDate 105 = .ok (.iaload, 1) := by decide +kernel
theorem dX12_findDate_106 : decode cX12_findDate 106 = .ok (.iload_n 3, 1) := by decide +kernel
theorem dX12_findDate_107 : decode cX12_findDate 107 = .ok (.iconst 1, 1) := by decide +kernel
theorem dX12_findDate_108 : decode cX12_findDate 108 = .ok (.isub, 1) := by decide +kernel
theorem dX12_findDate_109 : decode cX12_findDate 109 = .ok (.imul, 1) := by decide +kernel
theorem dX12_findDate_110 : decode cX12_findDate 110 = .ok (.if_icmp .lt 7, 3) := by decide +kernel
theorem dX12_findDate_113 : decode cX12_findDate 113 = .ok (.iconst 1, 1) := by decide +kernel
theorem dX12_findDate_114 : decode cX12_findDate 114 = .ok (.goto 4, 3) := by decide +kernel
theorem dX12_findDate_117 : decode cX12_findDate 117 = .ok (.iconst 0, 1) := by decide +kernel
theorem dX12_findDate_118 : decode cX12_findDate 118 = .ok (.putfield 399, 3) := by decide +kernel
theorem dX12_findDate_121 : decode cX12_findDate 121 = .ok (.iconst 0, 1) := by decide +kernel
theorem dX12_findDate_122 : decode cX12_findDate 122 = .ok (.istore 4, 2) := by decide +kernel
theorem dX12_findDate_124 : decode cX12_findDate 124 = .ok (.iload 4, 2) := by decide +kernel
theorem dX12_findDate_126 : decode cX12_findDate 126 = .ok (.sipush 200, 3) := by decide +kernel
theorem dX12_findDate_129 : decode cX12_findDate 129 = .ok (.if_icmp .ge 62, 3) := by decide +kernel
theorem dX12_findDate_132 : decode cX12_findDate 132 = .ok (.iload 4, 2) := by decide +kernel
theorem dX12_findDate_134 : decode cX12_findDate 134 = .ok (.aload_n 0, 1) := by decide +kernel
theorem dX12_findDate_135 : decode cX12_findDate 135 = .ok (.getfield 393, 3) := by decide +kernel
theorem dX12_findDate_138 : decode cX12_findDate 138 = .ok (.if_icmp .eq 47, 3) := by decide +kernel
theorem dX12_findDate_141 : decode cX12_findDate 141 = .ok (.aload_n 0, 1) := by decide +kernel
theorem dX12_findDate_142 : decode cX12_findDate 142 = .ok (.iload_n 2, 1) := by decide +kernel
theorem dX12_findDate_143 : decode cX12_findDate 143 = .ok (.iload_n 3, 1) := by decide +kernel
theorem dX12_findDate_144 : decode cX12_findDate 144 = .ok (.iload 4, 2) := by decide +kernel
theorem dX12_findDate_146 : decode cX12_findDate 146 = .ok (.invokevirtual 403, 3) := by decide +kernel
theorem dX12_findDate_149 : decode cX12_findDate 149 = .ok (.aload_n 0, 1) := by decide +kernel
theorem dX12_findDate_150 : decode cX12_findDate 150 = .ok (.getfield 396, 3) := by decide +kernel
theorem dX12_findDate_153 : decode cX12_findDate 153 = .ok (.aload_n 0, 1) := by decide +kernel
theorem dX12_findDate_154 : decode cX12_findDate 154 = .ok (.getfield 75, 3) := by decide +kernel
theorem dX12_findDate_157 : decode cX12_findDate 157 = .ok (.bipush 50, 2) := by decide +kernel
theorem dX12_findDate_159 : decode cX12_findDate 159 = .ok (.iload_n 1, 1) := by decide +kernel
theorem dX12_findDate_160 : decode cX12_findDate 160 = .ok (.imul, 1) := by decide +kernel
theorem dX12_findDate_161 : decode cX12_findDate 161 = .ok (.iconst 5, 1) := by decide +kernel
theorem dX12_findDate_162 : decode cX12_findDate 162 = .ok (.iadd, 1) := by decide +kernel
theorem dX12_findDate_163 : decode cX12_findDate 163 = .ok (.iaload, 1) := by decide +kernel
theorem dX12_findDate_164 : decode cX12_findDate 164 = .ok (.isub, 1) := by decide +kernel
theorem dX12_findDate_165 : decode cX12_findDate 165 = .ok (.if_icmp .le 20, 3) := by decide +kernel
theorem dX12_findDate_168 : decode cX12_findDate 168 = .ok (.aload_n 0, 1) := by decide +kernel
theorem dX12_findDate_169 : decode cX12_findDate 169 = .ok (.iload_n 2, 1) := by decide +kernel
theorem dX12_findDate_170 : decode cX12_findDate 170 = .ok (.iload_n 3, 1) := by decide +kernel
theorem dX12_findDate_171 : decode cX12_findDate 171 = .ok (.iload 4, 2) := by decide +kernel
theorem dX12_findDate_173 : decode cX12_findDate 173 = .ok (.invokevirtual 403, 3) := by decide +kernel
theorem dX12_findDate_176 : decode cX12_findDate 176 = .ok (.iconst (-1), 1) := by decide +kernel
theorem dX12_findDate_177 : decode cX12_findDate 177 = .ok (.if_icmp .eq 8, 3) := by decide +kernel
theorem dX12_findDate_180 : decode cX12_findDate 180 = .ok (.aload_n 0, 1) := by decide +kernel
theorem dX12_findDate_181 : decode cX12_findDate 181 = .ok (.iconst 0, 1) := by decide +kernel
theorem dX12_findDate_182 : decode cX12_findDate 182 = .ok (.putfield 399, 3) := by decide +kernel
theorem dX12_findDate_185 : decode cX12_findDate 185 = .ok (.iinc 4 1, 3) := by decide +kernel
theorem dX12_findDate_188 : decode cX12_findDate 188 = .ok (.goto (-64), 3) := by decide +kernel
theorem dX12_findDate_191 : decode cX12_findDate 191 = .ok (.aload_n 0, 1) := by decide +kernel
theorem dX12_findDate_192 : decode cX12_findDate 192 = .ok (.aload_n 0, 1) := by decide +kernel
theorem dX12_findDate_193 : decode cX12_findDate 193 = .ok (.getfield 393, 3) := by decide +kernel
theorem dX12_findDate_196 : decode cX12_findDate 196 = .ok (.putfield 406, 3) := by decide +kernel
theorem dX12_findDate_199 : decode cX12_findDate 199 = .ok (.aload_n 0, 1) := by decide +kernel
theorem dX12_findDate_200 : decode cX12_findDate 200 = .ok (.aload_n 0, 1) := by decide +kernel
theorem dX12_findDate_201 : decode cX12_findDate 201 = .ok (.getfield 393, 3) := by decide +kernel
theorem dX12_findDate_204 : decode cX12_findDate 204 = .ok (.putfield 409, 3) := by decide +kernel
theorem dX12_findDate_207 : decode cX12_findDate 207 = .ok (.aload_n 0, 1) := by decide +kernel
theorem dX12_findDate_208 : decode cX12_findDate 208 = .ok (.getfield 38, 3) := by decide +kernel
theorem dX12_findDate_211 : decode cX12_findDate 211 = .ok (.iload_n 2, 1) := by decide +kernel
theorem dX12_findDate_212 : decode cX12_findDate 212 = .ok (.baload, 1) := by decide +kernel
theorem dX12_findDate_213 : decode cX12_findDate 213 = .ok (.ifCond .eq 4, 3) := by decide +kernel
theorem dX12_findDate_216 : decode cX12_findDate 216 = .ok (.return_, 1) := by decide +kernel
theorem dX12_findDate_217 : decode cX12_findDate 217 = .ok (.aload_n 0, 1) := by decide +kernel
theorem dX12_findDate_218 : decode cX12_findDate 218 = .ok (.getfield 35, 3) := by decide +kernel
theorem dX12_findDate_221 : decode cX12_findDate 221 = .ok (.iload_n 2, 1) := by decide +kernel
theorem dX12_findDate_222 : decode cX12_findDate 222 = .ok (.iaload, 1) := by decide +kernel
theorem dX12_findDate_223 : decode cX12_findDate 223 = .ok (.iload_n 3, 1) := by decide +kernel
theorem dX12_findDate_224 : decode cX12_findDate 224 = .ok (.if_icmp .ge 12, 3) := by decide +kernel
theorem dX12_findDate_227 : decode cX12_findDate 227 = .ok (.aload_n 0, 1) := by decide +kernel
theorem dX12_findDate_228 : decode cX12_findDate 228 = .ok (.getfield 35, 3) := by decide +kernel
theorem dX12_findDate_231 : decode cX12_findDate 231 = .ok (.iload_n 2, 1) := by decide +kernel
theorem dX12_findDate_232 : decode cX12_findDate 232 = .ok (.iaload, 1) := by decide +kernel
theorem dX12_findDate_233 : decode cX12_findDate 233 = .ok (.goto 4, 3) := by decide +kernel
theorem dX12_findDate_236 : decode cX12_findDate 236 = .ok (.iload_n 3, 1) := by decide +kernel
theorem dX12_findDate_237 : decode cX12_findDate 237 = .ok (.istore 4, 2) := by decide +kernel
theorem dX12_findDate_239 : decode cX12_findDate 239 = .ok (.aload_n 0, 1) := by decide +kernel
theorem dX12_findDate_240 : decode cX12_findDate 240 = .ok (.getfield 393, 3) := by decide +kernel
theorem dX12_findDate_243 : decode cX12_findDate 243 = .ok (.aload_n 0, 1) := by decide +kernel
theorem dX12_findDate_244 : decode cX12_findDate 244 = .ok (.getfield 75, 3) := by decide +kernel
theorem dX12_findDate_247 : decode cX12_findDate 247 = .ok (.bipush 50, 2) := by decide +kernel
theorem dX12_findDate_249 : decode cX12_findDate 249 = .ok (.iload_n 1, 1) := by decide +kernel
theorem dX12_findDate_250 : decode cX12_findDate 250 = .ok (.imul, 1) := by decide +kernel
theorem dX12_findDate_251 : decode cX12_findDate 251 = .ok (.bipush 6, 2) := by decide +kernel
theorem dX12_findDate_253 : decode cX12_findDate 253 = .ok (.iadd, 1) := by decide +kernel
theorem dX12_findDate_254 : decode cX12_findDate 254 = .ok (.iaload, 1) := by decide +kernel
theorem dX12_findDate_255 : decode cX12_findDate 255 = .ok (.iadd, 1) := by decide +kernel
theorem dX12_findDate_256 : decode cX12_findDate 256 = .ok (.iload 4, 2) := by decide +kernel
theorem dX12_findDate_258 : decode cX12_findDate 258 = .ok (.isub, 1) := by decide +kernel
theorem dX12_findDate_259 : decode cX12_findDate 259 = .ok (.istore 5, 2) := by decide +kernel
theorem dX12_findDate_261 : decode cX12_findDate 261 = .ok (.aload_n 0, 1) := by decide +kernel
theorem dX12_findDate_262 : decode cX12_findDate 262 = .ok (.getfield 393, 3) := by decide +kernel
theorem dX12_findDate_265 : decode cX12_findDate 265 = .ok (.aload_n 0, 1) := by decide +kernel
theorem dX12_findDate_266 : decode cX12_findDate 266 = .ok (.getfield 75, 3) := by decide +kernel
theorem dX12_findDate_269 : decode cX12_findDate 269 = .ok (.bipush 50, 2) := by decide +kernel
theorem dX12_findDate_271 : decode cX12_findDate 271 = .ok (.iload_n 1, 1) := by decide +kernel
theorem dX12_findDate_272 : decode cX12_findDate 272 = .ok (.imul, 1) := by decide +kernel
theorem dX12_findDate_273 : decode cX12_findDate 273 = .ok (.bipush 7, 2) := by decide +kernel
theorem dX12_findDate_275 : decode cX12_findDate 275 = .ok (.iadd, 1) := by decide +kernel
theorem dX12_findDate_276 : decode cX12_findDate 276 = .ok (.iaload, 1) := by decide +kernel
theorem dX12_findDate_277 : decode cX12_findDate 277 = .ok (.iadd, 1) := by decide +kernel
theorem dX12_findDate_278 : decode cX12_findDate 278 = .ok (.iload 4, 2) := by decide +kernel
theorem dX12_findDate_280 : decode cX12_findDate 280 = .ok (.isub, 1) := by decide +kernel
theorem dX12_findDate_281 : decode cX12_findDate 281 = .ok (.istore 6, 2) := by decide +kernel
theorem dX12_findDate_283 : decode cX12_findDate 283 = .ok (.iload 5, 2) := by decide +kernel
theorem dX12_findDate_285 : decode cX12_findDate 285 = .ok (.aload_n 0, 1) := by decide +kernel
theorem dX12_findDate_286 : decode cX12_findDate 286 = .ok (.getfield 406, 3) := by decide +kernel
theorem dX12_findDate_289 : decode cX12_findDate 289 = .ok (.if_icmp .le 9, 3) := by decide +kernel
theorem dX12_findDate_292 : decode cX12_findDate 292 = .ok (.aload_n 0, 1) := by decide +kernel
theorem dX12_findDate_293 : decode cX12_findDate 293 = .ok (.iload 5, 2) := by decide +kernel
theorem dX12_findDate_295 : decode cX12_findDate 295 = .ok (.putfield 406, 3) := by decide +kernel
theorem dX12_findDate_298 : decode cX12_findDate 298 = .ok (.aload_n 0, 1) := by decide +kernel
theorem dX12_findDate_299 : decode cX12_findDate 299 = .ok (.iload 4, 2) := by decide +kernel
theorem dX12_findDate_301 : decode cX12_findDate 301 = .ok (.ifCond .ne 9, 3) := by decide +kernel
theorem dX12_findDate_304 : decode cX12_findDate 304 = .ok (.sipush 999, 3) := by decide +kernel
theorem dX12_findDate_307 : decode cX12_findDate 307 = .ok (.goto 21, 3) := by decide +kernel
theorem dX12_findDate_310 : decode cX12_findDate 310 = .ok (.iload 6, 2) := by decide +kernel
theorem dX12_findDate_312 : decode cX12_findDate 312 = .ok (.aload_n 0, 1) := by decide +kernel
theorem dX12_findDate_313 : decode cX12_findDate 313 = .ok (.getfield 406, 3) := by decide +kernel
theorem dX12_findDate_316 : decode cX12_findDate 316 = .ok (.if_icmp .le 8, 3) := by decide +kernel
theorem dX12_findDate_319 : decode cX12_findDate 319 = .ok (.iload 6, 2) := by decide +kernel
theorem dX12_findDate_321 : decode cX12_findDate 321 = .ok (.goto 7, 3) := by decide +kernel
theorem dX12_findDate_324 : decode cX12_findDate 324 = .ok (.aload_n 0, 1) := by decide +kernel
theorem dX12_findDate_325 : decode cX12_findDate 325 = .ok (.getfield 406, 3) := by decide +kernel
theorem dX12_findDate_328 : decode cX12_findDate 328 = .ok (.putfield 409, 3) := by decide +kernel
theorem dX12_findDate_331 : decode cX12_findDate 331 = .ok (.return_, 1) := by decide +kernel
theorem dX12_usedTo_0 : decode cX12_usedTo 0 = .ok (.aload_n 0, 1) := by decide +kernel
theorem dX12_usedTo_1 : decode cX12_usedTo 1 = .ok (.getfield 409, 3) := by decide +kernel
theorem dX12_usedTo_4 : decode cX12_usedTo 4 = .ok (.aload_n 0, 1) := by decide +kernel
theorem dX12_usedTo_5 : decode cX12_usedTo 5 = .ok (.getfield 75, 3) := by decide +kernel
theorem dX12_usedTo_8 : decode cX12_usedTo 8 = .ok (.bipush 50, 2) := by decide +kernel
theorem dX12_usedTo_10 : decode cX12_usedTo 10 = .ok (.iload_n 1, 1) := by decide +kernel
theorem dX12_usedTo_11 : decode cX12_usedTo 11 = .ok (.imul, 1) := by decide +kernel
theorem dX12_usedTo_12 : decode cX12_usedTo 12 = .ok (.bipush 8, 2) := by decide +kernel
theorem dX12_usedTo_14 : decode cX12_usedTo 14 = .ok (.iadd, 1) := by decide +kernel
theorem dX12_usedTo_15 : decode cX12_usedTo 15 = .ok (.iaload, 1) := by decide +kernel
theorem dX12_usedTo_16 : decode cX12_usedTo 16 = .ok (.iadd, 1) := by decide +kernel
theorem dX12_usedTo_17 : decode cX12_usedTo 17 = .ok (.sipush 999, 3) := by decide +kernel
theorem dX12_usedTo_20 : decode cX12_usedTo 20 = .ok (.if_icmp .le 9, 3) := by decide +kernel
theorem dX12_usedTo_23 : decode cX12_usedTo 23 = .ok (.sipush 999, 3) := by decide +kernel
theorem dX12_usedTo_26 : decode cX12_usedTo 26 = .ok (.goto 20, 3) := by decide +kernel
theorem dX12_usedTo_29 : decode cX12_usedTo 29 = .ok (.aload_n 0, 1) := by decide +kernel
theorem dX12_usedTo_30 : decode cX12_usedTo 30 = .ok (.getfield 409, 3) := by decide +kernel
theorem dX12_usedTo_33 : decode cX12_usedTo 33 = .ok (.aload_n 0, 1) := by decide +kernel
theorem dX12_usedTo_34 : decode cX12_usedTo 34 = .ok (.getfield 75, 3) := by decide +kernel
theorem dX12_usedTo_37 : decode cX12_usedTo 37 = .ok (.bipush 50, 2) := by decide +kernel
theorem dX12_usedTo_39 : decode cX12_usedTo 39 = .ok (.iload_n 1, 1) := by decide +kernel
theorem dX12_usedTo_40 : decode cX12_usedTo 40 = .ok (.imul, 1) := by decide +kernel
theorem dX12_usedTo_41 : decode cX12_usedTo 41 = .ok (.bipush 8, 2) := by decide +kernel
theorem dX12_usedTo_43 : decode cX12_usedTo 43 = .ok (.iadd, 1) := by decide +kernel
theorem dX12_usedTo_44 : decode cX12_usedTo 44 = .ok (.iaload, 1) := by decide +kernel
theorem dX12_usedTo_45 : decode cX12_usedTo 45 = .ok (.iadd, 1) := by decide +kernel
theorem dX12_usedTo_46 : decode cX12_usedTo 46 = .ok (.ireturn, 1) := by decide +kernel
theorem dX12_date_0 : decode cX12_date 0 = .ok (.aload_n 0, 1) := by decide +kernel
theorem dX12_date_1 : decode cX12_date 1 = .ok (.iconst 0, 1) := by decide +kernel
theorem dX12_date_2 : decode cX12_date 2 = .ok (.putfield 188, 3) := by decide +kernel
theorem dX12_date_5 : decode cX12_date 5 = .ok (.aload_n 0, 1) := by decide +kernel
theorem dX12_date_6 : decode cX12_date 6 = .ok (.iload_n 1, 1) := by decide +kernel
theorem dX12_date_7 : decode cX12_date 7 = .ok (.iconst 0, 1) := by decide +kernel
theorem dX12_date_8 : decode cX12_date 8 = .ok (.iconst 1, 1) := by decide +kernel
theorem dX12_date_9 : decode cX12_date 9 = .ok (.invokevirtual 201, 3) := by decide +kernel
theorem dX12_date_12 : decode cX12_date 12 = .ok (.ifCond .eq 22, 3) := by decide +kernel
theorem dX12_date_15 : decode cX12_date 15 = .ok (.aload_n 0, 1) := by decide +kernel
theorem dX12_date_16 : decode cX12_date 16 = .ok (.iload_n 2, 1) := by decide +kernel
theorem dX12_date_17 : decode cX12_date 17 = .ok (.invokevirtual 289, 3) := by decide +kernel
theorem dX12_date_20 : decode cX12_date 20 = .ok (.ifCond .eq 14, 3) := by decide +kernel
theorem dX12_date_23 : decode cX12_date 23 = .ok (.aload_n 0, 1) := by decide +kernel
theorem dX12_date_24 : decode cX12_date 24 = .ok (.iload_n 3, 1) := by decide +kernel
theorem dX12_date_25 : decode cX12_date 25 = .ok (.iconst 0, 1) := by decide +kernel
theorem dX12_date_26 : decode cX12_date 26 = .ok (.bipush 6, 2) := by decide +kernel
theorem dX12_date_28 : decode cX12_date 28 = .ok (.invokevirtual 201, 3) := by decide +kernel
theorem dX12_date_31 : decode cX12_date 31 = .ok (.ifCond .ne 5, 3) := by decide +kernel
theorem dX12_date_34 : decode cX12_date 34 = .ok (.iconst (-1), 1) := by decide +kernel
theorem dX12_date_35 : decode cX12_date 35 = .ok (.ireturn, 1) := by decide +kernel
theorem dX12_date_36 : decode cX12_date 36 = .ok (.aload_n 0, 1) := by decide +kernel
theorem dX12_date_37 : decode cX12_date 37 = .ok (.iload_n 1, 1) := by decide +kernel
theorem dX12_date_38 : decode cX12_date 38 = .ok (.iload_n 2, 1) := by decide +kernel
theorem dX12_date_39 : decode cX12_date 39 = .ok (.invokevirtual 412, 3) := by decide +kernel
theorem dX12_date_42 : decode cX12_date 42 = .ok (.aload_n 0, 1) := by decide +kernel
theorem dX12_date_43 : decode cX12_date 43 = .ok (.getfield 393, 3) := by decide +kernel
theorem dX12_date_46 : decode cX12_date 46 = .ok (.iconst (-1), 1) := by decide +kernel
theorem dX12_date_47 : decode cX12_date 47 = .ok (.if_icmp .ne 5, 3) := by decide +kernel
theorem dX12_date_50 : decode cX12_date 50 = .ok (.iconst (-1), 1) := by decide +kernel
theorem dX12_date_51 : decode cX12_date 51 = .ok (.ireturn, 1) := by decide +kernel
theorem dX12_date_52 : decode cX12_date 52 = .ok (.iload_n 3, 1) := by decide +kernel
theorem dX12_date_53 : decode cX12_date 53 = .ok (.ifCond .ne 8, 3) := by decide +kernel
theorem dX12_date_56 : decode cX12_date 56 = .ok (.aload_n 0, 1) := by decide +kernel
theorem dX12_date_57 : decode cX12_date 57 = .ok (.getfield 393, 3) := by decide +kernel
theorem dX12_date_60 : decode cX12_date 60 = .ok (.ireturn, 1) := by decide +kernel
theorem dX12_date_61 : decode cX12_date 61 = .ok (.iload_n 3, 1) := by decide +kernel
theorem dX12_date_62 : decode cX12_date 62 = .ok (.iconst 1, 1) := by decide +kernel
theorem dX12_date_63 : decode cX12_date 63 = .ok (.if_icmp .ne 8, 3) := by decide +kernel
theorem dX12_date_66 : decode cX12_date 66 = .ok (.aload_n 0, 1) := by decide +kernel
theorem dX12_date_67 : decode cX12_date 67 = .ok (.getfield 396, 3) := by decide +kernel
theorem dX12_date_70 : decode cX12_date 70 = .ok (.ireturn, 1) := by decide +kernel
theorem dX12_date_71 : decode cX12_date 71 = .ok (.iload_n 3, 1) := by decide +kernel
theorem dX12_date_72 : decode cX12_date 72 = .ok (.iconst 2, 1) := by decide +kernel
theorem dX12_date_73 : decode cX12_date 73 = .ok (.if_icmp .ne 16, 3) := by decide +kernel
theorem dX12_date_76 : decode cX12_date 76 = .ok (.aload_n 0, 1) := by decide +kernel
theorem dX12_date_77 : decode cX12_date 77 = .ok (.getfield 399, 3) := by decide +kernel
theorem dX12_date_80 : decode cX12_date 80 = .ok (.ifCond .eq 7, 3) := by decide +kernel
theorem dX12_date_83 : decode cX12_date 83 = .ok (.iconst 1, 1) := by decide +kernel
theorem dX12_date_84 : decode cX12_date 84 = .ok (.goto 4, 3) := by decide +kernel
theorem dX12_date_87 : decode cX12_date 87 = .ok (.iconst 0, 1) := by decide +kernel
theorem dX12_date_88 : decode cX12_date 88 = .ok (.ireturn, 1) := by decide +kernel
theorem dX12_date_89 : decode cX12_date 89 = .ok (.aload_n 0, 1) := by decide +kernel
theorem dX12_date_90 : decode cX12_date 90 = .ok (.getfield 399, 3) := by decide +kernel
theorem dX12_date_93 : decode cX12_date 93 = .ok (.ifCond .ne 5, 3) := by decide +kernel
theorem dX12_date_96 : decode cX12_date 96 = .ok (.iconst (-1), 1) := by decide +kernel
theorem dX12_date_97 : decode cX12_date 97 = .ok (.ireturn, 1) := by decide +kernel
theorem dX12_date_98 : decode cX12_date 98 = .ok (.iload_n 3, 1) := by decide +kernel
theorem dX12_date_99 : decode cX12_date 99 = .ok (.iconst 3, 1) := by decide +kernel
theorem dX12_date_100 : decode cX12_date 100 = .ok (.if_icmp .eq 8, 3) := by decide +kernel
theorem dX12_date_103 : decode cX12_date 103 = .ok (.iload_n 3, 1) := by decide +kernel
theorem dX12_date_104 : decode cX12_date 104 = .ok (.iconst 5, 1) := by decide +kernel
theorem dX12_date_105 : decode cX12_date 105 = .ok (.if_icmp .ne 10, 3) := by decide +kernel
theorem dX12_date_108 : decode cX12_date 108 = .ok (.aload_n 0, 1) := by decide +kernel
theorem dX12_date_109 : decode cX12_date 109 = .ok (.getfield 406, 3) := by decide +kernel
theorem dX12_date_112 : decode cX12_date 112 = .ok (.goto 20, 3) := by decide +kernel
theorem dX12_date_115 : decode cX12_date 115 = .ok (.iload_n 3, 1) := by decide +kernel
theorem dX12_date_116 : decode cX12_date 116 = .ok (.iconst 4, 1) := by decide +kernel
theorem dX12_date_117 : decode cX12_date 117 = .ok (.if_icmp .ne 10, 3) := by decide +kernel
theorem dX12_date_120 : decode cX12_date 120 = .ok (.aload_n 0, 1) := by decide +kernel
theorem dX12_date_121 : decode cX12_date 121 = .ok (.getfield 409, 3) := by decide +kernel
theorem dX12_date_124 : decode cX12_date 124 = .ok (.goto 8, 3) := by decide +kernel
theorem dX12_date_127 : decode cX12_date 127 = .ok (.aload_n 0, 1) := by decide +kernel
theorem dX12_date_128 : decode cX12_date 128 = .ok (.iload_n 1, 1) := by decide +kernel
theorem dX12_date_129 : decode cX12_date 129 = .ok (.invokevirtual 415, 3) := by decide +kernel
theorem dX12_date_132 : decode cX12_date 132 = .ok (.ireturn, 1) := by decide +kernel
theorem dX12_built_0 : decode cX12_built 0 = .ok (.aload_n 0, 1) := by decide +kernel
theorem dX12_built_1 : decode cX12_built 1 = .ok (.iconst 0, 1) := by decide +kernel
theorem dX12_built_2 : decode cX12_built 2 = .ok (.putfield 188, 3) := by decide +kernel
theorem dX12_built_5 : decode cX12_built 5 = .ok (.aload_n 0, 1) := by decide +kernel
theorem dX12_built_6 : decode cX12_built 6 = .ok (.iload_n 3, 1) := by decide +kernel
theorem dX12_built_7 : decode cX12_built 7 = .ok (.iconst 0, 1) := by decide +kernel
theorem dX12_built_8 : decode cX12_built 8 = .ok (.iconst 3, 1) := by decide +kernel
theorem dX12_built_9 : decode cX12_built 9 = .ok (.invokevirtual 201, 3) := by decide +kernel
theorem dX12_built_12 : decode cX12_built 12 = .ok (.ifCond .eq 12, 3) := by decide +kernel
theorem dX12_built_15 : decode cX12_built 15 = .ok (.aload_n 0, 1) := by decide +kernel
theorem dX12_built_16 : decode cX12_built 16 = .ok (.iload_n 1, 1) := by decide +kernel
theorem dX12_built_17 : decode cX12_built 17 = .ok (.iload_n 2, 1) := by decide +kernel
theorem dX12_built_18 : decode cX12_built 18 = .ok (.invokevirtual 381, 3) := by decide +kernel
theorem dX12_built_21 : decode cX12_built 21 = .ok (.ifCond .ne 5, 3) := by decide +kernel
theorem dX12_built_24 : decode cX12_built 24 = .ok (.iconst (-1), 1) := by decide +kernel
theorem dX12_built_25 : decode cX12_built 25 = .ok (.ireturn, 1) := by decide +kernel
theorem dX12_built_26 : decode cX12_built 26 = .ok (.iconst 0, 1) := by decide +kernel
theorem dX12_built_27 : decode cX12_built 27 = .ok (.istore 4, 2) := by decide +kernel
theorem dX12_built_29 : decode cX12_built 29 = .ok (.iload 4, 2) := by decide +kernel
theorem dX12_built_31 : decode cX12_built 31 = .ok (.sipush 1000, 3) := by decide +kernel
theorem dX12_built_34 : decode cX12_built 34 = .ok (.if_icmp .ge 17, 3) := by decide +kernel
theorem dX12_built_37 : decode cX12_built 37 = .ok (.aload_n 0, 1) := by decide +kernel
theorem dX12_built_38 : decode cX12_built 38 = .ok (.getfield 170, 3) := by decide +kernel
theorem dX12_built_41 : decode cX12_built 41 = .ok (.iload 4, 2) := by decide +kernel
theorem dX12_built_43 : decode cX12_built 43 = .ok (.iconst 0, 1) := by decide +kernel
theorem dX12_built_44 : decode cX12_built 44 = .ok (.iastore, 1) := by decide +kernel
theorem dX12_built_45 : decode cX12_built 45 = .ok (.iinc 4 1, 3) := by decide +kernel
theorem dX12_built_48 : decode cX12_built 48 = .ok (.goto (-19), 3) := by decide +kernel
theorem dX12_built_51 : decode cX12_built 51 = .ok (.iconst 0, 1) := by decide +kernel
theorem dX12_built_52 : decode cX12_built 52 = .ok (.istore 4, 2) := by decide +kernel
theorem dX12_built_54 : decode cX12_built 54 = .ok (.iconst 0, 1) := by decide +kernel
theorem dX12_built_55 : decode cX12_built 55 = .ok (.istore 5, 2) := by decide +kernel
theorem dX12_built_57 : decode cX12_built 57 = .ok (.iload 5, 2) := by decide +kernel
theorem dX12_built_59 : decode cX12_built 59 = .ok (.aload_n 0, 1) := by decide +kernel
theorem dX12_built_60 : decode cX12_built 60 = .ok (.getfield 191, 3) := by decide +kernel
theorem dX12_built_63 : decode cX12_built 63 = .ok (.if_icmp .ge 87, 3) := by decide +kernel
theorem dX12_built_66 : decode cX12_built 66 = .ok (.aload_n 0, 1) := by decide +kernel
theorem dX12_built_67 : decode cX12_built 67 = .ok (.getfield 144, 3) := by decide +kernel
theorem dX12_built_70 : decode cX12_built 70 = .ok (.iload_n 2, 1) := by decide +kernel
theorem dX12_built_71 : decode cX12_built 71 = .ok (.iaload, 1) := by decide +kernel
theorem dX12_built_72 : decode cX12_built 72 = .ok (.iload 5, 2) := by decide +kernel
theorem dX12_built_74 : decode cX12_built 74 = .ok (.ishr, 1) := by decide +kernel
theorem dX12_built_75 : decode cX12_built 75 = .ok (.iconst 1, 1) := by decide +kernel
theorem dX12_built_76 : decode cX12_built 76 = .ok (.iand, 1) := by decide +kernel
theorem dX12_built_77 : decode cX12_built 77 = .ok (.ifCond .ne 6, 3) := by decide +kernel
theorem dX12_built_80 : decode cX12_built 80 = .ok (.goto 64, 3) := by decide +kernel
theorem dX12_built_83 : decode cX12_built 83 = .ok (.aload_n 0, 1) := by decide +kernel
theorem dX12_built_84 : decode cX12_built 84 = .ok (.iload_n 1, 1) := by decide +kernel
theorem dX12_built_85 : decode cX12_built 85 = .ok (.iload 5, 2) := by decide +kernel
theorem dX12_built_87 : decode cX12_built 87 = .ok (.invokevirtual 412, 3) := by decide +kernel
theorem dX12_built_90 : decode cX12_built 90 = .ok (.aload_n 0, 1) := by decide +kernel
theorem dX12_built_91 : decode cX12_built 91 = .ok (.getfield 399, 3) := by decide +kernel
theorem dX12_built_94 : decode cX12_built 94 = .ok (.ifCond .ne 6, 3) := by decide +kernel
theorem dX12_built_97 : decode cX12_built 97 = .ok (.goto 47, 3) := by decide +kernel
theorem dX12_built_100 : decode cX12_built 100 = .ok (.iload 4, 2) := by decide +kernel
theorem dX12_built_102 : decode cX12_built 102 = .ok (.iconst 1, 1) := by decide +kernel
theorem dX12_built_103 : decode cX12_built 103 = .ok (.iadd, 1) := by decide +kernel
theorem dX12_built_104 : decode cX12_built 104 = .ok (.istore 4, 2) := by decide +kernel
theorem dX12_built_106 : decode cX12_built 106 = .ok (.aload_n 0, 1) := by decide +kernel
theorem dX12_built_107 : decode cX12_built 107 = .ok (.getfield 406, 3) := by decide +kernel
theorem dX12_built_110 : decode cX12_built 110 = .ok (.istore 6, 2) := by decide +kernel
theorem dX12_built_112 : decode cX12_built 112 = .ok (.iload 6, 2) := by decide +kernel
theorem dX12_built_114 : decode cX12_built 114 = .ok (.aload_n 0, 1) := by decide +kernel
theorem dX12_built_115 : decode cX12_built 115 = .ok (.iload_n 1, 1) := by decide +kernel
theorem dX12_built_116 : decode cX12_built 116 = .ok (.invokevirtual 415, 3) := by decide +kernel
theorem dX12_built_119 : decode cX12_built 119 = .ok (.if_icmp .gt 25, 3) := by decide +kernel
theorem dX12_built_122 : decode cX12_built 122 = .ok (.aload_n 0, 1) := by decide +kernel
theorem dX12_built_123 : decode cX12_built 123 = .ok (.getfield 170, 3) := by decide +kernel
theorem dX12_built_126 : decode cX12_built 126 = .ok (.iload 6, 2) := by decide +kernel
theorem dX12_built_128 : decode cX12_built 128 = .ok (.aload_n 0, 1) := by decide +kernel
theorem dX12_built_129 : decode cX12_built 129 = .ok (.getfield 170, 3) := by decide +kernel
theorem dX12_built_132 : decode cX12_built 132 = .ok (.iload 6, 2) := by decide +kernel
theorem dX12_built_134 : decode cX12_built 134 = .ok (.iaload, 1) := by decide +kernel
theorem dX12_built_135 : decode cX12_built 135 = .ok (.iconst 1, 1) := by decide +kernel
theorem dX12_built_136 : decode cX12_built 136 = .ok (.iadd, 1) := by decide +kernel
theorem dX12_built_137 : decode cX12_built 137 = .ok (.iastore, 1) := by decide +kernel
theorem dX12_built_138 : decode cX12_built 138 = .ok (.iinc 6 1, 3) := by decide +kernel
theorem dX12_built_141 : decode cX12_built 141 = .ok (.goto (-29), 3) := by decide +kernel
theorem dX12_built_144 : decode cX12_built 144 = .ok (.iinc 5 1, 3) := by decide +kernel
theorem dX12_built_147 : decode cX12_built 147 = .ok (.goto (-90), 3) := by decide +kernel
theorem dX12_built_150 : decode cX12_built 150 = .ok (.iload_n 3, 1) := by decide +kernel
theorem dX12_built_151 : decode cX12_built 151 = .ok (.iconst 3, 1) := by decide +kernel
theorem dX12_built_152 : decode cX12_built 152 = .ok (.if_icmp .ne 6, 3) := by decide +kernel
theorem dX12_built_155 : decode cX12_built 155 = .ok (.iload 4, 2) := by decide +kernel
theorem dX12_built_157 : decode cX12_built 157 = .ok (.ireturn, 1) := by decide +kernel
theorem dX12_built_158 : decode cX12_built 158 = .ok (.iconst 0, 1) := by decide +kernel
theorem dX12_built_159 : decode cX12_built 159 = .ok (.istore 5, 2) := by decide +kernel
theorem dX12_built_161 : decode cX12_built 161 = .ok (.iconst 1, 1) := by decide +kernel
theorem dX12_built_162 : decode cX12_built 162 = .ok (.istore 6, 2) := by decide +kernel
theorem dX12_built_164 : decode cX12_built 164 = .ok (.iload 6, 2) := by decide +kernel
theorem dX12_built_166 : decode cX12_built 166 = .ok (.sipush 1000, 3) := by decide +kernel
theorem dX12_built_169 : decode cX12_built 169 = .ok (.if_icmp .ge 30, 3) := by decide +kernel
theorem dX12_built_172 : decode cX12_built 172 = .ok (.aload_n 0, 1) := by decide +kernel
theorem dX12_built_173 : decode cX12_built 173 = .ok (.getfield 170, 3) := by decide +kernel
theorem dX12_built_176 : decode cX12_built 176 = .ok (.iload 6, 2) := by decide +kernel
theorem dX12_built_178 : decode cX12_built 178 = .ok (.iaload, 1) := by decide +kernel
theorem dX12_built_179 : decode cX12_built 179 = .ok (.aload_n 0, 1) := by decide +kernel
theorem dX12_built_180 : decode cX12_built 180 = .ok (.getfield 170, 3) := by decide +kernel
theorem dX12_built_183 : decode cX12_built 183 = .ok (.iload 5, 2) := by decide +kernel
theorem dX12_built_185 : decode cX12_built 185 = .ok (.iaload, 1) := by decide +kernel
theorem dX12_built_186 : decode cX12_built 186 = .ok (.if_icmp .le 7, 3) := by decide +kernel
theorem dX12_built_189 : decode cX12_built 189 = .ok (.iload 6, 2) := by decide +kernel
theorem dX12_built_191 : decode cX12_built 191 = .ok (.istore 5, 2) := by decide +kernel
theorem dX12_built_193 : decode cX12_built 193 = .ok (.iinc 6 1, 3) := by decide +kernel
theorem dX12_built_196 : decode cX12_built 196 = .ok (.goto (-32), 3) := by decide +kernel
theorem dX12_built_199 : decode cX12_built 199 = .ok (.iload_n 3, 1) := by decide +kernel
theorem dX12_built_200 : decode cX12_built 200 = .ok (.iconst 2, 1) := by decide +kernel
theorem dX12_built_201 : decode cX12_built 201 = .ok (.if_icmp .ne 14, 3) := by decide +kernel
theorem dX12_built_204 : decode cX12_built 204 = .ok (.iload 4, 2) := by decide +kernel
theorem dX12_built_206 : decode cX12_built 206 = .ok (.aload_n 0, 1) := by decide +kernel
theorem dX12_built_207 : decode cX12_built 207 = .ok (.getfield 170, 3) := by decide +kernel
theorem dX12_built_210 : decode cX12_built 210 = .ok (.iload 5, 2) := by decide +kernel
theorem dX12_built_212 : decode cX12_built 212 = .ok (.iaload, 1) := by decide +kernel
theorem dX12_built_213 : decode cX12_built 213 = .ok (.isub, 1) := by decide +kernel
theorem dX12_built_214 : decode cX12_built 214 = .ok (.ireturn, 1) := by decide +kernel
theorem dX12_built_215 : decode cX12_built 215 = .ok (.iload 4, 2) := by decide +kernel
theorem dX12_built_217 : decode cX12_built 217 = .ok (.ifCond .ne 5, 3) := by decide +kernel
theorem dX12_built_220 : decode cX12_built 220 = .ok (.iconst (-1), 1) := by decide +kernel
theorem dX12_built_221 : decode cX12_built 221 = .ok (.ireturn, 1) := by decide +kernel
theorem dX12_built_222 : decode cX12_built 222 = .ok (.iload 5, 2) := by decide +kernel
theorem dX12_built_224 : decode cX12_built 224 = .ok (.istore 6, 2) := by decide +kernel
theorem dX12_built_226 : decode cX12_built 226 = .ok (.iload 6, 2) := by decide +kernel
theorem dX12_built_228 : decode cX12_built 228 = .ok (.sipush 999, 3) := by decide +kernel
theorem dX12_built_231 : decode cX12_built 231 = .ok (.if_icmp .ge 31, 3) := by decide +kernel
theorem dX12_built_234 : decode cX12_built 234 = .ok (.aload_n 0, 1) := by decide +kernel
theorem dX12_built_235 : decode cX12_built 235 = .ok (.getfield 170, 3) := by decide +kernel
theorem dX12_built_238 : decode cX12_built 238 = .ok (.iload 6, 2) := by decide +kernel
theorem dX12_built_240 : decode cX12_built 240 = .ok (.iconst 1, 1) := by decide +kernel
theorem dX12_built_241 : decode cX12_built 241 = .ok (.iadd, 1) := by decide +kernel
theorem dX12_built_242 : decode cX12_built 242 = .ok (.iaload, 1) := by decide +kernel
theorem dX12_built_243 : decode cX12_built 243 = .ok (.aload_n 0, 1) := by decide +kernel
theorem dX12_built_244 : decode cX12_built 244 = .ok (.getfield 170, 3) := by decide +kernel
theorem dX12_built_247 : decode cX12_built 247 = .ok (.iload 5, 2) := by decide +kernel
theorem dX12_built_249 : decode cX12_built 249 = .ok (.iaload, 1) := by decide +kernel
theorem dX12_built_250 : decode cX12_built 250 = .ok (.if_icmp .ne 12, 3) := by decide +kernel
theorem dX12_built_253 : decode cX12_built 253 = .ok (.iload 6, 2) := by decide +kernel
theorem dX12_built_255 : decode cX12_built 255 = .ok (.iconst 1, 1) := by decide +kernel
theorem dX12_built_256 : decode cX12_built 256 = .ok (.iadd, 1) := by decide +kernel
theorem dX12_built_257 : decode cX12_built 257 = .ok (.istore 6, 2) := by decide +kernel
theorem dX12_built_259 : decode cX12_built 259 = .ok (.goto (-33), 3) := by decide +kernel
theorem dX12_built_262 : decode cX12_built 262 = .ok (.iload_n 3, 1) := by decide +kernel
theorem dX12_built_263 : decode cX12_built 263 = .ok (.ifCond .ne 8, 3) := by decide +kernel
theorem dX12_built_266 : decode cX12_built 266 = .ok (.iload 5, 2) := by decide +kernel
theorem dX12_built_268 : decode cX12_built 268 = .ok (.goto 5, 3) := by decide +kernel
theorem dX12_built_271 : decode cX12_built 271 = .ok (.iload 6, 2) := by decide +kernel
theorem dX12_built_273 : decode cX12_built 273 = .ok (.ireturn, 1) := by decide +kernel
theorem dX12_lean_0 : decode cX12_lean 0 = .ok (.aload_n 0, 1) := by decide +kernel
theorem dX12_lean_1 : decode cX12_lean 1 = .ok (.iconst 0, 1) := by decide +kernel
theorem dX12_lean_2 : decode cX12_lean 2 = .ok (.putfield 188, 3) := by decide +kernel
theorem dX12_lean_5 : decode cX12_lean 5 = .ok (.aload_n 0, 1) := by decide +kernel
theorem dX12_lean_6 : decode cX12_lean 6 = .ok (.iload_n 1, 1) := by decide +kernel
theorem dX12_lean_7 : decode cX12_lean 7 = .ok (.iconst 0, 1) := by decide +kernel
theorem dX12_lean_8 : decode cX12_lean 8 = .ok (.aload_n 0, 1) := by decide +kernel
theorem dX12_lean_9 : decode cX12_lean 9 = .ok (.getfield 191, 3) := by decide +kernel
theorem dX12_lean_12 : decode cX12_lean 12 = .ok (.iconst 1, 1) := by decide +kernel
theorem dX12_lean_13 : decode cX12_lean 13 = .ok (.isub, 1) := by decide +kernel
theorem dX12_lean_14 : decode cX12_lean 14 = .ok (.invokevirtual 201, 3) := by decide +kernel
theorem dX12_lean_17 : decode cX12_lean 17 = .ok (.ifCond .eq 36, 3) := by decide +kernel
theorem dX12_lean_20 : decode cX12_lean 20 = .ok (.aload_n 0, 1) := by decide +kernel
theorem dX12_lean_21 : decode cX12_lean 21 = .ok (.iload_n 2, 1) := by decide +kernel
theorem dX12_lean_22 : decode cX12_lean 22 = .ok (.iconst 0, 1) := by decide +kernel
theorem dX12_lean_23 : decode cX12_lean 23 = .ok (.sipush 999, 3) := by decide +kernel
theorem dX12_lean_26 : decode cX12_lean 26 = .ok (.invokevirtual 201, 3) := by decide +kernel
theorem dX12_lean_29 : decode cX12_lean 29 = .ok (.ifCond .eq 24, 3) := by decide +kernel
theorem dX12_lean_32 : decode cX12_lean 32 = .ok (.aload_n 0, 1) := by decide +kernel
theorem dX12_lean_33 : decode cX12_lean 33 = .ok (.iload_n 3, 1) := by decide +kernel
theorem dX12_lean_34 : decode cX12_lean 34 = .ok (.bipush (-99), 2) := by decide +kernel
theorem dX12_lean_36 : decode cX12_lean 36 = .ok (.bipush 99, 2) := by decide +kernel
theorem dX12_lean_38 : decode cX12_lean 38 = .ok (.invokevirtual 201, 3) := by decide +kernel
theorem dX12_lean_41 : decode cX12_lean 41 = .ok (.ifCond .eq 12, 3) := by decide +kernel
theorem dX12_lean_44 : decode cX12_lean 44 = .ok (.aload_n 0, 1) := by decide +kernel
theorem dX12_lean_45 : decode cX12_lean 45 = .ok (.getfield 418, 3) := by decide +kernel
theorem dX12_lean_48 : decode cX12_lean 48 = .ok (.bipush 60, 2) := by decide +kernel
theorem dX12_lean_50 : decode cX12_lean 50 = .ok (.if_icmp .ne 5, 3) := by decide +kernel
theorem dX12_lean_53 : decode cX12_lean 53 = .ok (.iconst 0, 1) := by decide +kernel
theorem dX12_lean_54 : decode cX12_lean 54 = .ok (.ireturn, 1) := by decide +kernel
theorem dX12_lean_55 : decode cX12_lean 55 = .ok (.aload_n 0, 1) := by decide +kernel
theorem dX12_lean_56 : decode cX12_lean 56 = .ok (.getfield 173, 3) := by decide +kernel
theorem dX12_lean_59 : decode cX12_lean 59 = .ok (.aload_n 0, 1) := by decide +kernel
theorem dX12_lean_60 : decode cX12_lean 60 = .ok (.getfield 418, 3) := by decide +kernel
theorem dX12_lean_63 : decode cX12_lean 63 = .ok (.iload_n 1, 1) := by decide +kernel
theorem dX12_lean_64 : decode cX12_lean 64 = .ok (.iastore, 1) := by decide +kernel
theorem dX12_lean_65 : decode cX12_lean 65 = .ok (.aload_n 0, 1) := by decide +kernel
theorem dX12_lean_66 : decode cX12_lean 66 = .ok (.getfield 176, 3) := by decide +kernel
theorem dX12_lean_69 : decode cX12_lean 69 = .ok (.aload_n 0, 1) := by decide +kernel
theorem dX12_lean_70 : decode cX12_lean 70 = .ok (.getfield 418, 3) := by decide +kernel
theorem dX12_lean_73 : decode cX12_lean 73 = .ok (.iload_n 2, 1) := by decide +kernel
theorem dX12_lean_74 : decode cX12_lean 74 = .ok (.iastore, 1) := by decide +kernel
theorem dX12_lean_75 : decode cX12_lean 75 = .ok (.aload_n 0, 1) := by decide +kernel
theorem dX12_lean_76 : decode cX12_lean 76 = .ok (.getfield 179, 3) := by decide +kernel
theorem dX12_lean_79 : decode cX12_lean 79 = .ok (.aload_n 0, 1) := by decide +kernel
theorem dX12_lean_80 : decode cX12_lean 80 = .ok (.getfield 418, 3) := by decide +kernel
theorem dX12_lean_83 : decode cX12_lean 83 = .ok (.iload_n 3, 1) := by decide +kernel
theorem dX12_lean_84 : decode cX12_lean 84 = .ok (.iastore, 1) := by decide +kernel
theorem dX12_lean_85 : decode cX12_lean 85 = .ok (.aload_n 0, 1) := by decide +kernel
theorem dX12_lean_86 : decode cX12_lean 86 = .ok (.getfield 182, 3) := by decide +kernel
theorem dX12_lean_89 : decode cX12_lean 89 = .ok (.aload_n 0, 1) := by decide +kernel
theorem dX12_lean_90 : decode cX12_lean 90 = .ok (.getfield 418, 3) := by decide +kernel
theorem dX12_lean_93 : decode cX12_lean 93 = .ok (.aload_n 0, 1) := by decide +kernel
theorem dX12_lean_94 : decode cX12_lean 94 = .ok (.getfield 205, 3) := by decide +kernel
theorem dX12_lean_97 : decode cX12_lean 97 = .ok (.iastore, 1) := by decide +kernel
theorem dX12_lean_98 : decode cX12_lean 98 = .ok (.aload_n 0, 1) := by decide +kernel
theorem dX12_lean_99 : decode cX12_lean 99 = .ok (.aload_n 0, 1) := by decide +kernel
theorem dX12_lean_100 : decode cX12_lean 100 = .ok (.getfield 418, 3) := by decide +kernel
theorem dX12_lean_103 : decode cX12_lean 103 = .ok (.iconst 1, 1) := by decide +kernel
theorem dX12_lean_104 : decode cX12_lean 104 = .ok (.iadd, 1) := by decide +kernel
theorem dX12_lean_105 : decode cX12_lean 105 = .ok (.putfield 418, 3) := by decide +kernel
theorem dX12_lean_108 : decode cX12_lean 108 = .ok (.iconst 1, 1) := by decide +kernel
theorem dX12_lean_109 : decode cX12_lean 109 = .ok (.ireturn, 1) := by decide +kernel
theorem dX12_counts_0 : decode cX12_counts 0 = .ok (.aload_n 0, 1) := by decide +kernel
theorem dX12_counts_1 : decode cX12_counts 1 = .ok (.getfield 173, 3) := by decide +kernel
theorem dX12_counts_4 : decode cX12_counts 4 = .ok (.iload_n 1, 1) := by decide +kernel
theorem dX12_counts_5 : decode cX12_counts 5 = .ok (.iaload, 1) := by decide +kernel
theorem dX12_counts_6 : decode cX12_counts 6 = .ok (.iload_n 2, 1) := by decide +kernel
theorem dX12_counts_7 : decode cX12_counts 7 = .ok (.if_icmp .ne 20, 3) := by decide +kernel
theorem dX12_counts_10 : decode cX12_counts 10 = .ok (.aload_n 0, 1) := by decide +kernel
theorem dX12_counts_11 : decode cX12_counts 11 = .ok (.aload_n 0, 1) := by decide +kernel
theorem dX12_counts_12 : decode cX12_counts 12 = .ok (.getfield 182, 3) := by decide +kernel
theorem dX12_counts_15 : decode cX12_counts 15 = .ok (.iload_n 1, 1) := by decide +kernel
theorem dX12_counts_16 : decode cX12_counts 16 = .ok (.iaload, 1) := by decide +kernel
theorem dX12_counts_17 : decode cX12_counts 17 = .ok (.invokevirtual 194, 3) := by decide +kernel
theorem dX12_counts_20 : decode cX12_counts 20 = .ok (.ifCond .eq 7, 3) := by decide +kernel
theorem dX12_counts_23 : decode cX12_counts 23 = .ok (.iconst 1, 1) := by decide +kernel
theorem dX12_counts_24 : decode cX12_counts 24 = .ok (.goto 4, 3) := by decide +kernel
theorem dX12_counts_27 : decode cX12_counts 27 = .ok (.iconst 0, 1) := by decide +kernel
theorem dX12_counts_28 : decode cX12_counts 28 = .ok (.ireturn, 1) := by decide +kernel
theorem dX12_findLeans_0 : decode cX12_findLeans 0 = .ok (.aload_n 0, 1) := by decide +kernel
theorem dX12_findLeans_1 : decode cX12_findLeans 1 = .ok (.iconst 0, 1) := by decide +kernel
theorem dX12_findLeans_2 : decode cX12_findLeans 2 = .ok (.putfield 421, 3) := by decide +kernel
theorem dX12_findLeans_5 : decode cX12_findLeans 5 = .ok (.iconst 0, 1) := by decide +kernel
theorem dX12_findLeans_6 : decode cX12_findLeans 6 = .ok (.istore_n 2, 1) := by decide +kernel
theorem dX12_findLeans_7 : decode cX12_findLeans 7 = .ok (.iload_n 2, 1) := by decide +kernel
theorem dX12_findLeans_8 : decode cX12_findLeans 8 = .ok (.aload_n 0, 1) := by decide +kernel
theorem dX12_findLeans_9 : decode cX12_findLeans 9 = .ok (.getfield 418, 3) := by decide +kernel
theorem dX12_findLeans_12 : decode cX12_findLeans 12 = .ok (.if_icmp .ge 176, 3) := by decide +kernel
theorem dX12_findLeans_15 : decode cX12_findLeans 15 = .ok (.aload_n 0, 1) := by decide +kernel
theorem dX12_findLeans_16 : decode cX12_findLeans 16 = .ok (.iload_n 2, 1) := by decide +kernel
theorem dX12_findLeans_17 : decode cX12_findLeans 17 = .ok (.iload_n 1, 1) := by decide +kernel
theorem dX12_findLeans_18 : decode cX12_findLeans 18 = .ok (.invokevirtual 424, 3) := by decide +kernel
theorem dX12_findLeans_21 : decode cX12_findLeans 21 = .ok (.ifCond .ne 6, 3) := by decide +kernel
theorem dX12_findLeans_24 : decode cX12_findLeans 24 = .ok (.goto 158, 3) := by decide +kernel
theorem dX12_findLeans_27 : decode cX12_findLeans 27 = .ok (.iconst 1, 1) := by decide +kernel
theorem dX12_findLeans_28 : decode cX12_findLeans 28 = .ok (.istore_n 3, 1) := by decide +kernel
theorem dX12_findLeans_29 : decode cX12_findLeans 29 = .ok (.iload_n 2, 1) := by decide +kernel
theorem dX12_findLeans_30 : decode cX12_findLeans 30 = .ok (.iconst 1, 1) := by decide +kernel
theorem dX12_findLeans_31 : decode cX12_findLeans 31 = .ok (.iadd, 1) := by decide +kernel
theorem dX12_findLeans_32 : decode cX12_findLeans 32 = .ok (.istore 4, 2) := by decide +kernel
theorem dX12_findLeans_34 : decode cX12_findLeans 34 = .ok (.iload 4, 2) := by decide +kernel
theorem dX12_findLeans_36 : decode cX12_findLeans 36 = .ok (.aload_n 0, 1) := by decide +kernel
theorem dX12_findLeans_37 : decode cX12_findLeans 37 = .ok (.getfield 418, 3) := by decide +kernel
theorem dX12_findLeans_40 : decode cX12_findLeans 40 = .ok (.if_icmp .ge 45, 3) := by decide +kernel
theorem dX12_findLeans_43 : decode cX12_findLeans 43 = .ok (.iload_n 3, 1) := by decide +kernel
theorem dX12_findLeans_44 : decode cX12_findLeans 44 = .ok (.ifCond .eq 33, 3) := by decide +kernel
theorem dX12_findLeans_47 : decode cX12_findLeans 47 = .ok (.aload_n 0, 1) := by decide +kernel
theorem dX12_findLeans_48 : decode cX12_findLeans 48 = .ok (.iload 4, 2) := by decide +kernel
theorem dX12_findLeans_50 : decode cX12_findLeans 50 = .ok (.iload_n 1, 1) := by decide +kernel
theorem dX12_findLeans_51 : decode cX12_findLeans 51 = .ok (.invokevirtual 424, 3) := by decide +kernel
theorem dX12_findLeans_54 : decode cX12_findLeans 54 = .ok (.ifCond .eq 19, 3) := by decide +kernel
theorem dX12_findLeans_57 : decode cX12_findLeans 57 = .ok (.aload_n 0, 1) := by decide +kernel
theorem dX12_findLeans_58 : decode cX12_findLeans 58 = .ok (.getfield 176, 3) := by decide +kernel
theorem dX12_findLeans_61 : decode cX12_findLeans 61 = .ok (.iload 4, 2) := by decide +kernel
theorem dX12_findLeans_63 : decode cX12_findLeans 63 = .ok (.iaload, 1) := by decide +kernel
theorem dX12_findLeans_64 : decode cX12_findLeans 64 = .ok (.aload_n 0, 1) := by decide +kernel
theorem dX12_findLeans_65 : decode cX12_findLeans 65 = .ok (.getfield 176, 3) := by decide +kernel
theorem dX12_findLeans_68 : decode cX12_findLeans 68 = .ok (.iload_n 2, 1) := by decide +kernel
theorem dX12_findLeans_69 : decode cX12_findLeans 69 = .ok (.iaload, 1) := by decide +kernel
theorem dX12_findLeans_70 : decode cX12_findLeans 70 = .ok (.if_icmp .eq 7, 3) := by decide +kernel
theorem dX12_findLeans_73 : decode cX12_findLeans 73 = .ok (.iconst 1, 1) := by decide +kernel
theorem dX12_findLeans_74 : decode cX12_findLeans 74 = .ok (.goto 4, 3) := by decide +kernel
theorem dX12_findLeans_77 : decode cX12_findLeans 77 = .ok (.iconst 0, 1) := by decide +kernel
theorem dX12_findLeans_78 : decode cX12_findLeans 78 = .ok (.istore_n 3, 1) := by decide +kernel
theorem dX12_findLeans_79 : decode cX12_findLeans 79 = .ok (.iinc 4 1, 3) := by decide +kernel
theorem dX12_findLeans_82 : decode cX12_findLeans 82 = .ok (.goto (-48), 3) := by decide +kernel
theorem dX12_findLeans_85 : decode cX12_findLeans 85 = .ok (.iload_n 3, 1) := by decide +kernel
theorem dX12_findLeans_86 : decode cX12_findLeans 86 = .ok (.ifCond .ne 6, 3) := by decide +kernel
theorem dX12_findLeans_89 : decode cX12_findLeans 89 = .ok (.goto 93, 3) := by decide +kernel
theorem dX12_findLeans_92 : decode cX12_findLeans 92 = .ok (.aload_n 0, 1) := by decide +kernel
theorem dX12_findLeans_93 : decode cX12_findLeans 93 = .ok (.getfield 421, 3) := by decide +kernel
theorem dX12_findLeans_96 : decode cX12_findLeans 96 = .ok (.ifCond .eq 16, 3) := by decide +kernel
theorem dX12_findLeans_99 : decode cX12_findLeans 99 = .ok (.aload_n 0, 1) := by decide +kernel
theorem dX12_findLeans_100 : decode cX12_findLeans 100 = .ok (.getfield 176, 3) := by decide +kernel
theorem dX12_findLeans_103 : decode cX12_findLeans 103 = .ok (.iload_n 2, 1) := by decide +kernel
theorem dX12_findLeans_104 : decode cX12_findLeans 104 = .ok (.iaload, 1) := by decide +kernel
theorem dX12_findLeans_105 : decode cX12_findLeans 105 = .ok (.aload_n 0, 1) := by decide +kernel
theorem dX12_findLeans_106 : decode cX12_findLeans 106 = .ok (.getfield 427, 3) := by decide +kernel
theorem dX12_findLeans_109 : decode cX12_findLeans 109 = .ok (.if_icmp .ge 23, 3) := by decide +kernel
theorem dX12_findLeans_112 : decode cX12_findLeans 112 = .ok (.aload_n 0, 1) := by decide +kernel
theorem dX12_findLeans_113 : decode cX12_findLeans 113 = .ok (.aload_n 0, 1) := by decide +kernel
theorem dX12_findLeans_114 : decode cX12_findLeans 114 = .ok (.getfield 176, 3) := by decide +kernel
theorem dX12_findLeans_117 : decode cX12_findLeans 117 = .ok (.iload_n 2, 1) := by decide +kernel
theorem dX12_findLeans_118 : decode cX12_findLeans 118 = .ok (.iaload, 1) := by decide +kernel
theorem dX12_findLeans_119 : decode cX12_findLeans 119 = .ok (.putfield 427, 3) := by decide +kernel
theorem dX12_findLeans_122 : decode cX12_findLeans 122 = .ok (.aload_n 0, 1) := by decide +kernel
theorem dX12_findLeans_123 : decode cX12_findLeans 123 = .ok (.aload_n 0, 1) := by decide +kernel
theorem dX12_findLeans_124 : decode cX12_findLeans 124 = .ok (.getfield 179, 3) := by decide +kernel
theorem dX12_findLeans_127 : decode cX12_findLeans 127 = .ok (.iload_n 2, 1) := by decide +kernel
theorem dX12_findLeans_128 : decode cX12_findLeans 128 = .ok (.iaload, 1) := by decide +kernel
theorem dX12_findLeans_129 : decode cX12_findLeans 129 = .ok (.putfield 430, 3) := by decide +kernel
theorem dX12_findLeans_132 : decode cX12_findLeans 132 = .ok (.aload_n 0, 1) := by decide +kernel
theorem dX12_findLeans_133 : decode cX12_findLeans 133 = .ok (.getfield 421, 3) := by decide +kernel
theorem dX12_findLeans_136 : decode cX12_findLeans 136 = .ok (.ifCond .eq 16, 3) := by decide +kernel
theorem dX12_findLeans_139 : decode cX12_findLeans 139 = .ok (.aload_n 0, 1) := by decide +kernel
theorem dX12_findLeans_140 : decode cX12_findLeans 140 = .ok (.getfield 176, 3) := by decide +kernel
theorem dX12_findLeans_143 : decode cX12_findLeans 143 = .ok (.iload_n 2, 1) := by decide +kernel
theorem dX12_findLeans_144 : decode cX12_findLeans 144 = .ok (.iaload, 1) := by decide +kernel
theorem dX12_findLeans_145 : decode cX12_findLeans 145 = .ok (.aload_n 0, 1) := by decide +kernel
theorem dX12_findLeans_146 : decode cX12_findLeans 146 = .ok (.getfield 433, 3) := by decide +kernel
theorem dX12_findLeans_149 : decode cX12_findLeans 149 = .ok (.if_icmp .le 23, 3) := by decide +kernel
theorem dX12_findLeans_152 : decode cX12_findLeans 152 = .ok (.aload_n 0, 1) := by decide +kernel
theorem dX12_findLeans_153 : decode cX12_findLeans 153 = .ok (.aload_n 0, 1) := by decide +kernel
theorem dX12_findLeans_154 : decode cX12_findLeans 154 = .ok (.getfield 176, 3) := by decide +kernel
theorem dX12_findLeans_157 : decode cX12_findLeans 157 = .ok (.iload_n 2, 1) := by decide +kernel
theorem dX12_findLeans_158 : decode cX12_findLeans 158 = .ok (.iaload, 1) := by decide +kernel
theorem dX12_findLeans_159 : decode cX12_findLeans 159 = .ok (.putfield 433, 3) := by decide +kernel
theorem dX12_findLeans_162 : decode cX12_findLeans 162 = .ok (.aload_n 0, 1) := by decide +kernel
theorem dX12_findLeans_163 : decode cX12_findLeans 163 = .ok (.aload_n 0, 1) := by decide +kernel
theorem dX12_findLeans_164 : decode cX12_findLeans 164 = .ok (.getfield 179, 3) := by decide +kernel
theorem dX12_findLeans_167 : decode cX12_findLeans 167 = .ok (.iload_n 2, 1) := by decide +kernel
theorem dX12_findLeans_168 : decode cX12_findLeans 168 = .ok (.iaload, 1) := by decide +kernel
theorem dX12_findLeans_169 : decode cX12_findLeans 169 = .ok (.putfield 436, 3) := by decide +kernel
theorem dX12_findLeans_172 : decode cX12_findLeans 172 = .ok (.aload_n 0, 1) := by decide +kernel
theorem dX12_findLeans_173 : decode cX12_findLeans 173 = .ok (.aload_n 0, 1) := by decide +kernel
theorem dX12_findLeans_174 : decode cX12_findLeans 174 = .ok (.getfield 421, 3) := by decide +kernel
theorem dX12_findLeans_177 : decode cX12_findLeans 177 = .ok (.iconst 1, 1) := by decide +kernel
theorem dX12_findLeans_178 : decode cX12_findLeans 178 = .ok (.iadd, 1) := by decide +kernel
theorem dX12_findLeans_179 : decode cX12_findLeans 179 = .ok (.putfield 421, 3) := by decide +kernel
theorem dX12_findLeans_182 : decode cX12_findLeans 182 = .ok (.iinc 2 1, 3) := by decide +kernel
theorem dX12_findLeans_185 : decode cX12_findLeans 185 = .ok (.goto (-178), 3) := by decide +kernel
theorem dX12_findLeans_188 : decode cX12_findLeans 188 = .ok (.return_, 1) := by decide +kernel
theorem dX12_common_0 : decode cX12_common 0 = .ok (.iload_n 1, 1) := by decide +kernel
theorem dX12_common_1 : decode cX12_common 1 = .ok (.ifCond .ge 8, 3) := by decide +kernel
theorem dX12_common_4 : decode cX12_common 4 = .ok (.iload_n 1, 1) := by decide +kernel
theorem dX12_common_5 : decode cX12_common 5 = .ok (.ineg, 1) := by decide +kernel
theorem dX12_common_6 : decode cX12_common 6 = .ok (.goto 4, 3) := by decide +kernel
theorem dX12_common_9 : decode cX12_common 9 = .ok (.iload_n 1, 1) := by decide +kernel
theorem dX12_common_10 : decode cX12_common 10 = .ok (.istore_n 3, 1) := by decide +kernel
theorem dX12_common_11 : decode cX12_common 11 = .ok (.iload_n 2, 1) := by decide +kernel
theorem dX12_common_12 : decode cX12_common 12 = .ok (.istore 4, 2) := by decide +kernel
theorem dX12_common_14 : decode cX12_common 14 = .ok (.iload 4, 2) := by decide +kernel
theorem dX12_common_16 : decode cX12_common 16 = .ok (.ifCond .eq 19, 3) := by decide +kernel
theorem dX12_common_19 : decode cX12_common 19 = .ok (.iload_n 3, 1) := by decide +kernel
theorem dX12_common_20 : decode cX12_common 20 = .ok (.iload 4, 2) := by decide +kernel
theorem dX12_common_22 : decode cX12_common 22 = .ok (.irem, 1) := by decide +kernel
theorem dX12_common_23 : decode cX12_common 23 = .ok (.istore 5, 2) := by decide +kernel
theorem dX12_common_25 : decode cX12_common 25 = .ok (.iload 4, 2) := by decide +kernel
theorem dX12_common_27 : decode cX12_common 27 = .ok (.istore_n 3, 1) := by decide +kernel
theorem dX12_common_28 : decode cX12_common 28 = .ok (.iload 5, 2) := by decide +kernel
theorem dX12_common_30 : decode cX12_common 30 = .ok (.istore 4, 2) := by decide +kernel
theorem dX12_common_32 : decode cX12_common 32 = .ok (.goto (-18), 3) := by decide +kernel
theorem dX12_common_35 : decode cX12_common 35 = .ok (.iload_n 3, 1) := by decide +kernel
theorem dX12_common_36 : decode cX12_common 36 = .ok (.ireturn, 1) := by decide +kernel
theorem dX12_leans_0 : decode cX12_leans 0 = .ok (.aload_n 0, 1) := by decide +kernel
theorem dX12_leans_1 : decode cX12_leans 1 = .ok (.iconst 0, 1) := by decide +kernel
theorem dX12_leans_2 : decode cX12_leans 2 = .ok (.putfield 188, 3) := by decide +kernel
theorem dX12_leans_5 : decode cX12_leans 5 = .ok (.aload_n 0, 1) := by decide +kernel
theorem dX12_leans_6 : decode cX12_leans 6 = .ok (.iload_n 1, 1) := by decide +kernel
theorem dX12_leans_7 : decode cX12_leans 7 = .ok (.invokevirtual 289, 3) := by decide +kernel
theorem dX12_leans_10 : decode cX12_leans 10 = .ok (.ifCond .eq 13, 3) := by decide +kernel
theorem dX12_leans_13 : decode cX12_leans 13 = .ok (.aload_n 0, 1) := by decide +kernel
theorem dX12_leans_14 : decode cX12_leans 14 = .ok (.iload_n 2, 1) := by decide +kernel
theorem dX12_leans_15 : decode cX12_leans 15 = .ok (.iconst 0, 1) := by decide +kernel
theorem dX12_leans_16 : decode cX12_leans 16 = .ok (.iconst 4, 1) := by decide +kernel
theorem dX12_leans_17 : decode cX12_leans 17 = .ok (.invokevirtual 201, 3) := by decide +kernel
theorem dX12_leans_20 : decode cX12_leans 20 = .ok (.ifCond .ne 7, 3) := by decide +kernel
theorem dX12_leans_23 : decode cX12_leans 23 = .ok (.sipush (-1000), 3) := by decide +kernel
theorem dX12_leans_26 : decode cX12_leans 26 = .ok (.ireturn, 1) := by decide +kernel
theorem dX12_leans_27 : decode cX12_leans 27 = .ok (.aload_n 0, 1) := by decide +kernel
theorem dX12_leans_28 : decode cX12_leans 28 = .ok (.iload_n 1, 1) := by decide +kernel
theorem dX12_leans_29 : decode cX12_leans 29 = .ok (.invokevirtual 439, 3) := by decide +kernel
theorem dX12_leans_32 : decode cX12_leans 32 = .ok (.iload_n 2, 1) := by decide +kernel
theorem dX12_leans_33 : decode cX12_leans 33 = .ok (.ifCond .ne 8, 3) := by decide +kernel
theorem dX12_leans_36 : decode cX12_leans 36 = .ok (.aload_n 0, 1) := by decide +kernel
theorem dX12_leans_37 : decode cX12_leans 37 = .ok (.getfield 421, 3) := by decide +kernel
theorem dX12_leans_40 : decode cX12_leans 40 = .ok (.ireturn, 1) := by decide +kernel
theorem dX12_leans_41 : decode cX12_leans 41 = .ok (.aload_n 0, 1) := by decide +kernel
theorem dX12_leans_42 : decode cX12_leans 42 = .ok (.getfield 421, 3) := by decide +kernel
theorem dX12_leans_45 : decode cX12_leans 45 = .ok (.ifCond .eq 16, 3) := by decide +kernel
theorem dX12_leans_48 : decode cX12_leans 48 = .ok (.iload_n 2, 1) := by decide +kernel
theorem dX12_leans_49 : decode cX12_leans 49 = .ok (.iconst 2, 1) := by decide +kernel
theorem dX12_leans_50 : decode cX12_leans 50 = .ok (.if_icmp .le 15, 3) := by decide +kernel
theorem dX12_leans_53 : decode cX12_leans 53 = .ok (.aload_n 0, 1) := by decide +kernel
theorem dX12_leans_54 : decode cX12_leans 54 = .ok (.getfield 421, 3) := by decide +kernel
theorem dX12_leans_57 : decode cX12_leans 57 = .ok (.iconst 1, 1) := by decide +kernel
theorem dX12_leans_58 : decode cX12_leans 58 = .ok (.if_icmp .ne 7, 3) := by decide +kernel
theorem dX12_leans_61 : decode cX12_leans 61 = .ok (.sipush (-1000), 3) := by decide +kernel
theorem dX12_leans_64 : decode cX12_leans 64 = .ok (.ireturn, 1) := by decide +kernel
theorem dX12_leans_65 : decode cX12_leans 65 = .ok (.iload_n 2, 1) := by decide +kernel
theorem dX12_leans_66 : decode cX12_leans 66 = .ok (.iconst 1, 1) := by decide +kernel
theorem dX12_leans_67 : decode cX12_leans 67 = .ok (.if_icmp .ne 8, 3) := by decide +kernel
theorem dX12_leans_70 : decode cX12_leans 70 = .ok (.aload_n 0, 1) := by decide +kernel
theorem dX12_leans_71 : decode cX12_leans 71 = .ok (.getfield 433, 3) := by decide +kernel
theorem dX12_leans_74 : decode cX12_leans 74 = .ok (.ireturn, 1) := by decide +kernel
theorem dX12_leans_75 : decode cX12_leans 75 = .ok (.iload_n 2, 1) := by decide +kernel
theorem dX12_leans_76 : decode cX12_leans 76 = .ok (.iconst 2, 1) := by decide +kernel
theorem dX12_leans_77 : decode cX12_leans 77 = .ok (.if_icmp .ne 8, 3) := by decide +kernel
theorem dX12_leans_80 : decode cX12_leans 80 = .ok (.aload_n 0, 1) := by decide +kernel
theorem dX12_leans_81 : decode cX12_leans 81 = .ok (.getfield 436, 3) := by decide +kernel
theorem dX12_leans_84 : decode cX12_leans 84 = .ok (.ireturn, 1) := by decide +kernel
theorem dX12_leans_85 : decode cX12_leans 85 = .ok (.aload_n 0, 1) := by decide +kernel
theorem dX12_leans_86 : decode cX12_leans 86 = .ok (.aload_n 0, 1) := by decide +kernel
theorem dX12_leans_87 : decode cX12_leans 87 = .ok (.getfield 436, 3) := by decide +kernel
theorem dX12_leans_90 : decode cX12_leans 90 = .ok (.aload_n 0, 1) := by decide +kernel
theorem dX12_leans_91 : decode cX12_leans 91 = .ok (.getfield 430, 3) := by decide +kernel
theorem dX12_leans_94 : decode cX12_leans 94 = .ok (.isub, 1) := by decide +kernel
theorem dX12_leans_95 : decode cX12_leans 95 = .ok (.aload_n 0, 1) := by decide +kernel
theorem dX12_leans_96 : decode cX12_leans 96 = .ok (.getfield 433, 3) := by decide +kernel
theorem dX12_leans_99 : decode cX12_leans 99 = .ok (.aload_n 0, 1) := by decide +kernel
theorem dX12_leans_100 : decode cX12_leans 100 = .ok (.getfield 427, 3) := by decide +kernel
theorem dX12_leans_103 : decode cX12_leans 103 = .ok (.isub, 1) := by decide +kernel
theorem dX12_leans_104 : decode cX12_leans 104 = .ok (.invokevirtual 442, 3) := by decide +kernel
theorem dX12_leans_107 : decode cX12_leans 107 = .ok (.istore_n 3, 1) := by decide +kernel
theorem dX12_leans_108 : decode cX12_leans 108 = .ok (.iload_n 2, 1) := by decide +kernel
theorem dX12_leans_109 : decode cX12_leans 109 = .ok (.iconst 3, 1) := by decide +kernel
theorem dX12_leans_110 : decode cX12_leans 110 = .ok (.if_icmp .ne 17, 3) := by decide +kernel
theorem dX12_leans_113 : decode cX12_leans 113 = .ok (.aload_n 0, 1) := by decide +kernel
theorem dX12_leans_114 : decode cX12_leans 114 = .ok (.getfield 436, 3) := by decide +kernel
theorem dX12_leans_117 : decode cX12_leans 117 = .ok (.aload_n 0, 1) := by decide +kernel
theorem dX12_leans_118 : decode cX12_leans 118 = .ok (.getfield 430, 3) := by decide +kernel
theorem dX12_leans_121 : decode cX12_leans 121 = .ok (.isub, 1) := by decide +kernel
theorem dX12_leans_122 : decode cX12_leans 122 = .ok (.iload_n 3, 1) := by decide +kernel
theorem dX12_leans_123 : decode cX12_leans 123 = .ok (.idiv, 1) := by decide +kernel
theorem dX12_leans_124 : decode cX12_leans 124 = .ok (.goto 14, 3) := by decide +kernel
theorem dX12_leans_127 : decode cX12_leans 127 = .ok (.aload_n 0, 1) := by decide +kernel
theorem dX12_leans_128 : decode cX12_leans 128 = .ok (.getfield 433, 3) := by decide +kernel
theorem dX12_leans_131 : decode cX12_leans 131 = .ok (.aload_n 0, 1) := by decide +kernel
theorem dX12_leans_132 : decode cX12_leans 132 = .ok (.getfield 427, 3) := by decide +kernel
theorem dX12_leans_135 : decode cX12_leans 135 = .ok (.isub, 1) := by decide +kernel
theorem dX12_leans_136 : decode cX12_leans 136 = .ok (.iload_n 3, 1) := by decide +kernel
theorem dX12_leans_137 : decode cX12_leans 137 = .ok (.idiv, 1) := by decide +kernel
theorem dX12_leans_138 : decode cX12_leans 138 = .ok (.ireturn, 1) := by decide +kernel
theorem dX12_falls_0 : decode cX12_falls 0 = .ok (.aload_n 0, 1) := by decide +kernel
theorem dX12_falls_1 : decode cX12_falls 1 = .ok (.iconst 0, 1) := by decide +kernel
theorem dX12_falls_2 : decode cX12_falls 2 = .ok (.putfield 188, 3) := by decide +kernel
theorem dX12_falls_5 : decode cX12_falls 5 = .ok (.aload_n 0, 1) := by decide +kernel
theorem dX12_falls_6 : decode cX12_falls 6 = .ok (.iload_n 1, 1) := by decide +kernel
theorem dX12_falls_7 : decode cX12_falls 7 = .ok (.invokevirtual 289, 3) := by decide +kernel
theorem dX12_falls_10 : decode cX12_falls 10 = .ok (.ifCond .eq 15, 3) := by decide +kernel
theorem dX12_falls_13 : decode cX12_falls 13 = .ok (.aload_n 0, 1) := by decide +kernel
theorem dX12_falls_14 : decode cX12_falls 14 = .ok (.iload_n 2, 1) := by decide +kernel
theorem dX12_falls_15 : decode cX12_falls 15 = .ok (.iconst 0, 1) := by decide +kernel
theorem dX12_falls_16 : decode cX12_falls 16 = .ok (.sipush 999, 3) := by decide +kernel
theorem dX12_falls_19 : decode cX12_falls 19 = .ok (.invokevirtual 201, 3) := by decide +kernel
theorem dX12_falls_22 : decode cX12_falls 22 = .ok (.ifCond .ne 5, 3) := by decide +kernel
theorem dX12_falls_25 : decode cX12_falls 25 = .ok (.iconst (-1), 1) := by decide +kernel
theorem dX12_falls_26 : decode cX12_falls 26 = .ok (.ireturn, 1) := by decide +kernel
theorem dX12_falls_27 : decode cX12_falls 27 = .ok (.aload_n 0, 1) := by decide +kernel
theorem dX12_falls_28 : decode cX12_falls 28 = .ok (.iload_n 1, 1) := by decide +kernel
theorem dX12_falls_29 : decode cX12_falls 29 = .ok (.invokevirtual 439, 3) := by decide +kernel
theorem dX12_falls_32 : decode cX12_falls 32 = .ok (.aload_n 0, 1) := by decide +kernel
theorem dX12_falls_33 : decode cX12_falls 33 = .ok (.getfield 421, 3) := by decide +kernel
theorem dX12_falls_36 : decode cX12_falls 36 = .ok (.iconst 2, 1) := by decide +kernel
theorem dX12_falls_37 : decode cX12_falls 37 = .ok (.if_icmp .ge 5, 3) := by decide +kernel
theorem dX12_falls_40 : decode cX12_falls 40 = .ok (.iconst (-1), 1) := by decide +kernel
theorem dX12_falls_41 : decode cX12_falls 41 = .ok (.ireturn, 1) := by decide +kernel
theorem dX12_falls_42 : decode cX12_falls 42 = .ok (.aload_n 0, 1) := by decide +kernel
theorem dX12_falls_43 : decode cX12_falls 43 = .ok (.getfield 433, 3) := by decide +kernel
theorem dX12_falls_46 : decode cX12_falls 46 = .ok (.aload_n 0, 1) := by decide +kernel
theorem dX12_falls_47 : decode cX12_falls 47 = .ok (.getfield 427, 3) := by decide +kernel
theorem dX12_falls_50 : decode cX12_falls 50 = .ok (.isub, 1) := by decide +kernel
theorem dX12_falls_51 : decode cX12_falls 51 = .ok (.istore_n 3, 1) := by decide +kernel
theorem dX12_falls_52 : decode cX12_falls 52 = .ok (.aload_n 0, 1) := by decide +kernel
theorem dX12_falls_53 : decode cX12_falls 53 = .ok (.getfield 433, 3) := by decide +kernel
theorem dX12_falls_56 : decode cX12_falls 56 = .ok (.istore 4, 2) := by decide +kernel
theorem dX12_falls_58 : decode cX12_falls 58 = .ok (.iload 4, 2) := by decide +kernel
theorem dX12_falls_60 : decode cX12_falls 60 = .ok (.sipush 10000, 3) := by decide +kernel
theorem dX12_falls_63 : decode cX12_falls 63 = .ok (.if_icmp .ge 55, 3) := by decide +kernel
theorem dX12_falls_66 : decode cX12_falls 66 = .ok (.aload_n 0, 1) := by decide +kernel
theorem dX12_falls_67 : decode cX12_falls 67 = .ok (.getfield 436, 3) := by decide +kernel
theorem dX12_falls_70 : decode cX12_falls 70 = .ok (.iload_n 3, 1) := by decide +kernel
theorem dX12_falls_71 : decode cX12_falls 71 = .ok (.imul, 1) := by decide +kernel
theorem dX12_falls_72 : decode cX12_falls 72 = .ok (.aload_n 0, 1) := by decide +kernel
theorem dX12_falls_73 : decode cX12_falls 73 = .ok (.getfield 436, 3) := by decide +kernel
theorem dX12_falls_76 : decode cX12_falls 76 = .ok (.aload_n 0, 1) := by decide +kernel
theorem dX12_falls_77 : decode cX12_falls 77 = .ok (.getfield 430, 3) := by decide +kernel
theorem dX12_falls_80 : decode cX12_falls 80 = .ok (.isub, 1) := by decide +kernel
theorem dX12_falls_81 : decode cX12_falls 81 = .ok (.iload 4, 2) := by decide +kernel
theorem dX12_falls_83 : decode cX12_falls 83 = .ok (.aload_n 0, 1) := by decide +kernel
theorem dX12_falls_84 : decode cX12_falls 84 = .ok (.getfield 433, 3) := by decide +kernel
theorem dX12_falls_87 : decode cX12_falls 87 = .ok (.isub, 1) := by decide +kernel
theorem dX12_falls_88 : decode cX12_falls 88 = .ok (.imul, 1) := by decide +kernel
theorem dX12_falls_89 : decode cX12_falls 89 = .ok (.iadd, 1) := by decide +kernel
theorem dX12_falls_90 : decode cX12_falls 90 = .ok (.istore 5, 2) := by decide +kernel
theorem dX12_falls_92 : decode cX12_falls 92 = .ok (.iload 5, 2) := by decide +kernel
theorem dX12_falls_94 : decode cX12_falls 94 = .ok (.iload_n 2, 1) := by decide +kernel
theorem dX12_falls_95 : decode cX12_falls 95 = .ok (.iload_n 3, 1) := by decide +kernel
theorem dX12_falls_96 : decode cX12_falls 96 = .ok (.imul, 1) := by decide +kernel
theorem dX12_falls_97 : decode cX12_falls 97 = .ok (.if_icmp .gt 12, 3) := by decide +kernel
theorem dX12_falls_100 : decode cX12_falls 100 = .ok (.iload 5, 2) := by decide +kernel
theorem dX12_falls_102 : decode cX12_falls 102 = .ok (.iload_n 2, 1) := by decide +kernel
theorem dX12_falls_103 : decode cX12_falls 103 = .ok (.ineg, 1) := by decide +kernel
theorem dX12_falls_104 : decode cX12_falls 104 = .ok (.iload_n 3, 1) := by decide +kernel
theorem dX12_falls_105 : decode cX12_falls 105 = .ok (.imul, 1) := by decide +kernel
theorem dX12_falls_106 : decode cX12_falls 106 = .ok (.if_icmp .ge 6, 3) := by decide +kernel
theorem dX12_falls_109 : decode cX12_falls 109 = .ok (.iload 4, 2) := by decide +kernel
theorem dX12_falls_111 : decode cX12_falls 111 = .ok (.ireturn, 1) := by decide +kernel
theorem dX12_falls_112 : decode cX12_falls 112 = .ok (.iinc 4 1, 3) := by decide +kernel
theorem dX12_falls_115 : decode cX12_falls 115 = .ok (.goto (-57), 3) := by decide +kernel
theorem dX12_falls_118 : decode cX12_falls 118 = .ok (.iconst (-1), 1) := by decide +kernel
theorem dX12_falls_119 : decode cX12_falls 119 = .ok (.ireturn, 1) := by decide +kernel
theorem dX12_look_0 : decode cX12_look 0 = .ok (.aload_n 0, 1) := by decide +kernel
theorem dX12_look_1 : decode cX12_look 1 = .ok (.iconst 0, 1) := by decide +kernel
theorem dX12_look_2 : decode cX12_look 2 = .ok (.putfield 188, 3) := by decide +kernel
theorem dX12_look_5 : decode cX12_look 5 = .ok (.iload_n 1, 1) := by decide +kernel
theorem dX12_look_6 : decode cX12_look 6 = .ok (.ifCond .ne 8, 3) := by decide +kernel
theorem dX12_look_9 : decode cX12_look 9 = .ok (.aload_n 0, 1) := by decide +kernel
theorem dX12_look_10 : decode cX12_look 10 = .ok (.getfield 205, 3) := by decide +kernel
theorem dX12_look_13 : decode cX12_look 13 = .ok (.ireturn, 1) := by decide +kernel
theorem dX12_look_14 : decode cX12_look 14 = .ok (.iload_n 1, 1) := by decide +kernel
theorem dX12_look_15 : decode cX12_look 15 = .ok (.iconst 1, 1) := by decide +kernel
theorem dX12_look_16 : decode cX12_look 16 = .ok (.if_icmp .ne 8, 3) := by decide +kernel
theorem dX12_look_19 : decode cX12_look 19 = .ok (.aload_n 0, 1) := by decide +kernel
theorem dX12_look_20 : decode cX12_look 20 = .ok (.getfield 9, 3) := by decide +kernel
theorem dX12_look_23 : decode cX12_look 23 = .ok (.ireturn, 1) := by decide +kernel
theorem dX12_look_24 : decode cX12_look 24 = .ok (.iconst 0, 1) := by decide +kernel
theorem dX12_look_25 : decode cX12_look 25 = .ok (.istore_n 2, 1) := by decide +kernel
theorem dX12_look_26 : decode cX12_look 26 = .ok (.iload_n 1, 1) := by decide +kernel
theorem dX12_look_27 : decode cX12_look 27 = .ok (.iconst 2, 1) := by decide +kernel
theorem dX12_look_28 : decode cX12_look 28 = .ok (.if_icmp .ne 33, 3) := by decide +kernel
theorem dX12_look_31 : decode cX12_look 31 = .ok (.iconst 0, 1) := by decide +kernel
theorem dX12_look_32 : decode cX12_look 32 = .ok (.istore_n 3, 1) := by decide +kernel
theorem dX12_look_33 : decode cX12_look 33 = .ok (.iload_n 3, 1) := by decide +kernel
theorem dX12_look_34 : decode cX12_look 34 = .ok (.aload_n 0, 1) := by decide +kernel
theorem dX12_look_35 : decode cX12_look 35 = .ok (.getfield 191, 3) := by decide +kernel
theorem dX12_look_38 : decode cX12_look 38 = .ok (.if_icmp .ge 21, 3) := by decide +kernel
theorem dX12_look_41 : decode cX12_look 41 = .ok (.aload_n 0, 1) := by decide +kernel
theorem dX12_look_42 : decode cX12_look 42 = .ok (.iload_n 3, 1) := by decide +kernel
theorem dX12_look_43 : decode cX12_look 43 = .ok (.invokevirtual 289, 3) := by decide +kernel
theorem dX12_look_46 : decode cX12_look 46 = .ok (.ifCond .eq 7, 3) := by decide +kernel
theorem dX12_look_49 : decode cX12_look 49 = .ok (.iload_n 2, 1) := by decide +kernel
theorem dX12_look_50 : decode cX12_look 50 = .ok (.iconst 1, 1) := by decide +kernel
theorem dX12_look_51 : decode cX12_look 51 = .ok (.iadd, 1) := by decide +kernel
theorem dX12_look_52 : decode cX12_look 52 = .ok (.istore_n 2, 1) := by decide +kernel
theorem dX12_look_53 : decode cX12_look 53 = .ok (.iinc 3 1, 3) := by decide +kernel
theorem dX12_look_56 : decode cX12_look 56 = .ok (.goto (-23), 3) := by decide +kernel
theorem dX12_look_59 : decode cX12_look 59 = .ok (.iload_n 2, 1) := by decide +kernel
theorem dX12_look_60 : decode cX12_look 60 = .ok (.ireturn, 1) := by decide +kernel
theorem dX12_look_61 : decode cX12_look 61 = .ok (.iload_n 1, 1) := by decide +kernel
theorem dX12_look_62 : decode cX12_look 62 = .ok (.iconst 3, 1) := by decide +kernel
theorem dX12_look_63 : decode cX12_look 63 = .ok (.if_icmp .ne 33, 3) := by decide +kernel
theorem dX12_look_66 : decode cX12_look 66 = .ok (.iconst 0, 1) := by decide +kernel
theorem dX12_look_67 : decode cX12_look 67 = .ok (.istore_n 3, 1) := by decide +kernel
theorem dX12_look_68 : decode cX12_look 68 = .ok (.iload_n 3, 1) := by decide +kernel
theorem dX12_look_69 : decode cX12_look 69 = .ok (.aload_n 0, 1) := by decide +kernel
theorem dX12_look_70 : decode cX12_look 70 = .ok (.getfield 198, 3) := by decide +kernel
theorem dX12_look_73 : decode cX12_look 73 = .ok (.if_icmp .ge 21, 3) := by decide +kernel
theorem dX12_look_76 : decode cX12_look 76 = .ok (.aload_n 0, 1) := by decide +kernel
theorem dX12_look_77 : decode cX12_look 77 = .ok (.iload_n 3, 1) := by decide +kernel
theorem dX12_look_78 : decode cX12_look 78 = .ok (.invokevirtual 286, 3) := by decide +kernel
theorem dX12_look_81 : decode cX12_look 81 = .ok (.ifCond .eq 7, 3) := by decide +kernel
theorem dX12_look_84 : decode cX12_look 84 = .ok (.iload_n 2, 1) := by decide +kernel
theorem dX12_look_85 : decode cX12_look 85 = .ok (.iconst 1, 1) := by decide +kernel
theorem dX12_look_86 : decode cX12_look 86 = .ok (.iadd, 1) := by decide +kernel
theorem dX12_look_87 : decode cX12_look 87 = .ok (.istore_n 2, 1) := by decide +kernel
theorem dX12_look_88 : decode cX12_look 88 = .ok (.iinc 3 1, 3) := by decide +kernel
theorem dX12_look_91 : decode cX12_look 91 = .ok (.goto (-23), 3) := by decide +kernel
theorem dX12_look_94 : decode cX12_look 94 = .ok (.iload_n 2, 1) := by decide +kernel
theorem dX12_look_95 : decode cX12_look 95 = .ok (.ireturn, 1) := by decide +kernel
theorem dX12_look_96 : decode cX12_look 96 = .ok (.aload_n 0, 1) := by decide +kernel
theorem dX12_look_97 : decode cX12_look 97 = .ok (.iload_n 1, 1) := by decide +kernel
theorem dX12_look_98 : decode cX12_look 98 = .ok (.iconst 4, 1) := by decide +kernel
theorem dX12_look_99 : decode cX12_look 99 = .ok (.bipush 6, 2) := by decide +kernel
theorem dX12_look_101 : decode cX12_look 101 = .ok (.invokevirtual 201, 3) := by decide +kernel
theorem dX12_look_104 : decode cX12_look 104 = .ok (.ifCond .ne 5, 3) := by decide +kernel
theorem dX12_look_107 : decode cX12_look 107 = .ok (.iconst (-1), 1) := by decide +kernel
theorem dX12_look_108 : decode cX12_look 108 = .ok (.ireturn, 1) := by decide +kernel
theorem dX12_look_109 : decode cX12_look 109 = .ok (.aload_n 0, 1) := by decide +kernel
theorem dX12_look_110 : decode cX12_look 110 = .ok (.iconst 1, 1) := by decide +kernel
theorem dX12_look_111 : decode cX12_look 111 = .ok (.invokevirtual 360, 3) := by decide +kernel
theorem dX12_look_114 : decode cX12_look 114 = .ok (.iload_n 1, 1) := by decide +kernel
theorem dX12_look_115 : decode cX12_look 115 = .ok (.iconst 4, 1) := by decide +kernel
theorem dX12_look_116 : decode cX12_look 116 = .ok (.if_icmp .le 75, 3) := by decide +kernel
theorem dX12_look_119 : decode cX12_look 119 = .ok (.iconst 0, 1) := by decide +kernel
theorem dX12_look_120 : decode cX12_look 120 = .ok (.istore_n 3, 1) := by decide +kernel
theorem dX12_look_121 : decode cX12_look 121 = .ok (.iload_n 3, 1) := by decide +kernel
theorem dX12_look_122 : decode cX12_look 122 = .ok (.aload_n 0, 1) := by decide +kernel
theorem dX12_look_123 : decode cX12_look 123 = .ok (.getfield 198, 3) := by decide +kernel
theorem dX12_look_126 : decode cX12_look 126 = .ok (.if_icmp .ge 63, 3) := by decide +kernel
theorem dX12_look_129 : decode cX12_look 129 = .ok (.aload_n 0, 1) := by decide +kernel
theorem dX12_look_130 : decode cX12_look 130 = .ok (.iload_n 3, 1) := by decide +kernel
theorem dX12_look_131 : decode cX12_look 131 = .ok (.invokevirtual 286, 3) := by decide +kernel
theorem dX12_look_134 : decode cX12_look 134 = .ok (.ifCond .eq 49, 3) := by decide +kernel
theorem dX12_look_137 : decode cX12_look 137 = .ok (.aload_n 0, 1) := by decide +kernel
theorem dX12_look_138 : decode cX12_look 138 = .ok (.getfield 48, 3) := by decide +kernel
theorem dX12_look_141 : decode cX12_look 141 = .ok (.iload_n 3, 1) := by decide +kernel
theorem dX12_look_142 : decode cX12_look 142 = .ok (.iaload, 1) := by decide +kernel
theorem dX12_look_143 : decode cX12_look 143 = .ok (.iload_n 1, 1) := by decide +kernel
theorem dX12_look_144 : decode cX12_look 144 = .ok (.iconst 5, 1) := by decide +kernel
theorem dX12_look_145 : decode cX12_look 145 = .ok (.if_icmp .ne 7, 3) := by decide +kernel
theorem dX12_look_148 : decode cX12_look 148 = .ok (.iconst 1, 1) := by decide +kernel
theorem dX12_look_149 : decode cX12_look 149 = .ok (.goto 4, 3) := by decide +kernel
theorem dX12_look_152 : decode cX12_look 152 = .ok (.iconst 0, 1) := by decide +kernel
theorem dX12_look_153 : decode cX12_look 153 = .ok (.if_icmp .ne 30, 3) := by decide +kernel
theorem dX12_look_156 : decode cX12_look 156 = .ok (.aload_n 0, 1) := by decide +kernel
theorem dX12_look_157 : decode cX12_look 157 = .ok (.getfield 126, 3) := by decide +kernel
theorem dX12_look_160 : decode cX12_look 160 = .ok (.iload_n 3, 1) := by decide +kernel
theorem dX12_look_161 : decode cX12_look 161 = .ok (.iaload, 1) := by decide +kernel
theorem dX12_look_162 : decode cX12_look 162 = .ok (.iconst (-1), 1) := by decide +kernel
theorem dX12_look_163 : decode cX12_look 163 = .ok (.if_icmp .ne 20, 3) := by decide +kernel
theorem dX12_look_166 : decode cX12_look 166 = .ok (.aload_n 0, 1) := by decide +kernel
theorem dX12_look_167 : decode cX12_look 167 = .ok (.getfield 126, 3) := by decide +kernel
theorem dX12_look_170 : decode cX12_look 170 = .ok (.bipush 48, 2) := by decide +kernel
theorem dX12_look_172 : decode cX12_look 172 = .ok (.iload_n 3, 1) := by decide +kernel
theorem dX12_look_173 : decode cX12_look 173 = .ok (.iadd, 1) := by decide +kernel
theorem dX12_look_174 : decode cX12_look 174 = .ok (.iaload, 1) := by decide +kernel
theorem dX12_look_175 : decode cX12_look 175 = .ok (.iconst (-1), 1) := by decide +kernel
theorem dX12_look_176 : decode cX12_look 176 = .ok (.if_icmp .ne 7, 3) := by decide +kernel
theorem dX12_look_179 : decode cX12_look 179 = .ok (.iload_n 2, 1) := by decide +kernel
theorem dX12_look_180 : decode cX12_look 180 = .ok (.iconst 1, 1) := by decide +kernel
theorem dX12_look_181 : decode cX12_look 181 = .ok (.iadd, 1) := by decide +kernel
theorem dX12_look_182 : decode cX12_look 182 = .ok (.istore_n 2, 1) := by decide +kernel
theorem dX12_look_183 : decode cX12_look 183 = .ok (.iinc 3 1, 3) := by decide +kernel
theorem dX12_look_186 : decode cX12_look 186 = .ok (.goto (-65), 3) := by decide +kernel
theorem dX12_look_189 : decode cX12_look 189 = .ok (.iload_n 2, 1) := by decide +kernel
theorem dX12_look_190 : decode cX12_look 190 = .ok (.ireturn, 1) := by decide +kernel
theorem dX12_look_191 : decode cX12_look 191 = .ok (.iconst 0, 1) := by decide +kernel
theorem dX12_look_192 : decode cX12_look 192 = .ok (.istore_n 3, 1) := by decide +kernel
theorem dX12_look_193 : decode cX12_look 193 = .ok (.iconst 0, 1) := by decide +kernel
theorem dX12_look_194 : decode cX12_look 194 = .ok (.istore 4, 2) := by decide +kernel
theorem dX12_look_196 : decode cX12_look 196 = .ok (.iconst 0, 1) := by decide +kernel
theorem dX12_look_197 : decode cX12_look 197 = .ok (.istore 5, 2) := by decide +kernel
theorem dX12_look_199 : decode cX12_look 199 = .ok (.iload 5, 2) := by decide +kernel
theorem dX12_look_201 : decode cX12_look 201 = .ok (.aload_n 0, 1) := by decide +kernel
theorem dX12_look_202 : decode cX12_look 202 = .ok (.getfield 198, 3) := by decide +kernel
theorem dX12_look_205 : decode cX12_look 205 = .ok (.if_icmp .ge 72, 3) := by decide +kernel
theorem dX12_look_208 : decode cX12_look 208 = .ok (.aload_n 0, 1) := by decide +kernel
theorem dX12_look_209 : decode cX12_look 209 = .ok (.iload 5, 2) := by decide +kernel
theorem dX12_look_211 : decode cX12_look 211 = .ok (.invokevirtual 286, 3) := by decide +kernel
theorem dX12_look_214 : decode cX12_look 214 = .ok (.ifCond .ne 6, 3) := by decide +kernel
theorem dX12_look_217 : decode cX12_look 217 = .ok (.goto 54, 3) := by decide +kernel
theorem dX12_look_220 : decode cX12_look 220 = .ok (.aload_n 0, 1) := by decide +kernel
theorem dX12_look_221 : decode cX12_look 221 = .ok (.getfield 126, 3) := by decide +kernel
theorem dX12_look_224 : decode cX12_look 224 = .ok (.iload 5, 2) := by decide +kernel
theorem dX12_look_226 : decode cX12_look 226 = .ok (.iaload, 1) := by decide +kernel
theorem dX12_look_227 : decode cX12_look 227 = .ok (.iconst (-1), 1) := by decide +kernel
theorem dX12_look_228 : decode cX12_look 228 = .ok (.if_icmp .eq 15, 3) := by decide +kernel
theorem dX12_look_231 : decode cX12_look 231 = .ok (.iload_n 3, 1) := by decide +kernel
theorem dX12_look_232 : decode cX12_look 232 = .ok (.iconst 1, 1) := by decide +kernel
theorem dX12_look_233 : decode cX12_look 233 = .ok (.aload_n 0, 1) := by decide +kernel
theorem dX12_look_234 : decode cX12_look 234 = .ok (.getfield 42, 3) := by decide +kernel
theorem dX12_look_237 : decode cX12_look 237 = .ok (.iload 5, 2) := by decide +kernel
theorem dX12_look_239 : decode cX12_look 239 = .ok (.iaload, 1) := by decide +kernel
theorem dX12_look_240 : decode cX12_look 240 = .ok (.ishl, 1) := by decide +kernel
theorem dX12_look_241 : decode cX12_look 241 = .ok (.ior, 1) := by decide +kernel
theorem dX12_look_242 : decode cX12_look 242 = .ok (.istore_n 3, 1) := by decide +kernel
theorem dX12_look_243 : decode cX12_look 243 = .ok (.aload_n 0, 1) := by decide +kernel
theorem dX12_look_244 : decode cX12_look 244 = .ok (.getfield 126, 3) := by decide +kernel
theorem dX12_look_247 : decode cX12_look 247 = .ok (.bipush 48, 2) := by decide +kernel
theorem dX12_look_249 : decode cX12_look 249 = .ok (.iload 5, 2) := by decide +kernel
theorem dX12_look_251 : decode cX12_look 251 = .ok (.iadd, 1) := by decide +kernel
theorem dX12_look_252 : decode cX12_look 252 = .ok (.iaload, 1) := by decide +kernel
theorem dX12_look_253 : decode cX12_look 253 = .ok (.iconst (-1), 1) := by decide +kernel
theorem dX12_look_254 : decode cX12_look 254 = .ok (.if_icmp .eq 17, 3) := by decide +kernel
theorem dX12_look_257 : decode cX12_look 257 = .ok (.iload 4, 2) := by decide +kernel
theorem dX12_look_259 : decode cX12_look 259 = .ok (.iconst 1, 1) := by decide +kernel
theorem dX12_look_260 : decode cX12_look 260 = .ok (.aload_n 0, 1) := by decide +kernel
theorem dX12_look_261 : decode cX12_look 261 = .ok (.getfield 42, 3) := by decide +kernel
theorem dX12_look_264 : decode cX12_look 264 = .ok (.iload 5, 2) := by decide +kernel
theorem dX12_look_266 : decode cX12_look 266 = .ok (.iaload, 1) := by decide +kernel
theorem dX12_look_267 : decode cX12_look 267 = .ok (.ishl, 1) := by decide +kernel
theorem dX12_look_268 : decode cX12_look 268 = .ok (.ior, 1) := by decide +kernel
theorem dX12_look_269 : decode cX12_look 269 = .ok (.istore 4, 2) := by decide +kernel
theorem dX12_look_271 : decode cX12_look 271 = .ok (.iinc 5 1, 3) := by decide +kernel
theorem dX12_look_274 : decode cX12_look 274 = .ok (.goto (-75), 3) := by decide +kernel
theorem dX12_look_277 : decode cX12_look 277 = .ok (.aload_n 0, 1) := by decide +kernel
theorem dX12_look_278 : decode cX12_look 278 = .ok (.iload_n 3, 1) := by decide +kernel
theorem dX12_look_279 : decode cX12_look 279 = .ok (.iload 4, 2) := by decide +kernel
theorem dX12_look_281 : decode cX12_look 281 = .ok (.iand, 1) := by decide +kernel
theorem dX12_look_282 : decode cX12_look 282 = .ok (.invokevirtual 372, 3) := by decide +kernel
theorem dX12_look_285 : decode cX12_look 285 = .ok (.ireturn, 1) := by decide +kernel
theorem dX12_says_0 : decode cX12_says 0 = .ok (.aload_n 0, 1) := by decide +kernel
theorem dX12_says_1 : decode cX12_says 1 = .ok (.getfield 185, 3) := by decide +kernel
theorem dX12_says_4 : decode cX12_says 4 = .ok (.aload_n 0, 1) := by decide +kernel
theorem dX12_says_5 : decode cX12_says 5 = .ok (.getfield 445, 3) := by decide +kernel
theorem dX12_says_8 : decode cX12_says 8 = .ok (.iload_n 1, 1) := by decide +kernel
theorem dX12_says_9 : decode cX12_says 9 = .ok (.iastore, 1) := by decide +kernel
theorem dX12_says_10 : decode cX12_says 10 = .ok (.aload_n 0, 1) := by decide +kernel
theorem dX12_says_11 : decode cX12_says 11 = .ok (.aload_n 0, 1) := by decide +kernel
theorem dX12_says_12 : decode cX12_says 12 = .ok (.getfield 445, 3) := by decide +kernel
theorem dX12_says_15 : decode cX12_says 15 = .ok (.iconst 1, 1) := by decide +kernel
theorem dX12_says_16 : decode cX12_says 16 = .ok (.iadd, 1) := by decide +kernel
theorem dX12_says_17 : decode cX12_says 17 = .ok (.putfield 445, 3) := by decide +kernel
theorem dX12_says_20 : decode cX12_says 20 = .ok (.return_, 1) := by decide +kernel
theorem dX12_saysNumber_0 : decode cX12_saysNumber 0 = .ok (.iload_n 1, 1) := by decide +kernel
theorem dX12_saysNumber_1 : decode cX12_saysNumber 1 = .ok (.bipush 9, 2) := by decide +kernel
theorem dX12_saysNumber_3 : decode cX12_saysNumber 3 = .ok (.if_icmp .le 14, 3) := by decide +kernel
theorem dX12_saysNumber_6 : decode cX12_saysNumber 6 = .ok (.aload_n 0, 1) := by decide +kernel
theorem dX12_saysNumber_7 : decode cX12_saysNumber 7 = .ok (.bipush 48, 2) := by decide +kernel
theorem dX12_saysNumber_9 : decode cX12_saysNumber 9 = .ok (.iload_n 1, 1) := by decide +kernel
theorem dX12_saysNumber_10 : decode cX12_saysNumber 10 = .ok (.bipush 10, 2) := by decide +kernel
theorem dX12_saysNumber_12 : decode cX12_saysNumber 12 = .ok (.idiv, 1) := by decide +kernel
theorem dX12_saysNumber_13 : decode cX12_saysNumber 13 = .ok (.iadd, 1) := by decide +kernel
theorem dX12_saysNumber_14 : decode cX12_saysNumber 14 = .ok (.invokevirtual 448, 3) := by decide +kernel
theorem dX12_saysNumber_17 : decode cX12_saysNumber 17 = .ok (.aload_n 0, 1) := by decide +kernel
theorem dX12_saysNumber_18 : decode cX12_saysNumber 18 = .ok (.bipush 48, 2) := by decide +kernel
theorem dX12_saysNumber_20 : decode cX12_saysNumber 20 = .ok (.iload_n 1, 1) := by decide +kernel
theorem dX12_saysNumber_21 : decode cX12_saysNumber 21 = .ok (.bipush 10, 2) := by decide +kernel
theorem dX12_saysNumber_23 : decode cX12_saysNumber 23 = .ok (.irem, 1) := by decide +kernel
theorem dX12_saysNumber_24 : decode cX12_saysNumber 24 = .ok (.iadd, 1) := by decide +kernel
theorem dX12_saysNumber_25 : decode cX12_saysNumber 25 = .ok (.invokevirtual 448, 3) := by decide +kernel
theorem dX12_saysNumber_28 : decode cX12_saysNumber 28 = .ok (.return_, 1) := by decide +kernel
theorem dX12_write_0 : decode cX12_write 0 = .ok (.aload_n 0, 1) := by decide +kernel
theorem dX12_write_1 : decode cX12_write 1 = .ok (.iconst 0, 1) := by decide +kernel
theorem dX12_write_2 : decode cX12_write 2 = .ok (.putfield 188, 3) := by decide +kernel
theorem dX12_write_5 : decode cX12_write 5 = .ok (.aload_n 0, 1) := by decide +kernel
theorem dX12_write_6 : decode cX12_write 6 = .ok (.iload_n 1, 1) := by decide +kernel
theorem dX12_write_7 : decode cX12_write 7 = .ok (.iconst 0, 1) := by decide +kernel
theorem dX12_write_8 : decode cX12_write 8 = .ok (.iconst 1, 1) := by decide +kernel
theorem dX12_write_9 : decode cX12_write 9 = .ok (.invokevirtual 201, 3) := by decide +kernel
theorem dX12_write_12 : decode cX12_write 12 = .ok (.ifCond .ne 5, 3) := by decide +kernel
theorem dX12_write_15 : decode cX12_write 15 = .ok (.iconst (-1), 1) := by decide +kernel
theorem dX12_write_16 : decode cX12_write 16 = .ok (.ireturn, 1) := by decide +kernel
theorem dX12_write_17 : decode cX12_write 17 = .ok (.aload_n 0, 1) := by decide +kernel
theorem dX12_write_18 : decode cX12_write 18 = .ok (.iload_n 1, 1) := by decide +kernel
theorem dX12_write_19 : decode cX12_write 19 = .ok (.invokevirtual 360, 3) := by decide +kernel
theorem dX12_write_22 : decode cX12_write 22 = .ok (.aload_n 0, 1) := by decide +kernel
theorem dX12_write_23 : decode cX12_write 23 = .ok (.iconst 0, 1) := by decide +kernel
theorem dX12_write_24 : decode cX12_write 24 = .ok (.putfield 445, 3) := by decide +kernel
theorem dX12_write_27 : decode cX12_write 27 = .ok (.iconst 0, 1) := by decide +kernel
theorem dX12_write_28 : decode cX12_write 28 = .ok (.istore_n 2, 1) := by decide +kernel
theorem dX12_write_29 : decode cX12_write 29 = .ok (.iload_n 2, 1) := by decide +kernel
theorem dX12_write_30 : decode cX12_write 30 = .ok (.aload_n 0, 1) := by decide +kernel
theorem dX12_write_31 : decode cX12_write 31 = .ok (.getfield 198, 3) := by decide +kernel
theorem dX12_write_34 : decode cX12_write 34 = .ok (.if_icmp .ge 96, 3) := by decide +kernel
theorem dX12_write_37 : decode cX12_write 37 = .ok (.aload_n 0, 1) := by decide +kernel
theorem dX12_write_38 : decode cX12_write 38 = .ok (.iload_n 2, 1) := by decide +kernel
theorem dX12_write_39 : decode cX12_write 39 = .ok (.invokevirtual 286, 3) := by decide +kernel
theorem dX12_write_42 : decode cX12_write 42 = .ok (.ifCond .eq 82, 3) := by decide +kernel
theorem dX12_write_45 : decode cX12_write 45 = .ok (.aload_n 0, 1) := by decide +kernel
theorem dX12_write_46 : decode cX12_write 46 = .ok (.getfield 48, 3) := by decide +kernel
theorem dX12_write_49 : decode cX12_write 49 = .ok (.iload_n 2, 1) := by decide +kernel
theorem dX12_write_50 : decode cX12_write 50 = .ok (.iaload, 1) := by decide +kernel
theorem dX12_write_51 : decode cX12_write 51 = .ok (.ifCond .ne 73, 3) := by decide +kernel
theorem dX12_write_54 : decode cX12_write 54 = .ok (.aload_n 0, 1) := by decide +kernel
theorem dX12_write_55 : decode cX12_write 55 = .ok (.getfield 126, 3) := by decide +kernel
theorem dX12_write_58 : decode cX12_write 58 = .ok (.bipush 48, 2) := by decide +kernel
theorem dX12_write_60 : decode cX12_write 60 = .ok (.iload_n 1, 1) := by decide +kernel
theorem dX12_write_61 : decode cX12_write 61 = .ok (.imul, 1) := by decide +kernel
theorem dX12_write_62 : decode cX12_write 62 = .ok (.iload_n 2, 1) := by decide +kernel
theorem dX12_write_63 : decode cX12_write 63 = .ok (.iadd, 1) := by decide +kernel
theorem dX12_write_64 : decode cX12_write 64 = .ok (.iaload, 1) := by decide +kernel
theorem dX12_write_65 : decode cX12_write 65 = .ok (.iconst (-1), 1) := by decide +kernel
theorem dX12_write_66 : decode cX12_write 66 = .ok (.if_icmp .ne 6, 3) := by decide +kernel
theorem dX12_write_69 : decode cX12_write 69 = .ok (.goto 55, 3) := by decide +kernel
theorem dX12_write_72 : decode cX12_write 72 = .ok (.aload_n 0, 1) := by decide +kernel
theorem dX12_write_73 : decode cX12_write 73 = .ok (.iload_n 2, 1) := by decide +kernel
theorem dX12_write_74 : decode cX12_write 74 = .ok (.invokevirtual 451, 3) := by decide +kernel
theorem dX12_write_77 : decode cX12_write 77 = .ok (.aload_n 0, 1) := by decide +kernel
theorem dX12_write_78 : decode cX12_write 78 = .ok (.bipush 45, 2) := by decide +kernel
theorem dX12_write_80 : decode cX12_write 80 = .ok (.invokevirtual 448, 3) := by decide +kernel
theorem dX12_write_83 : decode cX12_write 83 = .ok (.aload_n 0, 1) := by decide +kernel
theorem dX12_write_84 : decode cX12_write 84 = .ok (.aload_n 0, 1) := by decide +kernel
theorem dX12_write_85 : decode cX12_write 85 = .ok (.getfield 126, 3) := by decide +kernel
theorem dX12_write_88 : decode cX12_write 88 = .ok (.bipush 48, 2) := by decide +kernel
theorem dX12_write_90 : decode cX12_write 90 = .ok (.iload_n 1, 1) := by decide +kernel
theorem dX12_write_91 : decode cX12_write 91 = .ok (.imul, 1) := by decide +kernel
theorem dX12_write_92 : decode cX12_write 92 = .ok (.iload_n 2, 1) := by decide +kernel
theorem dX12_write_93 : decode cX12_write 93 = .ok (.iadd, 1) := by decide +kernel
theorem dX12_write_94 : decode cX12_write 94 = .ok (.iaload, 1) := by decide +kernel
theorem dX12_write_95 : decode cX12_write 95 = .ok (.invokevirtual 451, 3) := by decide +kernel
theorem dX12_write_98 : decode cX12_write 98 = .ok (.aload_n 0, 1) := by decide +kernel
theorem dX12_write_99 : decode cX12_write 99 = .ok (.getfield 129, 3) := by decide +kernel
theorem dX12_write_102 : decode cX12_write 102 = .ok (.bipush 48, 2) := by decide +kernel
theorem dX12_write_104 : decode cX12_write 104 = .ok (.iload_n 1, 1) := by decide +kernel
theorem dX12_write_105 : decode cX12_write 105 = .ok (.imul, 1) := by decide +kernel
theorem dX12_write_106 : decode cX12_write 106 = .ok (.iload_n 2, 1) := by decide +kernel
theorem dX12_write_107 : decode cX12_write 107 = .ok (.iadd, 1) := by decide +kernel
theorem dX12_write_108 : decode cX12_write 108 = .ok (.baload, 1) := by decide +kernel
theorem dX12_write_109 : decode cX12_write 109 = .ok (.ifCond .eq 9, 3) := by decide +kernel
theorem dX12_write_112 : decode cX12_write 112 = .ok (.aload_n 0, 1) := by decide +kernel
theorem dX12_write_113 : decode cX12_write 113 = .ok (.bipush 33, 2) := by decide +kernel
theorem dX12_write_115 : decode cX12_write 115 = .ok (.invokevirtual 448, 3) := by decide +kernel
theorem dX12_write_118 : decode cX12_write 118 = .ok (.aload_n 0, 1) := by decide +kernel
theorem dX12_write_119 : decode cX12_write 119 = .ok (.bipush 59, 2) := by decide +kernel
theorem dX12_write_121 : decode cX12_write 121 = .ok (.invokevirtual 448, 3) := by decide +kernel
theorem dX12_write_124 : decode cX12_write 124 = .ok (.iinc 2 1, 3) := by decide +kernel
theorem dX12_write_127 : decode cX12_write 127 = .ok (.goto (-98), 3) := by decide +kernel
theorem dX12_write_130 : decode cX12_write 130 = .ok (.aload_n 0, 1) := by decide +kernel
theorem dX12_write_131 : decode cX12_write 131 = .ok (.getfield 445, 3) := by decide +kernel
theorem dX12_write_134 : decode cX12_write 134 = .ok (.ireturn, 1) := by decide +kernel
theorem dX12_out_0 : decode cX12_out 0 = .ok (.aload_n 0, 1) := by decide +kernel
theorem dX12_out_1 : decode cX12_out 1 = .ok (.iconst 0, 1) := by decide +kernel
theorem dX12_out_2 : decode cX12_out 2 = .ok (.putfield 188, 3) := by decide +kernel
theorem dX12_out_5 : decode cX12_out 5 = .ok (.aload_n 0, 1) := by decide +kernel
theorem dX12_out_6 : decode cX12_out 6 = .ok (.iload_n 1, 1) := by decide +kernel
theorem dX12_out_7 : decode cX12_out 7 = .ok (.iconst 0, 1) := by decide +kernel
theorem dX12_out_8 : decode cX12_out 8 = .ok (.aload_n 0, 1) := by decide +kernel
theorem dX12_out_9 : decode cX12_out 9 = .ok (.getfield 445, 3) := by decide +kernel
theorem dX12_out_12 : decode cX12_out 12 = .ok (.iconst 1, 1) := by decide +kernel
theorem dX12_out_13 : decode cX12_out 13 = .ok (.isub, 1) := by decide +kernel
theorem dX12_out_14 : decode cX12_out 14 = .ok (.invokevirtual 201, 3) := by decide +kernel
theorem dX12_out_17 : decode cX12_out 17 = .ok (.ifCond .eq 12, 3) := by decide +kernel
theorem dX12_out_20 : decode cX12_out 20 = .ok (.aload_n 0, 1) := by decide +kernel
theorem dX12_out_21 : decode cX12_out 21 = .ok (.getfield 185, 3) := by decide +kernel
theorem dX12_out_24 : decode cX12_out 24 = .ok (.iload_n 1, 1) := by decide +kernel
theorem dX12_out_25 : decode cX12_out 25 = .ok (.iaload, 1) := by decide +kernel
theorem dX12_out_26 : decode cX12_out 26 = .ok (.goto 4, 3) := by decide +kernel
theorem dX12_out_29 : decode cX12_out 29 = .ok (.iconst (-1), 1) := by decide +kernel
theorem dX12_out_30 : decode cX12_out 30 = .ok (.ireturn, 1) := by decide +kernel
theorem dJ6_bitCount_0f7a4_0 : decode cJ6_bitCount_0f7a4 0 = .ok (.iload_n 0, 1) := by decide +kernel
theorem dJ6_bitCount_0f7a4_1 : decode cJ6_bitCount_0f7a4 1 = .ok (.iload_n 0, 1) := by decide +kernel
theorem dJ6_bitCount_0f7a4_2 : decode cJ6_bitCount_0f7a4 2 = .ok (.iconst 1, 1) := by decide +kernel
theorem dJ6_bitCount_0f7a4_3 : decode cJ6_bitCount_0f7a4 3 = .ok (.iushr, 1) := by decide +kernel
theorem dJ6_bitCount_0f7a4_4 : decode cJ6_bitCount_0f7a4 4 = .ok (.ldc_w 265, 3) := by decide +kernel
theorem dJ6_bitCount_0f7a4_7 : decode cJ6_bitCount_0f7a4 7 = .ok (.iand, 1) := by decide +kernel
theorem dJ6_bitCount_0f7a4_8 : decode cJ6_bitCount_0f7a4 8 = .ok (.isub, 1) := by decide +kernel
theorem dJ6_bitCount_0f7a4_9 : decode cJ6_bitCount_0f7a4 9 = .ok (.istore_n 0, 1) := by decide +kernel
theorem dJ6_bitCount_0f7a4_10 : decode cJ6_bitCount_0f7a4 10 = .ok (.iload_n 0, 1) := by decide +kernel
theorem dJ6_bitCount_0f7a4_11 : decode cJ6_bitCount_0f7a4 11 = .ok (.ldc_w 266, 3) := by decide +kernel
theorem dJ6_bitCount_0f7a4_14 : decode cJ6_bitCount_0f7a4 14 = .ok (.iand, 1) := by decide +kernel
theorem dJ6_bitCount_0f7a4_15 : decode cJ6_bitCount_0f7a4 15 = .ok (.iload_n 0, 1) := by decide +kernel
theorem dJ6_bitCount_0f7a4_16 : decode cJ6_bitCount_0f7a4 16 = .ok (.iconst 2, 1) := by decide +kernel
theorem dJ6_bitCount_0f7a4_17 : decode cJ6_bitCount_0f7a4 17 = .ok (.iushr, 1) := by decide +kernel
theorem dJ6_bitCount_0f7a4_18 : decode cJ6_bitCount_0f7a4 18 = .ok (.ldc_w 266, 3) := by decide +kernel
theorem dJ6_bitCount_0f7a4_21 : decode cJ6_bitCount_0f7a4 21 = .ok (.iand, 1) := by decide +kernel
theorem dJ6_bitCount_0f7a4_22 : decode cJ6_bitCount_0f7a4 22 = .ok (.iadd, 1) := by decide +kernel
theorem dJ6_bitCount_0f7a4_23 : decode cJ6_bitCount_0f7a4 23 = .ok (.istore_n 0, 1) := by decide +kernel
theorem dJ6_bitCount_0f7a4_24 : decode cJ6_bitCount_0f7a4 24 = .ok (.iload_n 0, 1) := by decide +kernel
theorem dJ6_bitCount_0f7a4_25 : decode cJ6_bitCount_0f7a4 25 = .ok (.iload_n 0, 1) := by decide +kernel
theorem dJ6_bitCount_0f7a4_26 : decode cJ6_bitCount_0f7a4 26 = .ok (.iconst 4, 1) := by decide +kernel
theorem dJ6_bitCount_0f7a4_27 : decode cJ6_bitCount_0f7a4 27 = .ok (.iushr, 1) := by decide +kernel
theorem dJ6_bitCount_0f7a4_28 : decode cJ6_bitCount_0f7a4 28 = .ok (.iadd, 1) := by decide +kernel
theorem dJ6_bitCount_0f7a4_29 : decode cJ6_bitCount_0f7a4 29 = .ok (.ldc_w 267, 3) := by decide +kernel
theorem dJ6_bitCount_0f7a4_32 : decode cJ6_bitCount_0f7a4 32 = .ok (.iand, 1) := by decide +kernel
theorem dJ6_bitCount_0f7a4_33 : decode cJ6_bitCount_0f7a4 33 = .ok (.istore_n 0, 1) := by decide +kernel
theorem dJ6_bitCount_0f7a4_34 : decode cJ6_bitCount_0f7a4 34 = .ok (.iload_n 0, 1) := by decide +kernel
theorem dJ6_bitCount_0f7a4_35 : decode cJ6_bitCount_0f7a4 35 = .ok (.iload_n 0, 1) := by decide +kernel
theorem dJ6_bitCount_0f7a4_36 : decode cJ6_bitCount_0f7a4 36 = .ok (.bipush 8, 2) := by decide +kernel
theorem dJ6_bitCount_0f7a4_38 : decode cJ6_bitCount_0f7a4 38 = .ok (.iushr, 1) := by decide +kernel
theorem dJ6_bitCount_0f7a4_39 : decode cJ6_bitCount_0f7a4 39 = .ok (.iadd, 1) := by decide +kernel
theorem dJ6_bitCount_0f7a4_40 : decode cJ6_bitCount_0f7a4 40 = .ok (.istore_n 0, 1) := by decide +kernel
theorem dJ6_bitCount_0f7a4_41 : decode cJ6_bitCount_0f7a4 41 = .ok (.iload_n 0, 1) := by decide +kernel
theorem dJ6_bitCount_0f7a4_42 : decode cJ6_bitCount_0f7a4 42 = .ok (.iload_n 0, 1) := by decide +kernel
theorem dJ6_bitCount_0f7a4_43 : decode cJ6_bitCount_0f7a4 43 = .ok (.bipush 16, 2) := by decide +kernel
theorem dJ6_bitCount_0f7a4_45 : decode cJ6_bitCount_0f7a4 45 = .ok (.iushr, 1) := by decide +kernel
theorem dJ6_bitCount_0f7a4_46 : decode cJ6_bitCount_0f7a4 46 = .ok (.iadd, 1) := by decide +kernel
theorem dJ6_bitCount_0f7a4_47 : decode cJ6_bitCount_0f7a4 47 = .ok (.istore_n 0, 1) := by decide +kernel
theorem dJ6_bitCount_0f7a4_48 : decode cJ6_bitCount_0f7a4 48 = .ok (.iload_n 0, 1) := by decide +kernel
theorem dJ6_bitCount_0f7a4_49 : decode cJ6_bitCount_0f7a4 49 = .ok (.bipush 63, 2) := by decide +kernel
theorem dJ6_bitCount_0f7a4_51 : decode cJ6_bitCount_0f7a4 51 = .ok (.iand, 1) := by decide +kernel
theorem dJ6_bitCount_0f7a4_52 : decode cJ6_bitCount_0f7a4 52 = .ok (.ireturn, 1) := by decide +kernel
theorem dJ13_bitCount_95d88_0 : decode cJ13_bitCount_95d88 0 = .ok (.lload_n 0, 1) := by decide +kernel
theorem dJ13_bitCount_95d88_1 : decode cJ13_bitCount_95d88 1 = .ok (.lload_n 0, 1) := by decide +kernel
theorem dJ13_bitCount_95d88_2 : decode cJ13_bitCount_95d88 2 = .ok (.iconst 1, 1) := by decide +kernel
theorem dJ13_bitCount_95d88_3 : decode cJ13_bitCount_95d88 3 = .ok (.lushr, 1) := by decide +kernel
theorem dJ13_bitCount_95d88_4 : decode cJ13_bitCount_95d88 4 = .ok (.ldc2_w 314, 3) := by decide +kernel
theorem dJ13_bitCount_95d88_7 : decode cJ13_bitCount_95d88 7 = .ok (.land, 1) := by decide +kernel
theorem dJ13_bitCount_95d88_8 : decode cJ13_bitCount_95d88 8 = .ok (.lsub, 1) := by decide +kernel
theorem dJ13_bitCount_95d88_9 : decode cJ13_bitCount_95d88 9 = .ok (.lstore_n 0, 1) := by decide +kernel
theorem dJ13_bitCount_95d88_10 : decode cJ13_bitCount_95d88 10 = .ok (.lload_n 0, 1) := by decide +kernel
theorem dJ13_bitCount_95d88_11 : decode cJ13_bitCount_95d88 11 = .ok (.ldc2_w 316, 3) := by decide +kernel
theorem dJ13_bitCount_95d88_14 : decode cJ13_bitCount_95d88 14 = .ok (.land, 1) := by decide +kernel
theorem dJ13_bitCount_95d88_15 : decode cJ13_bitCount_95d88 15 = .ok (.lload_n 0, 1) := by decide +kernel
theorem dJ13_bitCount_95d88_16 : decode cJ13_bitCount_95d88 16 = .ok (.iconst 2, 1) := by decide +kernel
theorem dJ13_bitCount_95d88_17 : decode cJ13_bitCount_95d88 17 = .ok (.lushr, 1) := by decide +kernel
theorem dJ13_bitCount_95d88_18 : decode cJ13_bitCount_95d88 18 = .ok (.ldc2_w 316, 3) := by decide +kernel
theorem dJ13_bitCount_95d88_21 : decode cJ13_bitCount_95d88 21 = .ok (.land, 1) := by decide +kernel
theorem dJ13_bitCount_95d88_22 : decode cJ13_bitCount_95d88 22 = .ok (.ladd, 1) := by decide +kernel
theorem dJ13_bitCount_95d88_23 : decode cJ13_bitCount_95d88 23 = .ok (.lstore_n 0, 1) := by decide +kernel
theorem dJ13_bitCount_95d88_24 : decode cJ13_bitCount_95d88 24 = .ok (.lload_n 0, 1) := by decide +kernel
theorem dJ13_bitCount_95d88_25 : decode cJ13_bitCount_95d88 25 = .ok (.lload_n 0, 1) := by decide +kernel
theorem dJ13_bitCount_95d88_26 : decode cJ13_bitCount_95d88 26 = .ok (.iconst 4, 1) := by decide +kernel
theorem dJ13_bitCount_95d88_27 : decode cJ13_bitCount_95d88 27 = .ok (.lushr, 1) := by decide +kernel
theorem dJ13_bitCount_95d88_28 : decode cJ13_bitCount_95d88 28 = .ok (.ladd, 1) := by decide +kernel
theorem dJ13_bitCount_95d88_29 : decode cJ13_bitCount_95d88 29 = .ok (.ldc2_w 318, 3) := by decide +kernel
theorem dJ13_bitCount_95d88_32 : decode cJ13_bitCount_95d88 32 = .ok (.land, 1) := by decide +kernel
theorem dJ13_bitCount_95d88_33 : decode cJ13_bitCount_95d88 33 = .ok (.lstore_n 0, 1) := by decide +kernel
theorem dJ13_bitCount_95d88_34 : decode cJ13_bitCount_95d88 34 = .ok (.lload_n 0, 1) := by decide +kernel
theorem dJ13_bitCount_95d88_35 : decode cJ13_bitCount_95d88 35 = .ok (.lload_n 0, 1) := by decide +kernel
theorem dJ13_bitCount_95d88_36 : decode cJ13_bitCount_95d88 36 = .ok (.bipush 8, 2) := by decide +kernel
theorem dJ13_bitCount_95d88_38 : decode cJ13_bitCount_95d88 38 = .ok (.lushr, 1) := by decide +kernel
theorem dJ13_bitCount_95d88_39 : decode cJ13_bitCount_95d88 39 = .ok (.ladd, 1) := by decide +kernel
theorem dJ13_bitCount_95d88_40 : decode cJ13_bitCount_95d88 40 = .ok (.lstore_n 0, 1) := by decide +kernel
theorem dJ13_bitCount_95d88_41 : decode cJ13_bitCount_95d88 41 = .ok (.lload_n 0, 1) := by decide +kernel
theorem dJ13_bitCount_95d88_42 : decode cJ13_bitCount_95d88 42 = .ok (.lload_n 0, 1) := by decide +kernel
theorem dJ13_bitCount_95d88_43 : decode cJ13_bitCount_95d88 43 = .ok (.bipush 16, 2) := by decide +kernel
theorem dJ13_bitCount_95d88_45 : decode cJ13_bitCount_95d88 45 = .ok (.lushr, 1) := by decide +kernel
theorem dJ13_bitCount_95d88_46 : decode cJ13_bitCount_95d88 46 = .ok (.ladd, 1) := by decide +kernel
theorem dJ13_bitCount_95d88_47 : decode cJ13_bitCount_95d88 47 = .ok (.lstore_n 0, 1) := by decide +kernel
theorem dJ13_bitCount_95d88_48 : decode cJ13_bitCount_95d88 48 = .ok (.lload_n 0, 1) := by decide +kernel
theorem dJ13_bitCount_95d88_49 : decode cJ13_bitCount_95d88 49 = .ok (.lload_n 0, 1) := by decide +kernel
theorem dJ13_bitCount_95d88_50 : decode cJ13_bitCount_95d88 50 = .ok (.bipush 32, 2) := by decide +kernel
theorem dJ13_bitCount_95d88_52 : decode cJ13_bitCount_95d88 52 = .ok (.lushr, 1) := by decide +kernel
theorem dJ13_bitCount_95d88_53 : decode cJ13_bitCount_95d88 53 = .ok (.ladd, 1) := by decide +kernel
theorem dJ13_bitCount_95d88_54 : decode cJ13_bitCount_95d88 54 = .ok (.lstore_n 0, 1) := by decide +kernel
theorem dJ13_bitCount_95d88_55 : decode cJ13_bitCount_95d88 55 = .ok (.lload_n 0, 1) := by decide +kernel
theorem dJ13_bitCount_95d88_56 : decode cJ13_bitCount_95d88 56 = .ok (.l2i, 1) := by decide +kernel
theorem dJ13_bitCount_95d88_57 : decode cJ13_bitCount_95d88 57 = .ok (.bipush 127, 2) := by decide +kernel
theorem dJ13_bitCount_95d88_59 : decode cJ13_bitCount_95d88 59 = .ok (.iand, 1) := by decide +kernel
theorem dJ13_bitCount_95d88_60 : decode cJ13_bitCount_95d88 60 = .ok (.ireturn, 1) := by decide +kernel
theorem dJ9_abs_0f7a4_0 : decode cJ9_abs_0f7a4 0 = .ok (.iload_n 0, 1) := by decide +kernel
theorem dJ9_abs_0f7a4_1 : decode cJ9_abs_0f7a4 1 = .ok (.ifCond .ge 8, 3) := by decide +kernel
theorem dJ9_abs_0f7a4_4 : decode cJ9_abs_0f7a4 4 = .ok (.iload_n 0, 1) := by decide +kernel
theorem dJ9_abs_0f7a4_5 : decode cJ9_abs_0f7a4 5 = .ok (.ineg, 1) := by decide +kernel
theorem dJ9_abs_0f7a4_6 : decode cJ9_abs_0f7a4 6 = .ok (.goto 4, 3) := by decide +kernel
theorem dJ9_abs_0f7a4_9 : decode cJ9_abs_0f7a4 9 = .ok (.iload_n 0, 1) := by decide +kernel
theorem dJ9_abs_0f7a4_10 : decode cJ9_abs_0f7a4 10 = .ok (.ireturn, 1) := by decide +kernel
theorem dJ9_max_7cf53_0 : decode cJ9_max_7cf53 0 = .ok (.iload_n 0, 1) := by decide +kernel
theorem dJ9_max_7cf53_1 : decode cJ9_max_7cf53 1 = .ok (.iload_n 1, 1) := by decide +kernel
theorem dJ9_max_7cf53_2 : decode cJ9_max_7cf53 2 = .ok (.if_icmp .lt 7, 3) := by decide +kernel
theorem dJ9_max_7cf53_5 : decode cJ9_max_7cf53 5 = .ok (.iload_n 0, 1) := by decide +kernel
theorem dJ9_max_7cf53_6 : decode cJ9_max_7cf53 6 = .ok (.goto 4, 3) := by decide +kernel
theorem dJ9_max_7cf53_9 : decode cJ9_max_7cf53 9 = .ok (.iload_n 1, 1) := by decide +kernel
theorem dJ9_max_7cf53_10 : decode cJ9_max_7cf53 10 = .ok (.ireturn, 1) := by decide +kernel
theorem dJ9_min_7cf53_0 : decode cJ9_min_7cf53 0 = .ok (.iload_n 0, 1) := by decide +kernel
theorem dJ9_min_7cf53_1 : decode cJ9_min_7cf53 1 = .ok (.iload_n 1, 1) := by decide +kernel
theorem dJ9_min_7cf53_2 : decode cJ9_min_7cf53 2 = .ok (.if_icmp .gt 7, 3) := by decide +kernel
theorem dJ9_min_7cf53_5 : decode cJ9_min_7cf53 5 = .ok (.iload_n 0, 1) := by decide +kernel
theorem dJ9_min_7cf53_6 : decode cJ9_min_7cf53 6 = .ok (.goto 4, 3) := by decide +kernel
theorem dJ9_min_7cf53_9 : decode cJ9_min_7cf53 9 = .ok (.iload_n 1, 1) := by decide +kernel
theorem dJ9_min_7cf53_10 : decode cJ9_min_7cf53 10 = .ok (.ireturn, 1) := by decide +kernel
theorem dJ0_length_8abf5_0 : decode cJ0_length_8abf5 0 = .ok (.aload_n 0, 1) := by decide +kernel
theorem dJ0_length_8abf5_1 : decode cJ0_length_8abf5 1 = .ok (.getfield 9, 3) := by decide +kernel
theorem dJ0_length_8abf5_4 : decode cJ0_length_8abf5 4 = .ok (.arraylength, 1) := by decide +kernel
theorem dJ0_length_8abf5_5 : decode cJ0_length_8abf5 5 = .ok (.aload_n 0, 1) := by decide +kernel
theorem dJ0_length_8abf5_6 : decode cJ0_length_8abf5 6 = .ok (.invokevirtual 335, 3) := by decide +kernel
theorem dJ0_length_8abf5_9 : decode cJ0_length_8abf5 9 = .ok (.ishr, 1) := by decide +kernel
theorem dJ0_length_8abf5_10 : decode cJ0_length_8abf5 10 = .ok (.ireturn, 1) := by decide +kernel
theorem dJ0_charAt_5068e_0 : decode cJ0_charAt_5068e 0 = .ok (.aload_n 0, 1) := by decide +kernel
theorem dJ0_charAt_5068e_1 : decode cJ0_charAt_5068e 1 = .ok (.invokevirtual 492, 3) := by decide +kernel
theorem dJ0_charAt_5068e_4 : decode cJ0_charAt_5068e 4 = .ok (.ifCond .eq 12, 3) := by decide +kernel
theorem dJ0_charAt_5068e_7 : decode cJ0_charAt_5068e 7 = .ok (.aload_n 0, 1) := by decide +kernel
theorem dJ0_charAt_5068e_8 : decode cJ0_charAt_5068e 8 = .ok (.getfield 9, 3) := by decide +kernel
theorem dJ0_charAt_5068e_11 : decode cJ0_charAt_5068e 11 = .ok (.iload_n 1, 1) := by decide +kernel
theorem dJ0_charAt_5068e_12 : decode cJ0_charAt_5068e 12 = .ok (.invokestatic 495, 3) := by decide +kernel
theorem dJ0_charAt_5068e_15 : decode cJ0_charAt_5068e 15 = .ok (.ireturn, 1) := by decide +kernel
theorem dJ0_charAt_5068e_16 : decode cJ0_charAt_5068e 16 = .ok (.aload_n 0, 1) := by decide +kernel
theorem dJ0_charAt_5068e_17 : decode cJ0_charAt_5068e 17 = .ok (.getfield 9, 3) := by decide +kernel
theorem dJ0_charAt_5068e_20 : decode cJ0_charAt_5068e 20 = .ok (.iload_n 1, 1) := by decide +kernel
theorem dJ0_charAt_5068e_21 : decode cJ0_charAt_5068e 21 = .ok (.invokestatic 498, 3) := by decide +kernel
theorem dJ0_charAt_5068e_24 : decode cJ0_charAt_5068e 24 = .ok (.ireturn, 1) := by decide +kernel
theorem dJ0_coder_7d493_0 : decode cJ0_coder_7d493 0 = .ok (.getstatic 38, 3) := by decide +kernel
theorem dJ0_coder_7d493_3 : decode cJ0_coder_7d493 3 = .ok (.ifCond .eq 10, 3) := by decide +kernel
theorem dJ0_coder_7d493_6 : decode cJ0_coder_7d493 6 = .ok (.aload_n 0, 1) := by decide +kernel
theorem dJ0_coder_7d493_7 : decode cJ0_coder_7d493 7 = .ok (.getfield 15, 3) := by decide +kernel
theorem dJ0_coder_7d493_10 : decode cJ0_coder_7d493 10 = .ok (.goto 4, 3) := by decide +kernel
theorem dJ0_coder_7d493_13 : decode cJ0_coder_7d493 13 = .ok (.iconst 1, 1) := by decide +kernel
theorem dJ0_coder_7d493_14 : decode cJ0_coder_7d493 14 = .ok (.ireturn, 1) := by decide +kernel
theorem dJ0_isLatin1_aae02_0 : decode cJ0_isLatin1_aae02 0 = .ok (.getstatic 38, 3) := by decide +kernel
theorem dJ0_isLatin1_aae02_3 : decode cJ0_isLatin1_aae02 3 = .ok (.ifCond .eq 14, 3) := by decide +kernel
theorem dJ0_isLatin1_aae02_6 : decode cJ0_isLatin1_aae02 6 = .ok (.aload_n 0, 1) := by decide +kernel
theorem dJ0_isLatin1_aae02_7 : decode cJ0_isLatin1_aae02 7 = .ok (.getfield 15, 3) := by decide +kernel
theorem dJ0_isLatin1_aae02_10 : decode cJ0_isLatin1_aae02 10 = .ok (.ifCond .ne 7, 3) := by decide +kernel
theorem dJ0_isLatin1_aae02_13 : decode cJ0_isLatin1_aae02 13 = .ok (.iconst 1, 1) := by decide +kernel
theorem dJ0_isLatin1_aae02_14 : decode cJ0_isLatin1_aae02 14 = .ok (.goto 4, 3) := by decide +kernel
theorem dJ0_isLatin1_aae02_17 : decode cJ0_isLatin1_aae02 17 = .ok (.iconst 0, 1) := by decide +kernel
theorem dJ0_isLatin1_aae02_18 : decode cJ0_isLatin1_aae02 18 = .ok (.ireturn, 1) := by decide +kernel
theorem dJ0_checkIndex_df160_0 : decode cJ0_checkIndex_df160 0 = .ok (.iload_n 0, 1) := by decide +kernel
theorem dJ0_checkIndex_df160_1 : decode cJ0_checkIndex_df160 1 = .ok (.iload_n 1, 1) := by decide +kernel
theorem dJ0_checkIndex_df160_2 : decode cJ0_checkIndex_df160 2 = .ok (.getstatic 1053, 3) := by decide +kernel
theorem dJ0_checkIndex_df160_5 : decode cJ0_checkIndex_df160 5 = .ok (.invokestatic 1059, 3) := by decide +kernel
theorem dJ0_checkIndex_df160_8 : decode cJ0_checkIndex_df160 8 = .ok (.pop, 1) := by decide +kernel
theorem dJ0_checkIndex_df160_9 : decode cJ0_checkIndex_df160 9 = .ok (.return_, 1) := by decide +kernel
theorem dJ1_charAt_3b067_0 : decode cJ1_charAt_3b067 0 = .ok (.iload_n 1, 1) := by decide +kernel
theorem dJ1_charAt_3b067_1 : decode cJ1_charAt_3b067 1 = .ok (.aload_n 0, 1) := by decide +kernel
theorem dJ1_charAt_3b067_2 : decode cJ1_charAt_3b067 2 = .ok (.arraylength, 1) := by decide +kernel
theorem dJ1_charAt_3b067_3 : decode cJ1_charAt_3b067 3 = .ok (.invokestatic 9, 3) := by decide +kernel
theorem dJ1_charAt_3b067_6 : decode cJ1_charAt_3b067 6 = .ok (.aload_n 0, 1) := by decide +kernel
theorem dJ1_charAt_3b067_7 : decode cJ1_charAt_3b067 7 = .ok (.iload_n 1, 1) := by decide +kernel
theorem dJ1_charAt_3b067_8 : decode cJ1_charAt_3b067 8 = .ok (.baload, 1) := by decide +kernel
theorem dJ1_charAt_3b067_9 : decode cJ1_charAt_3b067 9 = .ok (.sipush 255, 3) := by decide +kernel
theorem dJ1_charAt_3b067_12 : decode cJ1_charAt_3b067 12 = .ok (.iand, 1) := by decide +kernel
theorem dJ1_charAt_3b067_13 : decode cJ1_charAt_3b067 13 = .ok (.i2c, 1) := by decide +kernel
theorem dJ1_charAt_3b067_14 : decode cJ1_charAt_3b067 14 = .ok (.ireturn, 1) := by decide +kernel
theorem dJ2_getChar_3b067_0 : decode cJ2_getChar_3b067 0 = .ok (.getstatic 44, 3) := by decide +kernel
theorem dJ2_getChar_3b067_3 : decode cJ2_getChar_3b067 3 = .ok (.ifCond .ne 25, 3) := by decide +kernel
theorem dJ2_getChar_3b067_6 : decode cJ2_getChar_3b067 6 = .ok (.iload_n 1, 1) := by decide +kernel
theorem dJ2_getChar_3b067_7 : decode cJ2_getChar_3b067 7 = .ok (.ifCond .lt 11, 3) := by decide +kernel
theorem dJ2_getChar_3b067_10 : decode cJ2_getChar_3b067 10 = .ok (.iload_n 1, 1) := by decide +kernel
theorem dJ2_getChar_3b067_11 : decode cJ2_getChar_3b067 11 = .ok (.aload_n 0, 1) := by decide +kernel
theorem dJ2_getChar_3b067_12 : decode cJ2_getChar_3b067 12 = .ok (.invokestatic 48, 3) := by decide +kernel
theorem dJ2_getChar_3b067_15 : decode cJ2_getChar_3b067 15 = .ok (.if_icmp .lt 13, 3) := by decide +kernel
theorem dJ2_getChar_3b067_18 : decode cJ2_getChar_3b067 18 = .ok (.new 52, 3) := by decide +kernel
theorem dJ2_getChar_3b067_21 : decode cJ2_getChar_3b067 21 = .ok (.dup, 1) := by decide +kernel
theorem dJ2_getChar_3b067_22 : decode cJ2_getChar_3b067 22 = .ok (.ldc 54, 2) := by decide +kernel
theorem dJ2_getChar_3b067_24 : decode cJ2_getChar_3b067 24 = .ok (.invokespecial 56, 3) := by decide +kernel
theorem dJ2_getChar_3b067_27 : decode cJ2_getChar_3b067 27 = .ok (.athrow, 1) := by decide +kernel
theorem dJ2_getChar_3b067_28 : decode cJ2_getChar_3b067 28 = .ok (.iload_n 1, 1) := by decide +kernel
theorem dJ2_getChar_3b067_29 : decode cJ2_getChar_3b067 29 = .ok (.iconst 1, 1) := by decide +kernel
theorem dJ2_getChar_3b067_30 : decode cJ2_getChar_3b067 30 = .ok (.ishl, 1) := by decide +kernel
theorem dJ2_getChar_3b067_31 : decode cJ2_getChar_3b067 31 = .ok (.istore_n 1, 1) := by decide +kernel
theorem dJ2_getChar_3b067_32 : decode cJ2_getChar_3b067 32 = .ok (.aload_n 0, 1) := by decide +kernel
theorem dJ2_getChar_3b067_33 : decode cJ2_getChar_3b067 33 = .ok (.iload_n 1, 1) := by decide +kernel
theorem dJ2_getChar_3b067_34 : decode cJ2_getChar_3b067 34 = .ok (.iinc 1 1, 3) := by decide +kernel
theorem dJ2_getChar_3b067_37 : decode cJ2_getChar_3b067 37 = .ok (.baload, 1) := by decide +kernel
theorem dJ2_getChar_3b067_38 : decode cJ2_getChar_3b067 38 = .ok (.sipush 255, 3) := by decide +kernel
theorem dJ2_getChar_3b067_41 : decode cJ2_getChar_3b067 41 = .ok (.iand, 1) := by decide +kernel
theorem dJ2_getChar_3b067_42 : decode cJ2_getChar_3b067 42 = .ok (.getstatic 59, 3) := by decide +kernel
theorem dJ2_getChar_3b067_45 : decode cJ2_getChar_3b067 45 = .ok (.ishl, 1) := by decide +kernel
theorem dJ2_getChar_3b067_46 : decode cJ2_getChar_3b067 46 = .ok (.aload_n 0, 1) := by decide +kernel
theorem dJ2_getChar_3b067_47 : decode cJ2_getChar_3b067 47 = .ok (.iload_n 1, 1) := by decide +kernel
theorem dJ2_getChar_3b067_48 : decode cJ2_getChar_3b067 48 = .ok (.baload, 1) := by decide +kernel
theorem dJ2_getChar_3b067_49 : decode cJ2_getChar_3b067 49 = .ok (.sipush 255, 3) := by decide +kernel
theorem dJ2_getChar_3b067_52 : decode cJ2_getChar_3b067 52 = .ok (.iand, 1) := by decide +kernel
theorem dJ2_getChar_3b067_53 : decode cJ2_getChar_3b067 53 = .ok (.getstatic 63, 3) := by decide +kernel
theorem dJ2_getChar_3b067_56 : decode cJ2_getChar_3b067 56 = .ok (.ishl, 1) := by decide +kernel
theorem dJ2_getChar_3b067_57 : decode cJ2_getChar_3b067 57 = .ok (.ior, 1) := by decide +kernel
theorem dJ2_getChar_3b067_58 : decode cJ2_getChar_3b067 58 = .ok (.i2c, 1) := by decide +kernel
theorem dJ2_getChar_3b067_59 : decode cJ2_getChar_3b067 59 = .ok (.ireturn, 1) := by decide +kernel
theorem dJ2_length_9d52b_0 : decode cJ2_length_9d52b 0 = .ok (.aload_n 0, 1) := by decide +kernel
theorem dJ2_length_9d52b_1 : decode cJ2_length_9d52b 1 = .ok (.arraylength, 1) := by decide +kernel
theorem dJ2_length_9d52b_2 : decode cJ2_length_9d52b 2 = .ok (.iconst 1, 1) := by decide +kernel
theorem dJ2_length_9d52b_3 : decode cJ2_length_9d52b 3 = .ok (.ishr, 1) := by decide +kernel
theorem dJ2_length_9d52b_4 : decode cJ2_length_9d52b 4 = .ok (.ireturn, 1) := by decide +kernel
theorem dJ2_charAt_3b067_0 : decode cJ2_charAt_3b067 0 = .ok (.iload_n 1, 1) := by decide +kernel
theorem dJ2_charAt_3b067_1 : decode cJ2_charAt_3b067 1 = .ok (.aload_n 0, 1) := by decide +kernel
theorem dJ2_charAt_3b067_2 : decode cJ2_charAt_3b067 2 = .ok (.invokestatic 67, 3) := by decide +kernel
theorem dJ2_charAt_3b067_5 : decode cJ2_charAt_3b067 5 = .ok (.aload_n 0, 1) := by decide +kernel
theorem dJ2_charAt_3b067_6 : decode cJ2_charAt_3b067 6 = .ok (.iload_n 1, 1) := by decide +kernel
theorem dJ2_charAt_3b067_7 : decode cJ2_charAt_3b067 7 = .ok (.invokestatic 71, 3) := by decide +kernel
theorem dJ2_charAt_3b067_10 : decode cJ2_charAt_3b067 10 = .ok (.ireturn, 1) := by decide +kernel
theorem dJ2_checkIndex_2214a_0 : decode cJ2_checkIndex_2214a 0 = .ok (.iload_n 0, 1) := by decide +kernel
theorem dJ2_checkIndex_2214a_1 : decode cJ2_checkIndex_2214a 1 = .ok (.aload_n 1, 1) := by decide +kernel
theorem dJ2_checkIndex_2214a_2 : decode cJ2_checkIndex_2214a 2 = .ok (.invokestatic 48, 3) := by decide +kernel
theorem dJ2_checkIndex_2214a_5 : decode cJ2_checkIndex_2214a 5 = .ok (.invokestatic 414, 3) := by decide +kernel
theorem dJ2_checkIndex_2214a_8 : decode cJ2_checkIndex_2214a 8 = .ok (.return_, 1) := by decide +kernel
theorem dJ7_fill_53178_0 : decode cJ7_fill_53178 0 = .ok (.iconst 0, 1) := by decide +kernel
theorem dJ7_fill_53178_1 : decode cJ7_fill_53178 1 = .ok (.istore_n 2, 1) := by decide +kernel
theorem dJ7_fill_53178_2 : decode cJ7_fill_53178 2 = .ok (.aload_n 0, 1) := by decide +kernel
theorem dJ7_fill_53178_3 : decode cJ7_fill_53178 3 = .ok (.arraylength, 1) := by decide +kernel
theorem dJ7_fill_53178_4 : decode cJ7_fill_53178 4 = .ok (.istore_n 3, 1) := by decide +kernel
theorem dJ7_fill_53178_5 : decode cJ7_fill_53178 5 = .ok (.iload_n 2, 1) := by decide +kernel
theorem dJ7_fill_53178_6 : decode cJ7_fill_53178 6 = .ok (.iload_n 3, 1) := by decide +kernel
theorem dJ7_fill_53178_7 : decode cJ7_fill_53178 7 = .ok (.if_icmp .ge 13, 3) := by decide +kernel
theorem dJ7_fill_53178_10 : decode cJ7_fill_53178 10 = .ok (.aload_n 0, 1) := by decide +kernel
theorem dJ7_fill_53178_11 : decode cJ7_fill_53178 11 = .ok (.iload_n 2, 1) := by decide +kernel
theorem dJ7_fill_53178_12 : decode cJ7_fill_53178 12 = .ok (.iload_n 1, 1) := by decide +kernel
theorem dJ7_fill_53178_13 : decode cJ7_fill_53178 13 = .ok (.iastore, 1) := by decide +kernel
theorem dJ7_fill_53178_14 : decode cJ7_fill_53178 14 = .ok (.iinc 2 1, 3) := by decide +kernel
theorem dJ7_fill_53178_17 : decode cJ7_fill_53178 17 = .ok (.goto (-12), 3) := by decide +kernel
theorem dJ7_fill_53178_20 : decode cJ7_fill_53178 20 = .ok (.return_, 1) := by decide +kernel
theorem dJ3_checkIndex_8e157_0 : decode cJ3_checkIndex_8e157 0 = .ok (.iload_n 0, 1) := by decide +kernel
theorem dJ3_checkIndex_8e157_1 : decode cJ3_checkIndex_8e157 1 = .ok (.ifCond .lt 8, 3) := by decide +kernel
theorem dJ3_checkIndex_8e157_4 : decode cJ3_checkIndex_8e157 4 = .ok (.iload_n 0, 1) := by decide +kernel
theorem dJ3_checkIndex_8e157_5 : decode cJ3_checkIndex_8e157 5 = .ok (.iload_n 1, 1) := by decide +kernel
theorem dJ3_checkIndex_8e157_6 : decode cJ3_checkIndex_8e157 6 = .ok (.if_icmp .lt 10, 3) := by decide +kernel
theorem dJ3_checkIndex_8e157_9 : decode cJ3_checkIndex_8e157 9 = .ok (.aload_n 2, 1) := by decide +kernel
theorem dJ3_checkIndex_8e157_10 : decode cJ3_checkIndex_8e157 10 = .ok (.iload_n 0, 1) := by decide +kernel
theorem dJ3_checkIndex_8e157_11 : decode cJ3_checkIndex_8e157 11 = .ok (.iload_n 1, 1) := by decide +kernel
theorem dJ3_checkIndex_8e157_12 : decode cJ3_checkIndex_8e157 12 = .ok (.invokestatic 95, 3) := by decide +kernel
theorem dJ3_checkIndex_8e157_15 : decode cJ3_checkIndex_8e157 15 = .ok (.athrow, 1) := by decide +kernel
theorem dJ3_checkIndex_8e157_16 : decode cJ3_checkIndex_8e157 16 = .ok (.iload_n 0, 1) := by decide +kernel
theorem dJ3_checkIndex_8e157_17 : decode cJ3_checkIndex_8e157 17 = .ok (.ireturn, 1) := by decide +kernel
theorem dL_law_0 : decode cL_law 0 = .ok (.new 7, 3) := by decide +kernel
theorem dL_law_3 : decode cL_law 3 = .ok (.dup, 1) := by decide +kernel
theorem dL_law_4 : decode cL_law 4 = .ok (.invokespecial 9, 3) := by decide +kernel
theorem dL_law_7 : decode cL_law 7 = .ok (.astore_n 1, 1) := by decide +kernel
theorem dL_law_8 : decode cL_law 8 = .ok (.new 10, 3) := by decide +kernel
theorem dL_law_11 : decode cL_law 11 = .ok (.dup, 1) := by decide +kernel
theorem dL_law_12 : decode cL_law 12 = .ok (.invokespecial 12, 3) := by decide +kernel
theorem dL_law_15 : decode cL_law 15 = .ok (.astore_n 2, 1) := by decide +kernel
theorem dL_law_16 : decode cL_law 16 = .ok (.iconst 0, 1) := by decide +kernel
theorem dL_law_17 : decode cL_law 17 = .ok (.istore_n 3, 1) := by decide +kernel
theorem dL_law_18 : decode cL_law 18 = .ok (.iload_n 3, 1) := by decide +kernel
theorem dL_law_19 : decode cL_law 19 = .ok (.aload_n 0, 1) := by decide +kernel
theorem dL_law_20 : decode cL_law 20 = .ok (.arraylength, 1) := by decide +kernel
theorem dL_law_21 : decode cL_law 21 = .ok (.bipush 6, 2) := by decide +kernel
theorem dL_law_23 : decode cL_law 23 = .ok (.isub, 1) := by decide +kernel
theorem dL_law_24 : decode cL_law 24 = .ok (.if_icmp .gt 1262, 3) := by decide +kernel
theorem dL_law_27 : decode cL_law 27 = .ok (.aload_n 0, 1) := by decide +kernel
theorem dL_law_28 : decode cL_law 28 = .ok (.iload_n 3, 1) := by decide +kernel
theorem dL_law_29 : decode cL_law 29 = .ok (.iaload, 1) := by decide +kernel
theorem dL_law_30 : decode cL_law 30 = .ok (.bipush 31, 2) := by decide +kernel
theorem dL_law_32 : decode cL_law 32 = .ok (.iand, 1) := by decide +kernel
theorem dL_law_33 : decode cL_law 33 = .ok (.tableswitch 1247 0 31 #[143, 166, 189, 222, 275, 338, 361, 384, 407, 430, 453, 486, 519, 552, 586, 629, 662, 695, 728, 761, 804, 838, 881, 914, 947, 1006, 1049, 1092, 1135, 1168, 1201, 1224], 143) := by decide +kernel
theorem dL_law_176 : decode cL_law 176 = .ok (.aload_n 1, 1) := by decide +kernel
theorem dL_law_177 : decode cL_law 177 = .ok (.aload_n 0, 1) := by decide +kernel
theorem dL_law_178 : decode cL_law 178 = .ok (.iload_n 3, 1) := by decide +kernel
theorem dL_law_179 : decode cL_law 179 = .ok (.iconst 1, 1) := by decide +kernel
theorem dL_law_180 : decode cL_law 180 = .ok (.iadd, 1) := by decide +kernel
theorem dL_law_181 : decode cL_law 181 = .ok (.iaload, 1) := by decide +kernel
theorem dL_law_182 : decode cL_law 182 = .ok (.invokevirtual 13, 3) := by decide +kernel
theorem dL_law_185 : decode cL_law 185 = .ok (.aload_n 2, 1) := by decide +kernel
theorem dL_law_186 : decode cL_law 186 = .ok (.aload_n 0, 1) := by decide +kernel
theorem dL_law_187 : decode cL_law 187 = .ok (.iload_n 3, 1) := by decide +kernel
theorem dL_law_188 : decode cL_law 188 = .ok (.iconst 1, 1) := by decide +kernel
theorem dL_law_189 : decode cL_law 189 = .ok (.iadd, 1) := by decide +kernel
theorem dL_law_190 : decode cL_law 190 = .ok (.iaload, 1) := by decide +kernel
theorem dL_law_191 : decode cL_law 191 = .ok (.invokevirtual 17, 3) := by decide +kernel
theorem dL_law_194 : decode cL_law 194 = .ok (.if_icmp .eq 1086, 3) := by decide +kernel
theorem dL_law_197 : decode cL_law 197 = .ok (.iconst 0, 1) := by decide +kernel
theorem dL_law_198 : decode cL_law 198 = .ok (.ireturn, 1) := by decide +kernel
theorem dL_law_199 : decode cL_law 199 = .ok (.aload_n 1, 1) := by decide +kernel
theorem dL_law_200 : decode cL_law 200 = .ok (.aload_n 0, 1) := by decide +kernel
theorem dL_law_201 : decode cL_law 201 = .ok (.iload_n 3, 1) := by decide +kernel
theorem dL_law_202 : decode cL_law 202 = .ok (.iconst 1, 1) := by decide +kernel
theorem dL_law_203 : decode cL_law 203 = .ok (.iadd, 1) := by decide +kernel
theorem dL_law_204 : decode cL_law 204 = .ok (.iaload, 1) := by decide +kernel
theorem dL_law_205 : decode cL_law 205 = .ok (.invokevirtual 18, 3) := by decide +kernel
theorem dL_law_208 : decode cL_law 208 = .ok (.aload_n 2, 1) := by decide +kernel
theorem dL_law_209 : decode cL_law 209 = .ok (.aload_n 0, 1) := by decide +kernel
theorem dL_law_210 : decode cL_law 210 = .ok (.iload_n 3, 1) := by decide +kernel
theorem dL_law_211 : decode cL_law 211 = .ok (.iconst 1, 1) := by decide +kernel
theorem dL_law_212 : decode cL_law 212 = .ok (.iadd, 1) := by decide +kernel
theorem dL_law_213 : decode cL_law 213 = .ok (.iaload, 1) := by decide +kernel
theorem dL_law_214 : decode cL_law 214 = .ok (.invokevirtual 22, 3) := by decide +kernel
theorem dL_law_217 : decode cL_law 217 = .ok (.if_icmp .eq 1063, 3) := by decide +kernel
theorem dL_law_220 : decode cL_law 220 = .ok (.iconst 0, 1) := by decide +kernel
theorem dL_law_221 : decode cL_law 221 = .ok (.ireturn, 1) := by decide +kernel
theorem dL_law_222 : decode cL_law 222 = .ok (.aload_n 1, 1) := by decide +kernel
theorem dL_law_223 : decode cL_law 223 = .ok (.aload_n 0, 1) := by decide +kernel
theorem dL_law_224 : decode cL_law 224 = .ok (.iload_n 3, 1) := by decide +kernel
theorem dL_law_225 : decode cL_law 225 = .ok (.iconst 1, 1) := by decide +kernel
theorem dL_law_226 : decode cL_law 226 = .ok (.iadd, 1) := by decide +kernel
theorem dL_law_227 : decode cL_law 227 = .ok (.iaload, 1) := by decide +kernel
theorem dL_law_228 : decode cL_law 228 = .ok (.aload_n 0, 1) := by decide +kernel
theorem dL_law_229 : decode cL_law 229 = .ok (.iload_n 3, 1) := by decide +kernel
theorem dL_law_230 : decode cL_law 230 = .ok (.iconst 2, 1) := by decide +kernel
theorem dL_law_231 : decode cL_law 231 = .ok (.iadd, 1) := by decide +kernel
theorem dL_law_232 : decode cL_law 232 = .ok (.iaload, 1) := by decide +kernel
theorem dL_law_233 : decode cL_law 233 = .ok (.invokevirtual 23, 3) := by decide +kernel
theorem dL_law_236 : decode cL_law 236 = .ok (.aload_n 2, 1) := by decide +kernel
theorem dL_law_237 : decode cL_law 237 = .ok (.aload_n 0, 1) := by decide +kernel
theorem dL_law_238 : decode cL_law 238 = .ok (.iload_n 3, 1) := by decide +kernel
theorem dL_law_239 : decode cL_law 239 = .ok (.iconst 1, 1) := by decide +kernel
theorem dL_law_240 : decode cL_law 240 = .ok (.iadd, 1) := by decide +kernel
theorem dL_law_241 : decode cL_law 241 = .ok (.iaload, 1) := by decide +kernel
theorem dL_law_242 : decode cL_law 242 = .ok (.aload_n 0, 1) := by decide +kernel
theorem dL_law_243 : decode cL_law 243 = .ok (.iload_n 3, 1) := by decide +kernel
theorem dL_law_244 : decode cL_law 244 = .ok (.iconst 2, 1) := by decide +kernel
theorem dL_law_245 : decode cL_law 245 = .ok (.iadd, 1) := by decide +kernel
theorem dL_law_246 : decode cL_law 246 = .ok (.iaload, 1) := by decide +kernel
theorem dL_law_247 : decode cL_law 247 = .ok (.invokevirtual 27, 3) := by decide +kernel
theorem dL_law_250 : decode cL_law 250 = .ok (.if_icmp .eq 1030, 3) := by decide +kernel
theorem dL_law_253 : decode cL_law 253 = .ok (.iconst 0, 1) := by decide +kernel
theorem dL_law_254 : decode cL_law 254 = .ok (.ireturn, 1) := by decide +kernel
theorem dL_law_255 : decode cL_law 255 = .ok (.aload_n 1, 1) := by decide +kernel
theorem dL_law_256 : decode cL_law 256 = .ok (.aload_n 0, 1) := by decide +kernel
theorem dL_law_257 : decode cL_law 257 = .ok (.iload_n 3, 1) := by decide +kernel
theorem dL_law_258 : decode cL_law 258 = .ok (.iconst 1, 1) := by decide +kernel
theorem dL_law_259 : decode cL_law 259 = .ok (.iadd, 1) := by decide +kernel
theorem dL_law_260 : decode cL_law 260 = .ok (.iaload, 1) := by decide +kernel
theorem dL_law_261 : decode cL_law 261 = .ok (.aload_n 0, 1) := by decide +kernel
theorem dL_law_262 : decode cL_law 262 = .ok (.iload_n 3, 1) := by decide +kernel
theorem dL_law_263 : decode cL_law 263 = .ok (.iconst 2, 1) := by decide +kernel
theorem dL_law_264 : decode cL_law 264 = .ok (.iadd, 1) := by decide +kernel
theorem dL_law_265 : decode cL_law 265 = .ok (.iaload, 1) := by decide +kernel
theorem dL_law_266 : decode cL_law 266 = .ok (.aload_n 0, 1) := by decide +kernel
theorem dL_law_267 : decode cL_law 267 = .ok (.iload_n 3, 1) := by decide +kernel
theorem dL_law_268 : decode cL_law 268 = .ok (.iconst 3, 1) := by decide +kernel
theorem dL_law_269 : decode cL_law 269 = .ok (.iadd, 1) := by decide +kernel
theorem dL_law_270 : decode cL_law 270 = .ok (.iaload, 1) := by decide +kernel
theorem dL_law_271 : decode cL_law 271 = .ok (.aload_n 0, 1) := by decide +kernel
theorem dL_law_272 : decode cL_law 272 = .ok (.iload_n 3, 1) := by decide +kernel
theorem dL_law_273 : decode cL_law 273 = .ok (.iconst 4, 1) := by decide +kernel
theorem dL_law_274 : decode cL_law 274 = .ok (.iadd, 1) := by decide +kernel
theorem dL_law_275 : decode cL_law 275 = .ok (.iaload, 1) := by decide +kernel
theorem dL_law_276 : decode cL_law 276 = .ok (.invokevirtual 28, 3) := by decide +kernel
theorem dL_law_279 : decode cL_law 279 = .ok (.aload_n 2, 1) := by decide +kernel
theorem dL_law_280 : decode cL_law 280 = .ok (.aload_n 0, 1) := by decide +kernel
theorem dL_law_281 : decode cL_law 281 = .ok (.iload_n 3, 1) := by decide +kernel
theorem dL_law_282 : decode cL_law 282 = .ok (.iconst 1, 1) := by decide +kernel
theorem dL_law_283 : decode cL_law 283 = .ok (.iadd, 1) := by decide +kernel
theorem dL_law_284 : decode cL_law 284 = .ok (.iaload, 1) := by decide +kernel
theorem dL_law_285 : decode cL_law 285 = .ok (.aload_n 0, 1) := by decide +kernel
theorem dL_law_286 : decode cL_law 286 = .ok (.iload_n 3, 1) := by decide +kernel
theorem dL_law_287 : decode cL_law 287 = .ok (.iconst 2, 1) := by decide +kernel
theorem dL_law_288 : decode cL_law 288 = .ok (.iadd, 1) := by decide +kernel
theorem dL_law_289 : decode cL_law 289 = .ok (.iaload, 1) := by decide +kernel
theorem dL_law_290 : decode cL_law 290 = .ok (.aload_n 0, 1) := by decide +kernel
theorem dL_law_291 : decode cL_law 291 = .ok (.iload_n 3, 1) := by decide +kernel
theorem dL_law_292 : decode cL_law 292 = .ok (.iconst 3, 1) := by decide +kernel
theorem dL_law_293 : decode cL_law 293 = .ok (.iadd, 1) := by decide +kernel
theorem dL_law_294 : decode cL_law 294 = .ok (.iaload, 1) := by decide +kernel
theorem dL_law_295 : decode cL_law 295 = .ok (.aload_n 0, 1) := by decide +kernel
theorem dL_law_296 : decode cL_law 296 = .ok (.iload_n 3, 1) := by decide +kernel
theorem dL_law_297 : decode cL_law 297 = .ok (.iconst 4, 1) := by decide +kernel
theorem dL_law_298 : decode cL_law 298 = .ok (.iadd, 1) := by decide +kernel
theorem dL_law_299 : decode cL_law 299 = .ok (.iaload, 1) := by decide +kernel
theorem dL_law_300 : decode cL_law 300 = .ok (.invokevirtual 32, 3) := by decide +kernel
theorem dL_law_303 : decode cL_law 303 = .ok (.if_icmp .eq 977, 3) := by decide +kernel
theorem dL_law_306 : decode cL_law 306 = .ok (.iconst 0, 1) := by decide +kernel
theorem dL_law_307 : decode cL_law 307 = .ok (.ireturn, 1) := by decide +kernel
theorem dL_law_308 : decode cL_law 308 = .ok (.aload_n 1, 1) := by decide +kernel
theorem dL_law_309 : decode cL_law 309 = .ok (.aload_n 0, 1) := by decide +kernel
theorem dL_law_310 : decode cL_law 310 = .ok (.iload_n 3, 1) := by decide +kernel
theorem dL_law_311 : decode cL_law 311 = .ok (.iconst 1, 1) := by decide +kernel
theorem dL_law_312 : decode cL_law 312 = .ok (.iadd, 1) := by decide +kernel
theorem dL_law_313 : decode cL_law 313 = .ok (.iaload, 1) := by decide +kernel
theorem dL_law_314 : decode cL_law 314 = .ok (.aload_n 0, 1) := by decide +kernel
theorem dL_law_315 : decode cL_law 315 = .ok (.iload_n 3, 1) := by decide +kernel
theorem dL_law_316 : decode cL_law 316 = .ok (.iconst 2, 1) := by decide +kernel
theorem dL_law_317 : decode cL_law 317 = .ok (.iadd, 1) := by decide +kernel
theorem dL_law_318 : decode cL_law 318 = .ok (.iaload, 1) := by decide +kernel
theorem dL_law_319 : decode cL_law 319 = .ok (.aload_n 0, 1) := by decide +kernel
theorem dL_law_320 : decode cL_law 320 = .ok (.iload_n 3, 1) := by decide +kernel
theorem dL_law_321 : decode cL_law 321 = .ok (.iconst 3, 1) := by decide +kernel
theorem dL_law_322 : decode cL_law 322 = .ok (.iadd, 1) := by decide +kernel
theorem dL_law_323 : decode cL_law 323 = .ok (.iaload, 1) := by decide +kernel
theorem dL_law_324 : decode cL_law 324 = .ok (.aload_n 0, 1) := by decide +kernel
theorem dL_law_325 : decode cL_law 325 = .ok (.iload_n 3, 1) := by decide +kernel
theorem dL_law_326 : decode cL_law 326 = .ok (.iconst 4, 1) := by decide +kernel
theorem dL_law_327 : decode cL_law 327 = .ok (.iadd, 1) := by decide +kernel
theorem dL_law_328 : decode cL_law 328 = .ok (.iaload, 1) := by decide +kernel
theorem dL_law_329 : decode cL_law 329 = .ok (.aload_n 0, 1) := by decide +kernel
theorem dL_law_330 : decode cL_law 330 = .ok (.iload_n 3, 1) := by decide +kernel
theorem dL_law_331 : decode cL_law 331 = .ok (.iconst 5, 1) := by decide +kernel
theorem dL_law_332 : decode cL_law 332 = .ok (.iadd, 1) := by decide +kernel
theorem dL_law_333 : decode cL_law 333 = .ok (.iaload, 1) := by decide +kernel
theorem dL_law_334 : decode cL_law 334 = .ok (.invokevirtual 33, 3) := by decide +kernel
theorem dL_law_337 : decode cL_law 337 = .ok (.aload_n 2, 1) := by decide +kernel
theorem dL_law_338 : decode cL_law 338 = .ok (.aload_n 0, 1) := by decide +kernel
theorem dL_law_339 : decode cL_law 339 = .ok (.iload_n 3, 1) := by decide +kernel
theorem dL_law_340 : decode cL_law 340 = .ok (.iconst 1, 1) := by decide +kernel
theorem dL_law_341 : decode cL_law 341 = .ok (.iadd, 1) := by decide +kernel
theorem dL_law_342 : decode cL_law 342 = .ok (.iaload, 1) := by decide +kernel
theorem dL_law_343 : decode cL_law 343 = .ok (.aload_n 0, 1) := by decide +kernel
theorem dL_law_344 : decode cL_law 344 = .ok (.iload_n 3, 1) := by decide +kernel
theorem dL_law_345 : decode cL_law 345 = .ok (.iconst 2, 1) := by decide +kernel
theorem dL_law_346 : decode cL_law 346 = .ok (.iadd, 1) := by decide +kernel
theorem dL_law_347 : decode cL_law 347 = .ok (.iaload, 1) := by decide +kernel
theorem dL_law_348 : decode cL_law 348 = .ok (.aload_n 0, 1) := by decide +kernel
theorem dL_law_349 : decode cL_law 349 = .ok (.iload_n 3, 1) := by decide +kernel
theorem dL_law_350 : decode cL_law 350 = .ok (.iconst 3, 1) := by decide +kernel
theorem dL_law_351 : decode cL_law 351 = .ok (.iadd, 1) := by decide +kernel
theorem dL_law_352 : decode cL_law 352 = .ok (.iaload, 1) := by decide +kernel
theorem dL_law_353 : decode cL_law 353 = .ok (.aload_n 0, 1) := by decide +kernel
theorem dL_law_354 : decode cL_law 354 = .ok (.iload_n 3, 1) := by decide +kernel
theorem dL_law_355 : decode cL_law 355 = .ok (.iconst 4, 1) := by decide +kernel
theorem dL_law_356 : decode cL_law 356 = .ok (.iadd, 1) := by decide +kernel
theorem dL_law_357 : decode cL_law 357 = .ok (.iaload, 1) := by decide +kernel
theorem dL_law_358 : decode cL_law 358 = .ok (.aload_n 0, 1) := by decide +kernel
theorem dL_law_359 : decode cL_law 359 = .ok (.iload_n 3, 1) := by decide +kernel
theorem dL_law_360 : decode cL_law 360 = .ok (.iconst 5, 1) := by decide +kernel
theorem dL_law_361 : decode cL_law 361 = .ok (.iadd, 1) := by decide +kernel
theorem dL_law_362 : decode cL_law 362 = .ok (.iaload, 1) := by decide +kernel
theorem dL_law_363 : decode cL_law 363 = .ok (.invokevirtual 37, 3) := by decide +kernel
theorem dL_law_366 : decode cL_law 366 = .ok (.if_icmp .eq 914, 3) := by decide +kernel
theorem dL_law_369 : decode cL_law 369 = .ok (.iconst 0, 1) := by decide +kernel
theorem dL_law_370 : decode cL_law 370 = .ok (.ireturn, 1) := by decide +kernel
theorem dL_law_371 : decode cL_law 371 = .ok (.aload_n 1, 1) := by decide +kernel
theorem dL_law_372 : decode cL_law 372 = .ok (.aload_n 0, 1) := by decide +kernel
theorem dL_law_373 : decode cL_law 373 = .ok (.iload_n 3, 1) := by decide +kernel
theorem dL_law_374 : decode cL_law 374 = .ok (.iconst 1, 1) := by decide +kernel
theorem dL_law_375 : decode cL_law 375 = .ok (.iadd, 1) := by decide +kernel
theorem dL_law_376 : decode cL_law 376 = .ok (.iaload, 1) := by decide +kernel
theorem dL_law_377 : decode cL_law 377 = .ok (.invokevirtual 38, 3) := by decide +kernel
theorem dL_law_380 : decode cL_law 380 = .ok (.aload_n 2, 1) := by decide +kernel
theorem dL_law_381 : decode cL_law 381 = .ok (.aload_n 0, 1) := by decide +kernel
theorem dL_law_382 : decode cL_law 382 = .ok (.iload_n 3, 1) := by decide +kernel
theorem dL_law_383 : decode cL_law 383 = .ok (.iconst 1, 1) := by decide +kernel
theorem dL_law_384 : decode cL_law 384 = .ok (.iadd, 1) := by decide +kernel
theorem dL_law_385 : decode cL_law 385 = .ok (.iaload, 1) := by decide +kernel
theorem dL_law_386 : decode cL_law 386 = .ok (.invokevirtual 41, 3) := by decide +kernel
theorem dL_law_389 : decode cL_law 389 = .ok (.if_icmp .eq 891, 3) := by decide +kernel
theorem dL_law_392 : decode cL_law 392 = .ok (.iconst 0, 1) := by decide +kernel
theorem dL_law_393 : decode cL_law 393 = .ok (.ireturn, 1) := by decide +kernel
theorem dL_law_394 : decode cL_law 394 = .ok (.aload_n 1, 1) := by decide +kernel
theorem dL_law_395 : decode cL_law 395 = .ok (.aload_n 0, 1) := by decide +kernel
theorem dL_law_396 : decode cL_law 396 = .ok (.iload_n 3, 1) := by decide +kernel
theorem dL_law_397 : decode cL_law 397 = .ok (.iconst 1, 1) := by decide +kernel
theorem dL_law_398 : decode cL_law 398 = .ok (.iadd, 1) := by decide +kernel
theorem dL_law_399 : decode cL_law 399 = .ok (.iaload, 1) := by decide +kernel
theorem dL_law_400 : decode cL_law 400 = .ok (.invokevirtual 42, 3) := by decide +kernel
theorem dL_law_403 : decode cL_law 403 = .ok (.aload_n 2, 1) := by decide +kernel
theorem dL_law_404 : decode cL_law 404 = .ok (.aload_n 0, 1) := by decide +kernel
theorem dL_law_405 : decode cL_law 405 = .ok (.iload_n 3, 1) := by decide +kernel
theorem dL_law_406 : decode cL_law 406 = .ok (.iconst 1, 1) := by decide +kernel
theorem dL_law_407 : decode cL_law 407 = .ok (.iadd, 1) := by decide +kernel
theorem dL_law_408 : decode cL_law 408 = .ok (.iaload, 1) := by decide +kernel
theorem dL_law_409 : decode cL_law 409 = .ok (.invokevirtual 45, 3) := by decide +kernel
theorem dL_law_412 : decode cL_law 412 = .ok (.if_icmp .eq 868, 3) := by decide +kernel
theorem dL_law_415 : decode cL_law 415 = .ok (.iconst 0, 1) := by decide +kernel
theorem dL_law_416 : decode cL_law 416 = .ok (.ireturn, 1) := by decide +kernel
theorem dL_law_417 : decode cL_law 417 = .ok (.aload_n 1, 1) := by decide +kernel
theorem dL_law_418 : decode cL_law 418 = .ok (.aload_n 0, 1) := by decide +kernel
theorem dL_law_419 : decode cL_law 419 = .ok (.iload_n 3, 1) := by decide +kernel
theorem dL_law_420 : decode cL_law 420 = .ok (.iconst 1, 1) := by decide +kernel
theorem dL_law_421 : decode cL_law 421 = .ok (.iadd, 1) := by decide +kernel
theorem dL_law_422 : decode cL_law 422 = .ok (.iaload, 1) := by decide +kernel
theorem dL_law_423 : decode cL_law 423 = .ok (.invokevirtual 46, 3) := by decide +kernel
theorem dL_law_426 : decode cL_law 426 = .ok (.aload_n 2, 1) := by decide +kernel
theorem dL_law_427 : decode cL_law 427 = .ok (.aload_n 0, 1) := by decide +kernel
theorem dL_law_428 : decode cL_law 428 = .ok (.iload_n 3, 1) := by decide +kernel
theorem dL_law_429 : decode cL_law 429 = .ok (.iconst 1, 1) := by decide +kernel
theorem dL_law_430 : decode cL_law 430 = .ok (.iadd, 1) := by decide +kernel
theorem dL_law_431 : decode cL_law 431 = .ok (.iaload, 1) := by decide +kernel
theorem dL_law_432 : decode cL_law 432 = .ok (.invokevirtual 49, 3) := by decide +kernel
theorem dL_law_435 : decode cL_law 435 = .ok (.if_icmp .eq 845, 3) := by decide +kernel
theorem dL_law_438 : decode cL_law 438 = .ok (.iconst 0, 1) := by decide +kernel
theorem dL_law_439 : decode cL_law 439 = .ok (.ireturn, 1) := by decide +kernel
theorem dL_law_440 : decode cL_law 440 = .ok (.aload_n 1, 1) := by decide +kernel
theorem dL_law_441 : decode cL_law 441 = .ok (.aload_n 0, 1) := by decide +kernel
theorem dL_law_442 : decode cL_law 442 = .ok (.iload_n 3, 1) := by decide +kernel
theorem dL_law_443 : decode cL_law 443 = .ok (.iconst 1, 1) := by decide +kernel
theorem dL_law_444 : decode cL_law 444 = .ok (.iadd, 1) := by decide +kernel
theorem dL_law_445 : decode cL_law 445 = .ok (.iaload, 1) := by decide +kernel
theorem dL_law_446 : decode cL_law 446 = .ok (.invokevirtual 50, 3) := by decide +kernel
theorem dL_law_449 : decode cL_law 449 = .ok (.aload_n 2, 1) := by decide +kernel
theorem dL_law_450 : decode cL_law 450 = .ok (.aload_n 0, 1) := by decide +kernel
theorem dL_law_451 : decode cL_law 451 = .ok (.iload_n 3, 1) := by decide +kernel
theorem dL_law_452 : decode cL_law 452 = .ok (.iconst 1, 1) := by decide +kernel
theorem dL_law_453 : decode cL_law 453 = .ok (.iadd, 1) := by decide +kernel
theorem dL_law_454 : decode cL_law 454 = .ok (.iaload, 1) := by decide +kernel
theorem dL_law_455 : decode cL_law 455 = .ok (.invokevirtual 53, 3) := by decide +kernel
theorem dL_law_458 : decode cL_law 458 = .ok (.if_icmp .eq 822, 3) := by decide +kernel
theorem dL_law_461 : decode cL_law 461 = .ok (.iconst 0, 1) := by decide +kernel
theorem dL_law_462 : decode cL_law 462 = .ok (.ireturn, 1) := by decide +kernel
theorem dL_law_463 : decode cL_law 463 = .ok (.aload_n 1, 1) := by decide +kernel
theorem dL_law_464 : decode cL_law 464 = .ok (.aload_n 0, 1) := by decide +kernel
theorem dL_law_465 : decode cL_law 465 = .ok (.iload_n 3, 1) := by decide +kernel
theorem dL_law_466 : decode cL_law 466 = .ok (.iconst 1, 1) := by decide +kernel
theorem dL_law_467 : decode cL_law 467 = .ok (.iadd, 1) := by decide +kernel
theorem dL_law_468 : decode cL_law 468 = .ok (.iaload, 1) := by decide +kernel
theorem dL_law_469 : decode cL_law 469 = .ok (.invokevirtual 54, 3) := by decide +kernel
theorem dL_law_472 : decode cL_law 472 = .ok (.aload_n 2, 1) := by decide +kernel
theorem dL_law_473 : decode cL_law 473 = .ok (.aload_n 0, 1) := by decide +kernel
theorem dL_law_474 : decode cL_law 474 = .ok (.iload_n 3, 1) := by decide +kernel
theorem dL_law_475 : decode cL_law 475 = .ok (.iconst 1, 1) := by decide +kernel
theorem dL_law_476 : decode cL_law 476 = .ok (.iadd, 1) := by decide +kernel
theorem dL_law_477 : decode cL_law 477 = .ok (.iaload, 1) := by decide +kernel
theorem dL_law_478 : decode cL_law 478 = .ok (.invokevirtual 57, 3) := by decide +kernel
theorem dL_law_481 : decode cL_law 481 = .ok (.if_icmp .eq 799, 3) := by decide +kernel
theorem dL_law_484 : decode cL_law 484 = .ok (.iconst 0, 1) := by decide +kernel
theorem dL_law_485 : decode cL_law 485 = .ok (.ireturn, 1) := by decide +kernel
theorem dL_law_486 : decode cL_law 486 = .ok (.aload_n 1, 1) := by decide +kernel
theorem dL_law_487 : decode cL_law 487 = .ok (.aload_n 0, 1) := by decide +kernel
theorem dL_law_488 : decode cL_law 488 = .ok (.iload_n 3, 1) := by decide +kernel
theorem dL_law_489 : decode cL_law 489 = .ok (.iconst 1, 1) := by decide +kernel
theorem dL_law_490 : decode cL_law 490 = .ok (.iadd, 1) := by decide +kernel
theorem dL_law_491 : decode cL_law 491 = .ok (.iaload, 1) := by decide +kernel
theorem dL_law_492 : decode cL_law 492 = .ok (.aload_n 0, 1) := by decide +kernel
theorem dL_law_493 : decode cL_law 493 = .ok (.iload_n 3, 1) := by decide +kernel
theorem dL_law_494 : decode cL_law 494 = .ok (.iconst 2, 1) := by decide +kernel
theorem dL_law_495 : decode cL_law 495 = .ok (.iadd, 1) := by decide +kernel
theorem dL_law_496 : decode cL_law 496 = .ok (.iaload, 1) := by decide +kernel
theorem dL_law_497 : decode cL_law 497 = .ok (.invokevirtual 58, 3) := by decide +kernel
theorem dL_law_500 : decode cL_law 500 = .ok (.aload_n 2, 1) := by decide +kernel
theorem dL_law_501 : decode cL_law 501 = .ok (.aload_n 0, 1) := by decide +kernel
theorem dL_law_502 : decode cL_law 502 = .ok (.iload_n 3, 1) := by decide +kernel
theorem dL_law_503 : decode cL_law 503 = .ok (.iconst 1, 1) := by decide +kernel
theorem dL_law_504 : decode cL_law 504 = .ok (.iadd, 1) := by decide +kernel
theorem dL_law_505 : decode cL_law 505 = .ok (.iaload, 1) := by decide +kernel
theorem dL_law_506 : decode cL_law 506 = .ok (.aload_n 0, 1) := by decide +kernel
theorem dL_law_507 : decode cL_law 507 = .ok (.iload_n 3, 1) := by decide +kernel
theorem dL_law_508 : decode cL_law 508 = .ok (.iconst 2, 1) := by decide +kernel
theorem dL_law_509 : decode cL_law 509 = .ok (.iadd, 1) := by decide +kernel
theorem dL_law_510 : decode cL_law 510 = .ok (.iaload, 1) := by decide +kernel
theorem dL_law_511 : decode cL_law 511 = .ok (.invokevirtual 61, 3) := by decide +kernel
theorem dL_law_514 : decode cL_law 514 = .ok (.if_icmp .eq 766, 3) := by decide +kernel
theorem dL_law_517 : decode cL_law 517 = .ok (.iconst 0, 1) := by decide +kernel
theorem dL_law_518 : decode cL_law 518 = .ok (.ireturn, 1) := by decide +kernel
theorem dL_law_519 : decode cL_law 519 = .ok (.aload_n 1, 1) := by decide +kernel
theorem dL_law_520 : decode cL_law 520 = .ok (.aload_n 0, 1) := by decide +kernel
theorem dL_law_521 : decode cL_law 521 = .ok (.iload_n 3, 1) := by decide +kernel
theorem dL_law_522 : decode cL_law 522 = .ok (.iconst 1, 1) := by decide +kernel
theorem dL_law_523 : decode cL_law 523 = .ok (.iadd, 1) := by decide +kernel
theorem dL_law_524 : decode cL_law 524 = .ok (.iaload, 1) := by decide +kernel
theorem dL_law_525 : decode cL_law 525 = .ok (.aload_n 0, 1) := by decide +kernel
theorem dL_law_526 : decode cL_law 526 = .ok (.iload_n 3, 1) := by decide +kernel
theorem dL_law_527 : decode cL_law 527 = .ok (.iconst 2, 1) := by decide +kernel
theorem dL_law_528 : decode cL_law 528 = .ok (.iadd, 1) := by decide +kernel
theorem dL_law_529 : decode cL_law 529 = .ok (.iaload, 1) := by decide +kernel
theorem dL_law_530 : decode cL_law 530 = .ok (.invokevirtual 62, 3) := by decide +kernel
theorem dL_law_533 : decode cL_law 533 = .ok (.aload_n 2, 1) := by decide +kernel
theorem dL_law_534 : decode cL_law 534 = .ok (.aload_n 0, 1) := by decide +kernel
theorem dL_law_535 : decode cL_law 535 = .ok (.iload_n 3, 1) := by decide +kernel
theorem dL_law_536 : decode cL_law 536 = .ok (.iconst 1, 1) := by decide +kernel
theorem dL_law_537 : decode cL_law 537 = .ok (.iadd, 1) := by decide +kernel
theorem dL_law_538 : decode cL_law 538 = .ok (.iaload, 1) := by decide +kernel
theorem dL_law_539 : decode cL_law 539 = .ok (.aload_n 0, 1) := by decide +kernel
theorem dL_law_540 : decode cL_law 540 = .ok (.iload_n 3, 1) := by decide +kernel
theorem dL_law_541 : decode cL_law 541 = .ok (.iconst 2, 1) := by decide +kernel
theorem dL_law_542 : decode cL_law 542 = .ok (.iadd, 1) := by decide +kernel
theorem dL_law_543 : decode cL_law 543 = .ok (.iaload, 1) := by decide +kernel
theorem dL_law_544 : decode cL_law 544 = .ok (.invokevirtual 65, 3) := by decide +kernel
theorem dL_law_547 : decode cL_law 547 = .ok (.if_icmp .eq 733, 3) := by decide +kernel
theorem dL_law_550 : decode cL_law 550 = .ok (.iconst 0, 1) := by decide +kernel
theorem dL_law_551 : decode cL_law 551 = .ok (.ireturn, 1) := by decide +kernel
theorem dL_law_552 : decode cL_law 552 = .ok (.aload_n 1, 1) := by decide +kernel
theorem dL_law_553 : decode cL_law 553 = .ok (.aload_n 0, 1) := by decide +kernel
theorem dL_law_554 : decode cL_law 554 = .ok (.iload_n 3, 1) := by decide +kernel
theorem dL_law_555 : decode cL_law 555 = .ok (.iconst 1, 1) := by decide +kernel
theorem dL_law_556 : decode cL_law 556 = .ok (.iadd, 1) := by decide +kernel
theorem dL_law_557 : decode cL_law 557 = .ok (.iaload, 1) := by decide +kernel
theorem dL_law_558 : decode cL_law 558 = .ok (.aload_n 0, 1) := by decide +kernel
theorem dL_law_559 : decode cL_law 559 = .ok (.iload_n 3, 1) := by decide +kernel
theorem dL_law_560 : decode cL_law 560 = .ok (.iconst 2, 1) := by decide +kernel
theorem dL_law_561 : decode cL_law 561 = .ok (.iadd, 1) := by decide +kernel
theorem dL_law_562 : decode cL_law 562 = .ok (.iaload, 1) := by decide +kernel
theorem dL_law_563 : decode cL_law 563 = .ok (.invokevirtual 66, 3) := by decide +kernel
theorem dL_law_566 : decode cL_law 566 = .ok (.aload_n 2, 1) := by decide +kernel
theorem dL_law_567 : decode cL_law 567 = .ok (.aload_n 0, 1) := by decide +kernel
theorem dL_law_568 : decode cL_law 568 = .ok (.iload_n 3, 1) := by decide +kernel
theorem dL_law_569 : decode cL_law 569 = .ok (.iconst 1, 1) := by decide +kernel
theorem dL_law_570 : decode cL_law 570 = .ok (.iadd, 1) := by decide +kernel
theorem dL_law_571 : decode cL_law 571 = .ok (.iaload, 1) := by decide +kernel
theorem dL_law_572 : decode cL_law 572 = .ok (.aload_n 0, 1) := by decide +kernel
theorem dL_law_573 : decode cL_law 573 = .ok (.iload_n 3, 1) := by decide +kernel
theorem dL_law_574 : decode cL_law 574 = .ok (.iconst 2, 1) := by decide +kernel
theorem dL_law_575 : decode cL_law 575 = .ok (.iadd, 1) := by decide +kernel
theorem dL_law_576 : decode cL_law 576 = .ok (.iaload, 1) := by decide +kernel
theorem dL_law_577 : decode cL_law 577 = .ok (.invokevirtual 69, 3) := by decide +kernel
theorem dL_law_580 : decode cL_law 580 = .ok (.if_icmp .eq 700, 3) := by decide +kernel
theorem dL_law_583 : decode cL_law 583 = .ok (.iconst 0, 1) := by decide +kernel
theorem dL_law_584 : decode cL_law 584 = .ok (.ireturn, 1) := by decide +kernel
theorem dL_law_585 : decode cL_law 585 = .ok (.aload_n 1, 1) := by decide +kernel
theorem dL_law_586 : decode cL_law 586 = .ok (.aload_n 0, 1) := by decide +kernel
theorem dL_law_587 : decode cL_law 587 = .ok (.iload_n 3, 1) := by decide +kernel
theorem dL_law_588 : decode cL_law 588 = .ok (.iconst 1, 1) := by decide +kernel
theorem dL_law_589 : decode cL_law 589 = .ok (.iadd, 1) := by decide +kernel
theorem dL_law_590 : decode cL_law 590 = .ok (.iaload, 1) := by decide +kernel
theorem dL_law_591 : decode cL_law 591 = .ok (.aload_n 0, 1) := by decide +kernel
theorem dL_law_592 : decode cL_law 592 = .ok (.iload_n 3, 1) := by decide +kernel
theorem dL_law_593 : decode cL_law 593 = .ok (.iconst 2, 1) := by decide +kernel
theorem dL_law_594 : decode cL_law 594 = .ok (.iadd, 1) := by decide +kernel
theorem dL_law_595 : decode cL_law 595 = .ok (.iaload, 1) := by decide +kernel
theorem dL_law_596 : decode cL_law 596 = .ok (.invokevirtual 70, 3) := by decide +kernel
theorem dL_law_599 : decode cL_law 599 = .ok (.aload_n 2, 1) := by decide +kernel
theorem dL_law_600 : decode cL_law 600 = .ok (.aload_n 0, 1) := by decide +kernel
theorem dL_law_601 : decode cL_law 601 = .ok (.iload_n 3, 1) := by decide +kernel
theorem dL_law_602 : decode cL_law 602 = .ok (.iconst 1, 1) := by decide +kernel
theorem dL_law_603 : decode cL_law 603 = .ok (.iadd, 1) := by decide +kernel
theorem dL_law_604 : decode cL_law 604 = .ok (.iaload, 1) := by decide +kernel
theorem dL_law_605 : decode cL_law 605 = .ok (.aload_n 0, 1) := by decide +kernel
theorem dL_law_606 : decode cL_law 606 = .ok (.iload_n 3, 1) := by decide +kernel
theorem dL_law_607 : decode cL_law 607 = .ok (.iconst 2, 1) := by decide +kernel
theorem dL_law_608 : decode cL_law 608 = .ok (.iadd, 1) := by decide +kernel
theorem dL_law_609 : decode cL_law 609 = .ok (.iaload, 1) := by decide +kernel
theorem dL_law_610 : decode cL_law 610 = .ok (.invokevirtual 74, 3) := by decide +kernel
theorem dL_law_613 : decode cL_law 613 = .ok (.lcmp, 1) := by decide +kernel
theorem dL_law_614 : decode cL_law 614 = .ok (.ifCond .eq 666, 3) := by decide +kernel
theorem dL_law_617 : decode cL_law 617 = .ok (.iconst 0, 1) := by decide +kernel
theorem dL_law_618 : decode cL_law 618 = .ok (.ireturn, 1) := by decide +kernel
theorem dL_law_619 : decode cL_law 619 = .ok (.aload_n 1, 1) := by decide +kernel
theorem dL_law_620 : decode cL_law 620 = .ok (.aload_n 0, 1) := by decide +kernel
theorem dL_law_621 : decode cL_law 621 = .ok (.iload_n 3, 1) := by decide +kernel
theorem dL_law_622 : decode cL_law 622 = .ok (.iconst 1, 1) := by decide +kernel
theorem dL_law_623 : decode cL_law 623 = .ok (.iadd, 1) := by decide +kernel
theorem dL_law_624 : decode cL_law 624 = .ok (.iaload, 1) := by decide +kernel
theorem dL_law_625 : decode cL_law 625 = .ok (.aload_n 0, 1) := by decide +kernel
theorem dL_law_626 : decode cL_law 626 = .ok (.iload_n 3, 1) := by decide +kernel
theorem dL_law_627 : decode cL_law 627 = .ok (.iconst 2, 1) := by decide +kernel
theorem dL_law_628 : decode cL_law 628 = .ok (.iadd, 1) := by decide +kernel
theorem dL_law_629 : decode cL_law 629 = .ok (.iaload, 1) := by decide +kernel
theorem dL_law_630 : decode cL_law 630 = .ok (.aload_n 0, 1) := by decide +kernel
theorem dL_law_631 : decode cL_law 631 = .ok (.iload_n 3, 1) := by decide +kernel
theorem dL_law_632 : decode cL_law 632 = .ok (.iconst 3, 1) := by decide +kernel
theorem dL_law_633 : decode cL_law 633 = .ok (.iadd, 1) := by decide +kernel
theorem dL_law_634 : decode cL_law 634 = .ok (.iaload, 1) := by decide +kernel
theorem dL_law_635 : decode cL_law 635 = .ok (.invokevirtual 75, 3) := by decide +kernel
theorem dL_law_638 : decode cL_law 638 = .ok (.aload_n 2, 1) := by decide +kernel
theorem dL_law_639 : decode cL_law 639 = .ok (.aload_n 0, 1) := by decide +kernel
theorem dL_law_640 : decode cL_law 640 = .ok (.iload_n 3, 1) := by decide +kernel
theorem dL_law_641 : decode cL_law 641 = .ok (.iconst 1, 1) := by decide +kernel
theorem dL_law_642 : decode cL_law 642 = .ok (.iadd, 1) := by decide +kernel
theorem dL_law_643 : decode cL_law 643 = .ok (.iaload, 1) := by decide +kernel
theorem dL_law_644 : decode cL_law 644 = .ok (.aload_n 0, 1) := by decide +kernel
theorem dL_law_645 : decode cL_law 645 = .ok (.iload_n 3, 1) := by decide +kernel
theorem dL_law_646 : decode cL_law 646 = .ok (.iconst 2, 1) := by decide +kernel
theorem dL_law_647 : decode cL_law 647 = .ok (.iadd, 1) := by decide +kernel
theorem dL_law_648 : decode cL_law 648 = .ok (.iaload, 1) := by decide +kernel
theorem dL_law_649 : decode cL_law 649 = .ok (.aload_n 0, 1) := by decide +kernel
theorem dL_law_650 : decode cL_law 650 = .ok (.iload_n 3, 1) := by decide +kernel
theorem dL_law_651 : decode cL_law 651 = .ok (.iconst 3, 1) := by decide +kernel
theorem dL_law_652 : decode cL_law 652 = .ok (.iadd, 1) := by decide +kernel
theorem dL_law_653 : decode cL_law 653 = .ok (.iaload, 1) := by decide +kernel
theorem dL_law_654 : decode cL_law 654 = .ok (.invokevirtual 79, 3) := by decide +kernel
theorem dL_law_657 : decode cL_law 657 = .ok (.if_icmp .eq 623, 3) := by decide +kernel
theorem dL_law_660 : decode cL_law 660 = .ok (.iconst 0, 1) := by decide +kernel
theorem dL_law_661 : decode cL_law 661 = .ok (.ireturn, 1) := by decide +kernel
theorem dL_law_662 : decode cL_law 662 = .ok (.aload_n 1, 1) := by decide +kernel
theorem dL_law_663 : decode cL_law 663 = .ok (.aload_n 0, 1) := by decide +kernel
theorem dL_law_664 : decode cL_law 664 = .ok (.iload_n 3, 1) := by decide +kernel
theorem dL_law_665 : decode cL_law 665 = .ok (.iconst 1, 1) := by decide +kernel
theorem dL_law_666 : decode cL_law 666 = .ok (.iadd, 1) := by decide +kernel
theorem dL_law_667 : decode cL_law 667 = .ok (.iaload, 1) := by decide +kernel
theorem dL_law_668 : decode cL_law 668 = .ok (.aload_n 0, 1) := by decide +kernel
theorem dL_law_669 : decode cL_law 669 = .ok (.iload_n 3, 1) := by decide +kernel
theorem dL_law_670 : decode cL_law 670 = .ok (.iconst 2, 1) := by decide +kernel
theorem dL_law_671 : decode cL_law 671 = .ok (.iadd, 1) := by decide +kernel
theorem dL_law_672 : decode cL_law 672 = .ok (.iaload, 1) := by decide +kernel
theorem dL_law_673 : decode cL_law 673 = .ok (.invokevirtual 80, 3) := by decide +kernel
theorem dL_law_676 : decode cL_law 676 = .ok (.aload_n 2, 1) := by decide +kernel
theorem dL_law_677 : decode cL_law 677 = .ok (.aload_n 0, 1) := by decide +kernel
theorem dL_law_678 : decode cL_law 678 = .ok (.iload_n 3, 1) := by decide +kernel
theorem dL_law_679 : decode cL_law 679 = .ok (.iconst 1, 1) := by decide +kernel
theorem dL_law_680 : decode cL_law 680 = .ok (.iadd, 1) := by decide +kernel
theorem dL_law_681 : decode cL_law 681 = .ok (.iaload, 1) := by decide +kernel
theorem dL_law_682 : decode cL_law 682 = .ok (.aload_n 0, 1) := by decide +kernel
theorem dL_law_683 : decode cL_law 683 = .ok (.iload_n 3, 1) := by decide +kernel
theorem dL_law_684 : decode cL_law 684 = .ok (.iconst 2, 1) := by decide +kernel
theorem dL_law_685 : decode cL_law 685 = .ok (.iadd, 1) := by decide +kernel
theorem dL_law_686 : decode cL_law 686 = .ok (.iaload, 1) := by decide +kernel
theorem dL_law_687 : decode cL_law 687 = .ok (.invokevirtual 83, 3) := by decide +kernel
theorem dL_law_690 : decode cL_law 690 = .ok (.if_icmp .eq 590, 3) := by decide +kernel
theorem dL_law_693 : decode cL_law 693 = .ok (.iconst 0, 1) := by decide +kernel
theorem dL_law_694 : decode cL_law 694 = .ok (.ireturn, 1) := by decide +kernel
theorem dL_law_695 : decode cL_law 695 = .ok (.aload_n 1, 1) := by decide +kernel
theorem dL_law_696 : decode cL_law 696 = .ok (.aload_n 0, 1) := by decide +kernel
theorem dL_law_697 : decode cL_law 697 = .ok (.iload_n 3, 1) := by decide +kernel
theorem dL_law_698 : decode cL_law 698 = .ok (.iconst 1, 1) := by decide +kernel
theorem dL_law_699 : decode cL_law 699 = .ok (.iadd, 1) := by decide +kernel
theorem dL_law_700 : decode cL_law 700 = .ok (.iaload, 1) := by decide +kernel
theorem dL_law_701 : decode cL_law 701 = .ok (.aload_n 0, 1) := by decide +kernel
theorem dL_law_702 : decode cL_law 702 = .ok (.iload_n 3, 1) := by decide +kernel
theorem dL_law_703 : decode cL_law 703 = .ok (.iconst 2, 1) := by decide +kernel
theorem dL_law_704 : decode cL_law 704 = .ok (.iadd, 1) := by decide +kernel
theorem dL_law_705 : decode cL_law 705 = .ok (.iaload, 1) := by decide +kernel
theorem dL_law_706 : decode cL_law 706 = .ok (.invokevirtual 84, 3) := by decide +kernel
theorem dL_law_709 : decode cL_law 709 = .ok (.aload_n 2, 1) := by decide +kernel
theorem dL_law_710 : decode cL_law 710 = .ok (.aload_n 0, 1) := by decide +kernel
theorem dL_law_711 : decode cL_law 711 = .ok (.iload_n 3, 1) := by decide +kernel
theorem dL_law_712 : decode cL_law 712 = .ok (.iconst 1, 1) := by decide +kernel
theorem dL_law_713 : decode cL_law 713 = .ok (.iadd, 1) := by decide +kernel
theorem dL_law_714 : decode cL_law 714 = .ok (.iaload, 1) := by decide +kernel
theorem dL_law_715 : decode cL_law 715 = .ok (.aload_n 0, 1) := by decide +kernel
theorem dL_law_716 : decode cL_law 716 = .ok (.iload_n 3, 1) := by decide +kernel
theorem dL_law_717 : decode cL_law 717 = .ok (.iconst 2, 1) := by decide +kernel
theorem dL_law_718 : decode cL_law 718 = .ok (.iadd, 1) := by decide +kernel
theorem dL_law_719 : decode cL_law 719 = .ok (.iaload, 1) := by decide +kernel
theorem dL_law_720 : decode cL_law 720 = .ok (.invokevirtual 87, 3) := by decide +kernel
theorem dL_law_723 : decode cL_law 723 = .ok (.if_icmp .eq 557, 3) := by decide +kernel
theorem dL_law_726 : decode cL_law 726 = .ok (.iconst 0, 1) := by decide +kernel
theorem dL_law_727 : decode cL_law 727 = .ok (.ireturn, 1) := by decide +kernel
theorem dL_law_728 : decode cL_law 728 = .ok (.aload_n 1, 1) := by decide +kernel
theorem dL_law_729 : decode cL_law 729 = .ok (.aload_n 0, 1) := by decide +kernel
theorem dL_law_730 : decode cL_law 730 = .ok (.iload_n 3, 1) := by decide +kernel
theorem dL_law_731 : decode cL_law 731 = .ok (.iconst 1, 1) := by decide +kernel
theorem dL_law_732 : decode cL_law 732 = .ok (.iadd, 1) := by decide +kernel
theorem dL_law_733 : decode cL_law 733 = .ok (.iaload, 1) := by decide +kernel
theorem dL_law_734 : decode cL_law 734 = .ok (.aload_n 0, 1) := by decide +kernel
theorem dL_law_735 : decode cL_law 735 = .ok (.iload_n 3, 1) := by decide +kernel
theorem dL_law_736 : decode cL_law 736 = .ok (.iconst 2, 1) := by decide +kernel
theorem dL_law_737 : decode cL_law 737 = .ok (.iadd, 1) := by decide +kernel
theorem dL_law_738 : decode cL_law 738 = .ok (.iaload, 1) := by decide +kernel
theorem dL_law_739 : decode cL_law 739 = .ok (.invokevirtual 88, 3) := by decide +kernel
theorem dL_law_742 : decode cL_law 742 = .ok (.aload_n 2, 1) := by decide +kernel
theorem dL_law_743 : decode cL_law 743 = .ok (.aload_n 0, 1) := by decide +kernel
theorem dL_law_744 : decode cL_law 744 = .ok (.iload_n 3, 1) := by decide +kernel
theorem dL_law_745 : decode cL_law 745 = .ok (.iconst 1, 1) := by decide +kernel
theorem dL_law_746 : decode cL_law 746 = .ok (.iadd, 1) := by decide +kernel
theorem dL_law_747 : decode cL_law 747 = .ok (.iaload, 1) := by decide +kernel
theorem dL_law_748 : decode cL_law 748 = .ok (.aload_n 0, 1) := by decide +kernel
theorem dL_law_749 : decode cL_law 749 = .ok (.iload_n 3, 1) := by decide +kernel
theorem dL_law_750 : decode cL_law 750 = .ok (.iconst 2, 1) := by decide +kernel
theorem dL_law_751 : decode cL_law 751 = .ok (.iadd, 1) := by decide +kernel
theorem dL_law_752 : decode cL_law 752 = .ok (.iaload, 1) := by decide +kernel
theorem dL_law_753 : decode cL_law 753 = .ok (.invokevirtual 91, 3) := by decide +kernel
theorem dL_law_756 : decode cL_law 756 = .ok (.if_icmp .eq 524, 3) := by decide +kernel
theorem dL_law_759 : decode cL_law 759 = .ok (.iconst 0, 1) := by decide +kernel
theorem dL_law_760 : decode cL_law 760 = .ok (.ireturn, 1) := by decide +kernel
theorem dL_law_761 : decode cL_law 761 = .ok (.aload_n 1, 1) := by decide +kernel
theorem dL_law_762 : decode cL_law 762 = .ok (.aload_n 0, 1) := by decide +kernel
theorem dL_law_763 : decode cL_law 763 = .ok (.iload_n 3, 1) := by decide +kernel
theorem dL_law_764 : decode cL_law 764 = .ok (.iconst 1, 1) := by decide +kernel
theorem dL_law_765 : decode cL_law 765 = .ok (.iadd, 1) := by decide +kernel
theorem dL_law_766 : decode cL_law 766 = .ok (.iaload, 1) := by decide +kernel
theorem dL_law_767 : decode cL_law 767 = .ok (.aload_n 0, 1) := by decide +kernel
theorem dL_law_768 : decode cL_law 768 = .ok (.iload_n 3, 1) := by decide +kernel
theorem dL_law_769 : decode cL_law 769 = .ok (.iconst 2, 1) := by decide +kernel
theorem dL_law_770 : decode cL_law 770 = .ok (.iadd, 1) := by decide +kernel
theorem dL_law_771 : decode cL_law 771 = .ok (.iaload, 1) := by decide +kernel
theorem dL_law_772 : decode cL_law 772 = .ok (.invokevirtual 92, 3) := by decide +kernel
theorem dL_law_775 : decode cL_law 775 = .ok (.aload_n 2, 1) := by decide +kernel
theorem dL_law_776 : decode cL_law 776 = .ok (.aload_n 0, 1) := by decide +kernel
theorem dL_law_777 : decode cL_law 777 = .ok (.iload_n 3, 1) := by decide +kernel
theorem dL_law_778 : decode cL_law 778 = .ok (.iconst 1, 1) := by decide +kernel
theorem dL_law_779 : decode cL_law 779 = .ok (.iadd, 1) := by decide +kernel
theorem dL_law_780 : decode cL_law 780 = .ok (.iaload, 1) := by decide +kernel
theorem dL_law_781 : decode cL_law 781 = .ok (.aload_n 0, 1) := by decide +kernel
theorem dL_law_782 : decode cL_law 782 = .ok (.iload_n 3, 1) := by decide +kernel
theorem dL_law_783 : decode cL_law 783 = .ok (.iconst 2, 1) := by decide +kernel
theorem dL_law_784 : decode cL_law 784 = .ok (.iadd, 1) := by decide +kernel
theorem dL_law_785 : decode cL_law 785 = .ok (.iaload, 1) := by decide +kernel
theorem dL_law_786 : decode cL_law 786 = .ok (.invokevirtual 95, 3) := by decide +kernel
theorem dL_law_789 : decode cL_law 789 = .ok (.if_icmp .eq 491, 3) := by decide +kernel
theorem dL_law_792 : decode cL_law 792 = .ok (.iconst 0, 1) := by decide +kernel
theorem dL_law_793 : decode cL_law 793 = .ok (.ireturn, 1) := by decide +kernel
theorem dL_law_794 : decode cL_law 794 = .ok (.aload_n 1, 1) := by decide +kernel
theorem dL_law_795 : decode cL_law 795 = .ok (.aload_n 0, 1) := by decide +kernel
theorem dL_law_796 : decode cL_law 796 = .ok (.iload_n 3, 1) := by decide +kernel
theorem dL_law_797 : decode cL_law 797 = .ok (.iconst 1, 1) := by decide +kernel
theorem dL_law_798 : decode cL_law 798 = .ok (.iadd, 1) := by decide +kernel
theorem dL_law_799 : decode cL_law 799 = .ok (.iaload, 1) := by decide +kernel
theorem dL_law_800 : decode cL_law 800 = .ok (.aload_n 0, 1) := by decide +kernel
theorem dL_law_801 : decode cL_law 801 = .ok (.iload_n 3, 1) := by decide +kernel
theorem dL_law_802 : decode cL_law 802 = .ok (.iconst 2, 1) := by decide +kernel
theorem dL_law_803 : decode cL_law 803 = .ok (.iadd, 1) := by decide +kernel
theorem dL_law_804 : decode cL_law 804 = .ok (.iaload, 1) := by decide +kernel
theorem dL_law_805 : decode cL_law 805 = .ok (.aload_n 0, 1) := by decide +kernel
theorem dL_law_806 : decode cL_law 806 = .ok (.iload_n 3, 1) := by decide +kernel
theorem dL_law_807 : decode cL_law 807 = .ok (.iconst 3, 1) := by decide +kernel
theorem dL_law_808 : decode cL_law 808 = .ok (.iadd, 1) := by decide +kernel
theorem dL_law_809 : decode cL_law 809 = .ok (.iaload, 1) := by decide +kernel
theorem dL_law_810 : decode cL_law 810 = .ok (.invokevirtual 96, 3) := by decide +kernel
theorem dL_law_813 : decode cL_law 813 = .ok (.aload_n 2, 1) := by decide +kernel
theorem dL_law_814 : decode cL_law 814 = .ok (.aload_n 0, 1) := by decide +kernel
theorem dL_law_815 : decode cL_law 815 = .ok (.iload_n 3, 1) := by decide +kernel
theorem dL_law_816 : decode cL_law 816 = .ok (.iconst 1, 1) := by decide +kernel
theorem dL_law_817 : decode cL_law 817 = .ok (.iadd, 1) := by decide +kernel
theorem dL_law_818 : decode cL_law 818 = .ok (.iaload, 1) := by decide +kernel
theorem dL_law_819 : decode cL_law 819 = .ok (.aload_n 0, 1) := by decide +kernel
theorem dL_law_820 : decode cL_law 820 = .ok (.iload_n 3, 1) := by decide +kernel
theorem dL_law_821 : decode cL_law 821 = .ok (.iconst 2, 1) := by decide +kernel
theorem dL_law_822 : decode cL_law 822 = .ok (.iadd, 1) := by decide +kernel
theorem dL_law_823 : decode cL_law 823 = .ok (.iaload, 1) := by decide +kernel
theorem dL_law_824 : decode cL_law 824 = .ok (.aload_n 0, 1) := by decide +kernel
theorem dL_law_825 : decode cL_law 825 = .ok (.iload_n 3, 1) := by decide +kernel
theorem dL_law_826 : decode cL_law 826 = .ok (.iconst 3, 1) := by decide +kernel
theorem dL_law_827 : decode cL_law 827 = .ok (.iadd, 1) := by decide +kernel
theorem dL_law_828 : decode cL_law 828 = .ok (.iaload, 1) := by decide +kernel
theorem dL_law_829 : decode cL_law 829 = .ok (.invokevirtual 99, 3) := by decide +kernel
theorem dL_law_832 : decode cL_law 832 = .ok (.if_icmp .eq 448, 3) := by decide +kernel
theorem dL_law_835 : decode cL_law 835 = .ok (.iconst 0, 1) := by decide +kernel
theorem dL_law_836 : decode cL_law 836 = .ok (.ireturn, 1) := by decide +kernel
theorem dL_law_837 : decode cL_law 837 = .ok (.aload_n 1, 1) := by decide +kernel
theorem dL_law_838 : decode cL_law 838 = .ok (.aload_n 0, 1) := by decide +kernel
theorem dL_law_839 : decode cL_law 839 = .ok (.iload_n 3, 1) := by decide +kernel
theorem dL_law_840 : decode cL_law 840 = .ok (.iconst 1, 1) := by decide +kernel
theorem dL_law_841 : decode cL_law 841 = .ok (.iadd, 1) := by decide +kernel
theorem dL_law_842 : decode cL_law 842 = .ok (.iaload, 1) := by decide +kernel
theorem dL_law_843 : decode cL_law 843 = .ok (.aload_n 0, 1) := by decide +kernel
theorem dL_law_844 : decode cL_law 844 = .ok (.iload_n 3, 1) := by decide +kernel
theorem dL_law_845 : decode cL_law 845 = .ok (.iconst 2, 1) := by decide +kernel
theorem dL_law_846 : decode cL_law 846 = .ok (.iadd, 1) := by decide +kernel
theorem dL_law_847 : decode cL_law 847 = .ok (.iaload, 1) := by decide +kernel
theorem dL_law_848 : decode cL_law 848 = .ok (.invokevirtual 100, 3) := by decide +kernel
theorem dL_law_851 : decode cL_law 851 = .ok (.aload_n 2, 1) := by decide +kernel
theorem dL_law_852 : decode cL_law 852 = .ok (.aload_n 0, 1) := by decide +kernel
theorem dL_law_853 : decode cL_law 853 = .ok (.iload_n 3, 1) := by decide +kernel
theorem dL_law_854 : decode cL_law 854 = .ok (.iconst 1, 1) := by decide +kernel
theorem dL_law_855 : decode cL_law 855 = .ok (.iadd, 1) := by decide +kernel
theorem dL_law_856 : decode cL_law 856 = .ok (.iaload, 1) := by decide +kernel
theorem dL_law_857 : decode cL_law 857 = .ok (.aload_n 0, 1) := by decide +kernel
theorem dL_law_858 : decode cL_law 858 = .ok (.iload_n 3, 1) := by decide +kernel
theorem dL_law_859 : decode cL_law 859 = .ok (.iconst 2, 1) := by decide +kernel
theorem dL_law_860 : decode cL_law 860 = .ok (.iadd, 1) := by decide +kernel
theorem dL_law_861 : decode cL_law 861 = .ok (.iaload, 1) := by decide +kernel
theorem dL_law_862 : decode cL_law 862 = .ok (.invokevirtual 103, 3) := by decide +kernel
theorem dL_law_865 : decode cL_law 865 = .ok (.lcmp, 1) := by decide +kernel
theorem dL_law_866 : decode cL_law 866 = .ok (.ifCond .eq 414, 3) := by decide +kernel
theorem dL_law_869 : decode cL_law 869 = .ok (.iconst 0, 1) := by decide +kernel
theorem dL_law_870 : decode cL_law 870 = .ok (.ireturn, 1) := by decide +kernel
theorem dL_law_871 : decode cL_law 871 = .ok (.aload_n 1, 1) := by decide +kernel
theorem dL_law_872 : decode cL_law 872 = .ok (.aload_n 0, 1) := by decide +kernel
theorem dL_law_873 : decode cL_law 873 = .ok (.iload_n 3, 1) := by decide +kernel
theorem dL_law_874 : decode cL_law 874 = .ok (.iconst 1, 1) := by decide +kernel
theorem dL_law_875 : decode cL_law 875 = .ok (.iadd, 1) := by decide +kernel
theorem dL_law_876 : decode cL_law 876 = .ok (.iaload, 1) := by decide +kernel
theorem dL_law_877 : decode cL_law 877 = .ok (.aload_n 0, 1) := by decide +kernel
theorem dL_law_878 : decode cL_law 878 = .ok (.iload_n 3, 1) := by decide +kernel
theorem dL_law_879 : decode cL_law 879 = .ok (.iconst 2, 1) := by decide +kernel
theorem dL_law_880 : decode cL_law 880 = .ok (.iadd, 1) := by decide +kernel
theorem dL_law_881 : decode cL_law 881 = .ok (.iaload, 1) := by decide +kernel
theorem dL_law_882 : decode cL_law 882 = .ok (.aload_n 0, 1) := by decide +kernel
theorem dL_law_883 : decode cL_law 883 = .ok (.iload_n 3, 1) := by decide +kernel
theorem dL_law_884 : decode cL_law 884 = .ok (.iconst 3, 1) := by decide +kernel
theorem dL_law_885 : decode cL_law 885 = .ok (.iadd, 1) := by decide +kernel
theorem dL_law_886 : decode cL_law 886 = .ok (.iaload, 1) := by decide +kernel
theorem dL_law_887 : decode cL_law 887 = .ok (.invokevirtual 104, 3) := by decide +kernel
theorem dL_law_890 : decode cL_law 890 = .ok (.aload_n 2, 1) := by decide +kernel
theorem dL_law_891 : decode cL_law 891 = .ok (.aload_n 0, 1) := by decide +kernel
theorem dL_law_892 : decode cL_law 892 = .ok (.iload_n 3, 1) := by decide +kernel
theorem dL_law_893 : decode cL_law 893 = .ok (.iconst 1, 1) := by decide +kernel
theorem dL_law_894 : decode cL_law 894 = .ok (.iadd, 1) := by decide +kernel
theorem dL_law_895 : decode cL_law 895 = .ok (.iaload, 1) := by decide +kernel
theorem dL_law_896 : decode cL_law 896 = .ok (.aload_n 0, 1) := by decide +kernel
theorem dL_law_897 : decode cL_law 897 = .ok (.iload_n 3, 1) := by decide +kernel
theorem dL_law_898 : decode cL_law 898 = .ok (.iconst 2, 1) := by decide +kernel
theorem dL_law_899 : decode cL_law 899 = .ok (.iadd, 1) := by decide +kernel
theorem dL_law_900 : decode cL_law 900 = .ok (.iaload, 1) := by decide +kernel
theorem dL_law_901 : decode cL_law 901 = .ok (.aload_n 0, 1) := by decide +kernel
theorem dL_law_902 : decode cL_law 902 = .ok (.iload_n 3, 1) := by decide +kernel
theorem dL_law_903 : decode cL_law 903 = .ok (.iconst 3, 1) := by decide +kernel
theorem dL_law_904 : decode cL_law 904 = .ok (.iadd, 1) := by decide +kernel
theorem dL_law_905 : decode cL_law 905 = .ok (.iaload, 1) := by decide +kernel
theorem dL_law_906 : decode cL_law 906 = .ok (.invokevirtual 107, 3) := by decide +kernel
theorem dL_law_909 : decode cL_law 909 = .ok (.if_icmp .eq 371, 3) := by decide +kernel
theorem dL_law_912 : decode cL_law 912 = .ok (.iconst 0, 1) := by decide +kernel
theorem dL_law_913 : decode cL_law 913 = .ok (.ireturn, 1) := by decide +kernel
theorem dL_law_914 : decode cL_law 914 = .ok (.aload_n 1, 1) := by decide +kernel
theorem dL_law_915 : decode cL_law 915 = .ok (.aload_n 0, 1) := by decide +kernel
theorem dL_law_916 : decode cL_law 916 = .ok (.iload_n 3, 1) := by decide +kernel
theorem dL_law_917 : decode cL_law 917 = .ok (.iconst 1, 1) := by decide +kernel
theorem dL_law_918 : decode cL_law 918 = .ok (.iadd, 1) := by decide +kernel
theorem dL_law_919 : decode cL_law 919 = .ok (.iaload, 1) := by decide +kernel
theorem dL_law_920 : decode cL_law 920 = .ok (.aload_n 0, 1) := by decide +kernel
theorem dL_law_921 : decode cL_law 921 = .ok (.iload_n 3, 1) := by decide +kernel
theorem dL_law_922 : decode cL_law 922 = .ok (.iconst 2, 1) := by decide +kernel
theorem dL_law_923 : decode cL_law 923 = .ok (.iadd, 1) := by decide +kernel
theorem dL_law_924 : decode cL_law 924 = .ok (.iaload, 1) := by decide +kernel
theorem dL_law_925 : decode cL_law 925 = .ok (.invokevirtual 108, 3) := by decide +kernel
theorem dL_law_928 : decode cL_law 928 = .ok (.aload_n 2, 1) := by decide +kernel
theorem dL_law_929 : decode cL_law 929 = .ok (.aload_n 0, 1) := by decide +kernel
theorem dL_law_930 : decode cL_law 930 = .ok (.iload_n 3, 1) := by decide +kernel
theorem dL_law_931 : decode cL_law 931 = .ok (.iconst 1, 1) := by decide +kernel
theorem dL_law_932 : decode cL_law 932 = .ok (.iadd, 1) := by decide +kernel
theorem dL_law_933 : decode cL_law 933 = .ok (.iaload, 1) := by decide +kernel
theorem dL_law_934 : decode cL_law 934 = .ok (.aload_n 0, 1) := by decide +kernel
theorem dL_law_935 : decode cL_law 935 = .ok (.iload_n 3, 1) := by decide +kernel
theorem dL_law_936 : decode cL_law 936 = .ok (.iconst 2, 1) := by decide +kernel
theorem dL_law_937 : decode cL_law 937 = .ok (.iadd, 1) := by decide +kernel
theorem dL_law_938 : decode cL_law 938 = .ok (.iaload, 1) := by decide +kernel
theorem dL_law_939 : decode cL_law 939 = .ok (.invokevirtual 112, 3) := by decide +kernel
theorem dL_law_942 : decode cL_law 942 = .ok (.if_icmp .eq 338, 3) := by decide +kernel
theorem dL_law_945 : decode cL_law 945 = .ok (.iconst 0, 1) := by decide +kernel
theorem dL_law_946 : decode cL_law 946 = .ok (.ireturn, 1) := by decide +kernel
theorem dL_law_947 : decode cL_law 947 = .ok (.aload_n 1, 1) := by decide +kernel
theorem dL_law_948 : decode cL_law 948 = .ok (.aload_n 0, 1) := by decide +kernel
theorem dL_law_949 : decode cL_law 949 = .ok (.iload_n 3, 1) := by decide +kernel
theorem dL_law_950 : decode cL_law 950 = .ok (.iconst 1, 1) := by decide +kernel
theorem dL_law_951 : decode cL_law 951 = .ok (.iadd, 1) := by decide +kernel
theorem dL_law_952 : decode cL_law 952 = .ok (.iaload, 1) := by decide +kernel
theorem dL_law_953 : decode cL_law 953 = .ok (.aload_n 0, 1) := by decide +kernel
theorem dL_law_954 : decode cL_law 954 = .ok (.iload_n 3, 1) := by decide +kernel
theorem dL_law_955 : decode cL_law 955 = .ok (.iconst 2, 1) := by decide +kernel
theorem dL_law_956 : decode cL_law 956 = .ok (.iadd, 1) := by decide +kernel
theorem dL_law_957 : decode cL_law 957 = .ok (.iaload, 1) := by decide +kernel
theorem dL_law_958 : decode cL_law 958 = .ok (.invokevirtual 113, 3) := by decide +kernel
theorem dL_law_961 : decode cL_law 961 = .ok (.aload_n 2, 1) := by decide +kernel
theorem dL_law_962 : decode cL_law 962 = .ok (.aload_n 0, 1) := by decide +kernel
theorem dL_law_963 : decode cL_law 963 = .ok (.iload_n 3, 1) := by decide +kernel
theorem dL_law_964 : decode cL_law 964 = .ok (.iconst 1, 1) := by decide +kernel
theorem dL_law_965 : decode cL_law 965 = .ok (.iadd, 1) := by decide +kernel
theorem dL_law_966 : decode cL_law 966 = .ok (.iaload, 1) := by decide +kernel
theorem dL_law_967 : decode cL_law 967 = .ok (.aload_n 0, 1) := by decide +kernel
theorem dL_law_968 : decode cL_law 968 = .ok (.iload_n 3, 1) := by decide +kernel
theorem dL_law_969 : decode cL_law 969 = .ok (.iconst 2, 1) := by decide +kernel
theorem dL_law_970 : decode cL_law 970 = .ok (.iadd, 1) := by decide +kernel
theorem dL_law_971 : decode cL_law 971 = .ok (.iaload, 1) := by decide +kernel
theorem dL_law_972 : decode cL_law 972 = .ok (.invokevirtual 116, 3) := by decide +kernel
theorem dL_law_975 : decode cL_law 975 = .ok (.if_icmp .eq 305, 3) := by decide +kernel
theorem dL_law_978 : decode cL_law 978 = .ok (.iconst 0, 1) := by decide +kernel
theorem dL_law_979 : decode cL_law 979 = .ok (.ireturn, 1) := by decide +kernel
theorem dL_law_980 : decode cL_law 980 = .ok (.aload_n 1, 1) := by decide +kernel
theorem dL_law_981 : decode cL_law 981 = .ok (.aload_n 0, 1) := by decide +kernel
theorem dL_law_982 : decode cL_law 982 = .ok (.iload_n 3, 1) := by decide +kernel
theorem dL_law_983 : decode cL_law 983 = .ok (.iconst 1, 1) := by decide +kernel
theorem dL_law_984 : decode cL_law 984 = .ok (.iadd, 1) := by decide +kernel
theorem dL_law_985 : decode cL_law 985 = .ok (.iaload, 1) := by decide +kernel
theorem dL_law_986 : decode cL_law 986 = .ok (.aload_n 0, 1) := by decide +kernel
theorem dL_law_987 : decode cL_law 987 = .ok (.iload_n 3, 1) := by decide +kernel
theorem dL_law_988 : decode cL_law 988 = .ok (.iconst 2, 1) := by decide +kernel
theorem dL_law_989 : decode cL_law 989 = .ok (.iadd, 1) := by decide +kernel
theorem dL_law_990 : decode cL_law 990 = .ok (.iaload, 1) := by decide +kernel
theorem dL_law_991 : decode cL_law 991 = .ok (.aload_n 0, 1) := by decide +kernel
theorem dL_law_992 : decode cL_law 992 = .ok (.iload_n 3, 1) := by decide +kernel
theorem dL_law_993 : decode cL_law 993 = .ok (.iconst 3, 1) := by decide +kernel
theorem dL_law_994 : decode cL_law 994 = .ok (.iadd, 1) := by decide +kernel
theorem dL_law_995 : decode cL_law 995 = .ok (.iaload, 1) := by decide +kernel
theorem dL_law_996 : decode cL_law 996 = .ok (.ifCond .eq 7, 3) := by decide +kernel
theorem dL_law_999 : decode cL_law 999 = .ok (.iconst 1, 1) := by decide +kernel
theorem dL_law_1000 : decode cL_law 1000 = .ok (.goto 4, 3) := by decide +kernel
theorem dL_law_1003 : decode cL_law 1003 = .ok (.iconst 0, 1) := by decide +kernel
theorem dL_law_1004 : decode cL_law 1004 = .ok (.invokevirtual 117, 3) := by decide +kernel
theorem dL_law_1007 : decode cL_law 1007 = .ok (.aload_n 2, 1) := by decide +kernel
theorem dL_law_1008 : decode cL_law 1008 = .ok (.aload_n 0, 1) := by decide +kernel
theorem dL_law_1009 : decode cL_law 1009 = .ok (.iload_n 3, 1) := by decide +kernel
theorem dL_law_1010 : decode cL_law 1010 = .ok (.iconst 1, 1) := by decide +kernel
theorem dL_law_1011 : decode cL_law 1011 = .ok (.iadd, 1) := by decide +kernel
theorem dL_law_1012 : decode cL_law 1012 = .ok (.iaload, 1) := by decide +kernel
theorem dL_law_1013 : decode cL_law 1013 = .ok (.aload_n 0, 1) := by decide +kernel
theorem dL_law_1014 : decode cL_law 1014 = .ok (.iload_n 3, 1) := by decide +kernel
theorem dL_law_1015 : decode cL_law 1015 = .ok (.iconst 2, 1) := by decide +kernel
theorem dL_law_1016 : decode cL_law 1016 = .ok (.iadd, 1) := by decide +kernel
theorem dL_law_1017 : decode cL_law 1017 = .ok (.iaload, 1) := by decide +kernel
theorem dL_law_1018 : decode cL_law 1018 = .ok (.aload_n 0, 1) := by decide +kernel
theorem dL_law_1019 : decode cL_law 1019 = .ok (.iload_n 3, 1) := by decide +kernel
theorem dL_law_1020 : decode cL_law 1020 = .ok (.iconst 3, 1) := by decide +kernel
theorem dL_law_1021 : decode cL_law 1021 = .ok (.iadd, 1) := by decide +kernel
theorem dL_law_1022 : decode cL_law 1022 = .ok (.iaload, 1) := by decide +kernel
theorem dL_law_1023 : decode cL_law 1023 = .ok (.ifCond .eq 7, 3) := by decide +kernel
theorem dL_law_1026 : decode cL_law 1026 = .ok (.iconst 1, 1) := by decide +kernel
theorem dL_law_1027 : decode cL_law 1027 = .ok (.goto 4, 3) := by decide +kernel
theorem dL_law_1030 : decode cL_law 1030 = .ok (.iconst 0, 1) := by decide +kernel
theorem dL_law_1031 : decode cL_law 1031 = .ok (.invokevirtual 121, 3) := by decide +kernel
theorem dL_law_1034 : decode cL_law 1034 = .ok (.if_icmp .eq 246, 3) := by decide +kernel
theorem dL_law_1037 : decode cL_law 1037 = .ok (.iconst 0, 1) := by decide +kernel
theorem dL_law_1038 : decode cL_law 1038 = .ok (.ireturn, 1) := by decide +kernel
theorem dL_law_1039 : decode cL_law 1039 = .ok (.aload_n 1, 1) := by decide +kernel
theorem dL_law_1040 : decode cL_law 1040 = .ok (.aload_n 0, 1) := by decide +kernel
theorem dL_law_1041 : decode cL_law 1041 = .ok (.iload_n 3, 1) := by decide +kernel
theorem dL_law_1042 : decode cL_law 1042 = .ok (.iconst 1, 1) := by decide +kernel
theorem dL_law_1043 : decode cL_law 1043 = .ok (.iadd, 1) := by decide +kernel
theorem dL_law_1044 : decode cL_law 1044 = .ok (.iaload, 1) := by decide +kernel
theorem dL_law_1045 : decode cL_law 1045 = .ok (.aload_n 0, 1) := by decide +kernel
theorem dL_law_1046 : decode cL_law 1046 = .ok (.iload_n 3, 1) := by decide +kernel
theorem dL_law_1047 : decode cL_law 1047 = .ok (.iconst 2, 1) := by decide +kernel
theorem dL_law_1048 : decode cL_law 1048 = .ok (.iadd, 1) := by decide +kernel
theorem dL_law_1049 : decode cL_law 1049 = .ok (.iaload, 1) := by decide +kernel
theorem dL_law_1050 : decode cL_law 1050 = .ok (.aload_n 0, 1) := by decide +kernel
theorem dL_law_1051 : decode cL_law 1051 = .ok (.iload_n 3, 1) := by decide +kernel
theorem dL_law_1052 : decode cL_law 1052 = .ok (.iconst 3, 1) := by decide +kernel
theorem dL_law_1053 : decode cL_law 1053 = .ok (.iadd, 1) := by decide +kernel
theorem dL_law_1054 : decode cL_law 1054 = .ok (.iaload, 1) := by decide +kernel
theorem dL_law_1055 : decode cL_law 1055 = .ok (.invokevirtual 122, 3) := by decide +kernel
theorem dL_law_1058 : decode cL_law 1058 = .ok (.aload_n 2, 1) := by decide +kernel
theorem dL_law_1059 : decode cL_law 1059 = .ok (.aload_n 0, 1) := by decide +kernel
theorem dL_law_1060 : decode cL_law 1060 = .ok (.iload_n 3, 1) := by decide +kernel
theorem dL_law_1061 : decode cL_law 1061 = .ok (.iconst 1, 1) := by decide +kernel
theorem dL_law_1062 : decode cL_law 1062 = .ok (.iadd, 1) := by decide +kernel
theorem dL_law_1063 : decode cL_law 1063 = .ok (.iaload, 1) := by decide +kernel
theorem dL_law_1064 : decode cL_law 1064 = .ok (.aload_n 0, 1) := by decide +kernel
theorem dL_law_1065 : decode cL_law 1065 = .ok (.iload_n 3, 1) := by decide +kernel
theorem dL_law_1066 : decode cL_law 1066 = .ok (.iconst 2, 1) := by decide +kernel
theorem dL_law_1067 : decode cL_law 1067 = .ok (.iadd, 1) := by decide +kernel
theorem dL_law_1068 : decode cL_law 1068 = .ok (.iaload, 1) := by decide +kernel
theorem dL_law_1069 : decode cL_law 1069 = .ok (.aload_n 0, 1) := by decide +kernel
theorem dL_law_1070 : decode cL_law 1070 = .ok (.iload_n 3, 1) := by decide +kernel
theorem dL_law_1071 : decode cL_law 1071 = .ok (.iconst 3, 1) := by decide +kernel
theorem dL_law_1072 : decode cL_law 1072 = .ok (.iadd, 1) := by decide +kernel
theorem dL_law_1073 : decode cL_law 1073 = .ok (.iaload, 1) := by decide +kernel
theorem dL_law_1074 : decode cL_law 1074 = .ok (.invokevirtual 125, 3) := by decide +kernel
theorem dL_law_1077 : decode cL_law 1077 = .ok (.if_icmp .eq 203, 3) := by decide +kernel
theorem dL_law_1080 : decode cL_law 1080 = .ok (.iconst 0, 1) := by decide +kernel
theorem dL_law_1081 : decode cL_law 1081 = .ok (.ireturn, 1) := by decide +kernel
theorem dL_law_1082 : decode cL_law 1082 = .ok (.aload_n 1, 1) := by decide +kernel
theorem dL_law_1083 : decode cL_law 1083 = .ok (.aload_n 0, 1) := by decide +kernel
theorem dL_law_1084 : decode cL_law 1084 = .ok (.iload_n 3, 1) := by decide +kernel
theorem dL_law_1085 : decode cL_law 1085 = .ok (.iconst 1, 1) := by decide +kernel
theorem dL_law_1086 : decode cL_law 1086 = .ok (.iadd, 1) := by decide +kernel
theorem dL_law_1087 : decode cL_law 1087 = .ok (.iaload, 1) := by decide +kernel
theorem dL_law_1088 : decode cL_law 1088 = .ok (.aload_n 0, 1) := by decide +kernel
theorem dL_law_1089 : decode cL_law 1089 = .ok (.iload_n 3, 1) := by decide +kernel
theorem dL_law_1090 : decode cL_law 1090 = .ok (.iconst 2, 1) := by decide +kernel
theorem dL_law_1091 : decode cL_law 1091 = .ok (.iadd, 1) := by decide +kernel
theorem dL_law_1092 : decode cL_law 1092 = .ok (.iaload, 1) := by decide +kernel
theorem dL_law_1093 : decode cL_law 1093 = .ok (.aload_n 0, 1) := by decide +kernel
theorem dL_law_1094 : decode cL_law 1094 = .ok (.iload_n 3, 1) := by decide +kernel
theorem dL_law_1095 : decode cL_law 1095 = .ok (.iconst 3, 1) := by decide +kernel
theorem dL_law_1096 : decode cL_law 1096 = .ok (.iadd, 1) := by decide +kernel
theorem dL_law_1097 : decode cL_law 1097 = .ok (.iaload, 1) := by decide +kernel
theorem dL_law_1098 : decode cL_law 1098 = .ok (.invokevirtual 126, 3) := by decide +kernel
theorem dL_law_1101 : decode cL_law 1101 = .ok (.aload_n 2, 1) := by decide +kernel
theorem dL_law_1102 : decode cL_law 1102 = .ok (.aload_n 0, 1) := by decide +kernel
theorem dL_law_1103 : decode cL_law 1103 = .ok (.iload_n 3, 1) := by decide +kernel
theorem dL_law_1104 : decode cL_law 1104 = .ok (.iconst 1, 1) := by decide +kernel
theorem dL_law_1105 : decode cL_law 1105 = .ok (.iadd, 1) := by decide +kernel
theorem dL_law_1106 : decode cL_law 1106 = .ok (.iaload, 1) := by decide +kernel
theorem dL_law_1107 : decode cL_law 1107 = .ok (.aload_n 0, 1) := by decide +kernel
theorem dL_law_1108 : decode cL_law 1108 = .ok (.iload_n 3, 1) := by decide +kernel
theorem dL_law_1109 : decode cL_law 1109 = .ok (.iconst 2, 1) := by decide +kernel
theorem dL_law_1110 : decode cL_law 1110 = .ok (.iadd, 1) := by decide +kernel
theorem dL_law_1111 : decode cL_law 1111 = .ok (.iaload, 1) := by decide +kernel
theorem dL_law_1112 : decode cL_law 1112 = .ok (.aload_n 0, 1) := by decide +kernel
theorem dL_law_1113 : decode cL_law 1113 = .ok (.iload_n 3, 1) := by decide +kernel
theorem dL_law_1114 : decode cL_law 1114 = .ok (.iconst 3, 1) := by decide +kernel
theorem dL_law_1115 : decode cL_law 1115 = .ok (.iadd, 1) := by decide +kernel
theorem dL_law_1116 : decode cL_law 1116 = .ok (.iaload, 1) := by decide +kernel
theorem dL_law_1117 : decode cL_law 1117 = .ok (.invokevirtual 129, 3) := by decide +kernel
theorem dL_law_1120 : decode cL_law 1120 = .ok (.if_icmp .eq 160, 3) := by decide +kernel
theorem dL_law_1123 : decode cL_law 1123 = .ok (.iconst 0, 1) := by decide +kernel
theorem dL_law_1124 : decode cL_law 1124 = .ok (.ireturn, 1) := by decide +kernel
theorem dL_law_1125 : decode cL_law 1125 = .ok (.aload_n 1, 1) := by decide +kernel
theorem dL_law_1126 : decode cL_law 1126 = .ok (.aload_n 0, 1) := by decide +kernel
theorem dL_law_1127 : decode cL_law 1127 = .ok (.iload_n 3, 1) := by decide +kernel
theorem dL_law_1128 : decode cL_law 1128 = .ok (.iconst 1, 1) := by decide +kernel
theorem dL_law_1129 : decode cL_law 1129 = .ok (.iadd, 1) := by decide +kernel
theorem dL_law_1130 : decode cL_law 1130 = .ok (.iaload, 1) := by decide +kernel
theorem dL_law_1131 : decode cL_law 1131 = .ok (.aload_n 0, 1) := by decide +kernel
theorem dL_law_1132 : decode cL_law 1132 = .ok (.iload_n 3, 1) := by decide +kernel
theorem dL_law_1133 : decode cL_law 1133 = .ok (.iconst 2, 1) := by decide +kernel
theorem dL_law_1134 : decode cL_law 1134 = .ok (.iadd, 1) := by decide +kernel
theorem dL_law_1135 : decode cL_law 1135 = .ok (.iaload, 1) := by decide +kernel
theorem dL_law_1136 : decode cL_law 1136 = .ok (.aload_n 0, 1) := by decide +kernel
theorem dL_law_1137 : decode cL_law 1137 = .ok (.iload_n 3, 1) := by decide +kernel
theorem dL_law_1138 : decode cL_law 1138 = .ok (.iconst 3, 1) := by decide +kernel
theorem dL_law_1139 : decode cL_law 1139 = .ok (.iadd, 1) := by decide +kernel
theorem dL_law_1140 : decode cL_law 1140 = .ok (.iaload, 1) := by decide +kernel
theorem dL_law_1141 : decode cL_law 1141 = .ok (.invokevirtual 130, 3) := by decide +kernel
theorem dL_law_1144 : decode cL_law 1144 = .ok (.aload_n 2, 1) := by decide +kernel
theorem dL_law_1145 : decode cL_law 1145 = .ok (.aload_n 0, 1) := by decide +kernel
theorem dL_law_1146 : decode cL_law 1146 = .ok (.iload_n 3, 1) := by decide +kernel
theorem dL_law_1147 : decode cL_law 1147 = .ok (.iconst 1, 1) := by decide +kernel
theorem dL_law_1148 : decode cL_law 1148 = .ok (.iadd, 1) := by decide +kernel
theorem dL_law_1149 : decode cL_law 1149 = .ok (.iaload, 1) := by decide +kernel
theorem dL_law_1150 : decode cL_law 1150 = .ok (.aload_n 0, 1) := by decide +kernel
theorem dL_law_1151 : decode cL_law 1151 = .ok (.iload_n 3, 1) := by decide +kernel
theorem dL_law_1152 : decode cL_law 1152 = .ok (.iconst 2, 1) := by decide +kernel
theorem dL_law_1153 : decode cL_law 1153 = .ok (.iadd, 1) := by decide +kernel
theorem dL_law_1154 : decode cL_law 1154 = .ok (.iaload, 1) := by decide +kernel
theorem dL_law_1155 : decode cL_law 1155 = .ok (.aload_n 0, 1) := by decide +kernel
theorem dL_law_1156 : decode cL_law 1156 = .ok (.iload_n 3, 1) := by decide +kernel
theorem dL_law_1157 : decode cL_law 1157 = .ok (.iconst 3, 1) := by decide +kernel
theorem dL_law_1158 : decode cL_law 1158 = .ok (.iadd, 1) := by decide +kernel
theorem dL_law_1159 : decode cL_law 1159 = .ok (.iaload, 1) := by decide +kernel
theorem dL_law_1160 : decode cL_law 1160 = .ok (.invokevirtual 134, 3) := by decide +kernel
theorem dL_law_1163 : decode cL_law 1163 = .ok (.if_icmp .eq 117, 3) := by decide +kernel
theorem dL_law_1166 : decode cL_law 1166 = .ok (.iconst 0, 1) := by decide +kernel
theorem dL_law_1167 : decode cL_law 1167 = .ok (.ireturn, 1) := by decide +kernel
theorem dL_law_1168 : decode cL_law 1168 = .ok (.aload_n 1, 1) := by decide +kernel
theorem dL_law_1169 : decode cL_law 1169 = .ok (.aload_n 0, 1) := by decide +kernel
theorem dL_law_1170 : decode cL_law 1170 = .ok (.iload_n 3, 1) := by decide +kernel
theorem dL_law_1171 : decode cL_law 1171 = .ok (.iconst 1, 1) := by decide +kernel
theorem dL_law_1172 : decode cL_law 1172 = .ok (.iadd, 1) := by decide +kernel
theorem dL_law_1173 : decode cL_law 1173 = .ok (.iaload, 1) := by decide +kernel
theorem dL_law_1174 : decode cL_law 1174 = .ok (.aload_n 0, 1) := by decide +kernel
theorem dL_law_1175 : decode cL_law 1175 = .ok (.iload_n 3, 1) := by decide +kernel
theorem dL_law_1176 : decode cL_law 1176 = .ok (.iconst 2, 1) := by decide +kernel
theorem dL_law_1177 : decode cL_law 1177 = .ok (.iadd, 1) := by decide +kernel
theorem dL_law_1178 : decode cL_law 1178 = .ok (.iaload, 1) := by decide +kernel
theorem dL_law_1179 : decode cL_law 1179 = .ok (.invokevirtual 135, 3) := by decide +kernel
theorem dL_law_1182 : decode cL_law 1182 = .ok (.aload_n 2, 1) := by decide +kernel
theorem dL_law_1183 : decode cL_law 1183 = .ok (.aload_n 0, 1) := by decide +kernel
theorem dL_law_1184 : decode cL_law 1184 = .ok (.iload_n 3, 1) := by decide +kernel
theorem dL_law_1185 : decode cL_law 1185 = .ok (.iconst 1, 1) := by decide +kernel
theorem dL_law_1186 : decode cL_law 1186 = .ok (.iadd, 1) := by decide +kernel
theorem dL_law_1187 : decode cL_law 1187 = .ok (.iaload, 1) := by decide +kernel
theorem dL_law_1188 : decode cL_law 1188 = .ok (.aload_n 0, 1) := by decide +kernel
theorem dL_law_1189 : decode cL_law 1189 = .ok (.iload_n 3, 1) := by decide +kernel
theorem dL_law_1190 : decode cL_law 1190 = .ok (.iconst 2, 1) := by decide +kernel
theorem dL_law_1191 : decode cL_law 1191 = .ok (.iadd, 1) := by decide +kernel
theorem dL_law_1192 : decode cL_law 1192 = .ok (.iaload, 1) := by decide +kernel
theorem dL_law_1193 : decode cL_law 1193 = .ok (.invokevirtual 138, 3) := by decide +kernel
theorem dL_law_1196 : decode cL_law 1196 = .ok (.if_icmp .eq 84, 3) := by decide +kernel
theorem dL_law_1199 : decode cL_law 1199 = .ok (.iconst 0, 1) := by decide +kernel
theorem dL_law_1200 : decode cL_law 1200 = .ok (.ireturn, 1) := by decide +kernel
theorem dL_law_1201 : decode cL_law 1201 = .ok (.aload_n 1, 1) := by decide +kernel
theorem dL_law_1202 : decode cL_law 1202 = .ok (.aload_n 0, 1) := by decide +kernel
theorem dL_law_1203 : decode cL_law 1203 = .ok (.iload_n 3, 1) := by decide +kernel
theorem dL_law_1204 : decode cL_law 1204 = .ok (.iconst 1, 1) := by decide +kernel
theorem dL_law_1205 : decode cL_law 1205 = .ok (.iadd, 1) := by decide +kernel
theorem dL_law_1206 : decode cL_law 1206 = .ok (.iaload, 1) := by decide +kernel
theorem dL_law_1207 : decode cL_law 1207 = .ok (.aload_n 0, 1) := by decide +kernel
theorem dL_law_1208 : decode cL_law 1208 = .ok (.iload_n 3, 1) := by decide +kernel
theorem dL_law_1209 : decode cL_law 1209 = .ok (.iconst 2, 1) := by decide +kernel
theorem dL_law_1210 : decode cL_law 1210 = .ok (.iadd, 1) := by decide +kernel
theorem dL_law_1211 : decode cL_law 1211 = .ok (.iaload, 1) := by decide +kernel
theorem dL_law_1212 : decode cL_law 1212 = .ok (.invokevirtual 139, 3) := by decide +kernel
theorem dL_law_1215 : decode cL_law 1215 = .ok (.aload_n 2, 1) := by decide +kernel
theorem dL_law_1216 : decode cL_law 1216 = .ok (.aload_n 0, 1) := by decide +kernel
theorem dL_law_1217 : decode cL_law 1217 = .ok (.iload_n 3, 1) := by decide +kernel
theorem dL_law_1218 : decode cL_law 1218 = .ok (.iconst 1, 1) := by decide +kernel
theorem dL_law_1219 : decode cL_law 1219 = .ok (.iadd, 1) := by decide +kernel
theorem dL_law_1220 : decode cL_law 1220 = .ok (.iaload, 1) := by decide +kernel
theorem dL_law_1221 : decode cL_law 1221 = .ok (.aload_n 0, 1) := by decide +kernel
theorem dL_law_1222 : decode cL_law 1222 = .ok (.iload_n 3, 1) := by decide +kernel
theorem dL_law_1223 : decode cL_law 1223 = .ok (.iconst 2, 1) := by decide +kernel
theorem dL_law_1224 : decode cL_law 1224 = .ok (.iadd, 1) := by decide +kernel
theorem dL_law_1225 : decode cL_law 1225 = .ok (.iaload, 1) := by decide +kernel
theorem dL_law_1226 : decode cL_law 1226 = .ok (.invokevirtual 142, 3) := by decide +kernel
theorem dL_law_1229 : decode cL_law 1229 = .ok (.if_icmp .eq 51, 3) := by decide +kernel
theorem dL_law_1232 : decode cL_law 1232 = .ok (.iconst 0, 1) := by decide +kernel
theorem dL_law_1233 : decode cL_law 1233 = .ok (.ireturn, 1) := by decide +kernel
theorem dL_law_1234 : decode cL_law 1234 = .ok (.aload_n 1, 1) := by decide +kernel
theorem dL_law_1235 : decode cL_law 1235 = .ok (.aload_n 0, 1) := by decide +kernel
theorem dL_law_1236 : decode cL_law 1236 = .ok (.iload_n 3, 1) := by decide +kernel
theorem dL_law_1237 : decode cL_law 1237 = .ok (.iconst 1, 1) := by decide +kernel
theorem dL_law_1238 : decode cL_law 1238 = .ok (.iadd, 1) := by decide +kernel
theorem dL_law_1239 : decode cL_law 1239 = .ok (.iaload, 1) := by decide +kernel
theorem dL_law_1240 : decode cL_law 1240 = .ok (.invokevirtual 143, 3) := by decide +kernel
theorem dL_law_1243 : decode cL_law 1243 = .ok (.aload_n 2, 1) := by decide +kernel
theorem dL_law_1244 : decode cL_law 1244 = .ok (.aload_n 0, 1) := by decide +kernel
theorem dL_law_1245 : decode cL_law 1245 = .ok (.iload_n 3, 1) := by decide +kernel
theorem dL_law_1246 : decode cL_law 1246 = .ok (.iconst 1, 1) := by decide +kernel
theorem dL_law_1247 : decode cL_law 1247 = .ok (.iadd, 1) := by decide +kernel
theorem dL_law_1248 : decode cL_law 1248 = .ok (.iaload, 1) := by decide +kernel
theorem dL_law_1249 : decode cL_law 1249 = .ok (.invokevirtual 146, 3) := by decide +kernel
theorem dL_law_1252 : decode cL_law 1252 = .ok (.if_icmp .eq 28, 3) := by decide +kernel
theorem dL_law_1255 : decode cL_law 1255 = .ok (.iconst 0, 1) := by decide +kernel
theorem dL_law_1256 : decode cL_law 1256 = .ok (.ireturn, 1) := by decide +kernel
theorem dL_law_1257 : decode cL_law 1257 = .ok (.aload_n 1, 1) := by decide +kernel
theorem dL_law_1258 : decode cL_law 1258 = .ok (.aload_n 0, 1) := by decide +kernel
theorem dL_law_1259 : decode cL_law 1259 = .ok (.iload_n 3, 1) := by decide +kernel
theorem dL_law_1260 : decode cL_law 1260 = .ok (.iconst 1, 1) := by decide +kernel
theorem dL_law_1261 : decode cL_law 1261 = .ok (.iadd, 1) := by decide +kernel
theorem dL_law_1262 : decode cL_law 1262 = .ok (.iaload, 1) := by decide +kernel
theorem dL_law_1263 : decode cL_law 1263 = .ok (.invokevirtual 147, 3) := by decide +kernel
theorem dL_law_1266 : decode cL_law 1266 = .ok (.aload_n 2, 1) := by decide +kernel
theorem dL_law_1267 : decode cL_law 1267 = .ok (.aload_n 0, 1) := by decide +kernel
theorem dL_law_1268 : decode cL_law 1268 = .ok (.iload_n 3, 1) := by decide +kernel
theorem dL_law_1269 : decode cL_law 1269 = .ok (.iconst 1, 1) := by decide +kernel
theorem dL_law_1270 : decode cL_law 1270 = .ok (.iadd, 1) := by decide +kernel
theorem dL_law_1271 : decode cL_law 1271 = .ok (.iaload, 1) := by decide +kernel
theorem dL_law_1272 : decode cL_law 1272 = .ok (.invokevirtual 150, 3) := by decide +kernel
theorem dL_law_1275 : decode cL_law 1275 = .ok (.if_icmp .eq 5, 3) := by decide +kernel
theorem dL_law_1278 : decode cL_law 1278 = .ok (.iconst 0, 1) := by decide +kernel
theorem dL_law_1279 : decode cL_law 1279 = .ok (.ireturn, 1) := by decide +kernel
theorem dL_law_1280 : decode cL_law 1280 = .ok (.iinc 3 6, 3) := by decide +kernel
theorem dL_law_1283 : decode cL_law 1283 = .ok (.goto (-1265), 3) := by decide +kernel
theorem dL_law_1286 : decode cL_law 1286 = .ok (.iconst 1, 1) := by decide +kernel
theorem dL_law_1287 : decode cL_law 1287 = .ok (.ireturn, 1) := by decide +kernel
