theorem dX10_init_0 : decode cX10_init 0 = .ok (.aload_n 0, 1) := by decide +kernel
theorem dX10_init_1 : decode cX10_init 1 = .ok (.invokespecial 3, 3) := by decide +kernel
theorem dX10_init_4 : decode cX10_init 4 = .ok (.aload_n 0, 1) := by decide +kernel
theorem dX10_init_5 : decode cX10_init 5 = .ok (.new 9, 3) := by decide +kernel
theorem dX10_init_8 : decode cX10_init 8 = .ok (.dup, 1) := by decide +kernel
theorem dX10_init_9 : decode cX10_init 9 = .ok (.invokespecial 11, 3) := by decide +kernel
theorem dX10_init_12 : decode cX10_init 12 = .ok (.putfield 12, 3) := by decide +kernel
theorem dX10_init_15 : decode cX10_init 15 = .ok (.aload_n 0, 1) := by decide +kernel
theorem dX10_init_16 : decode cX10_init 16 = .ok (.new 16, 3) := by decide +kernel
theorem dX10_init_19 : decode cX10_init 19 = .ok (.dup, 1) := by decide +kernel
theorem dX10_init_20 : decode cX10_init 20 = .ok (.aload_n 0, 1) := by decide +kernel
theorem dX10_init_21 : decode cX10_init 21 = .ok (.getfield 12, 3) := by decide +kernel
theorem dX10_init_24 : decode cX10_init 24 = .ok (.invokespecial 18, 3) := by decide +kernel
theorem dX10_init_27 : decode cX10_init 27 = .ok (.putfield 21, 3) := by decide +kernel
theorem dX10_init_30 : decode cX10_init 30 = .ok (.aload_n 0, 1) := by decide +kernel
theorem dX10_init_31 : decode cX10_init 31 = .ok (.new 16, 3) := by decide +kernel
theorem dX10_init_34 : decode cX10_init 34 = .ok (.dup, 1) := by decide +kernel
theorem dX10_init_35 : decode cX10_init 35 = .ok (.aload_n 0, 1) := by decide +kernel
theorem dX10_init_36 : decode cX10_init 36 = .ok (.getfield 12, 3) := by decide +kernel
theorem dX10_init_39 : decode cX10_init 39 = .ok (.invokespecial 18, 3) := by decide +kernel
theorem dX10_init_42 : decode cX10_init 42 = .ok (.putfield 25, 3) := by decide +kernel
theorem dX10_init_45 : decode cX10_init 45 = .ok (.aload_n 0, 1) := by decide +kernel
theorem dX10_init_46 : decode cX10_init 46 = .ok (.bipush 8, 2) := by decide +kernel
theorem dX10_init_48 : decode cX10_init 48 = .ok (.anewarray 9, 3) := by decide +kernel
theorem dX10_init_51 : decode cX10_init 51 = .ok (.putfield 28, 3) := by decide +kernel
theorem dX10_init_54 : decode cX10_init 54 = .ok (.aload_n 0, 1) := by decide +kernel
theorem dX10_init_55 : decode cX10_init 55 = .ok (.bipush 19, 2) := by decide +kernel
theorem dX10_init_57 : decode cX10_init 57 = .ok (.newarray .int, 2) := by decide +kernel
theorem dX10_init_59 : decode cX10_init 59 = .ok (.putfield 32, 3) := by decide +kernel
theorem dX10_init_62 : decode cX10_init 62 = .ok (.aload_n 0, 1) := by decide +kernel
theorem dX10_init_63 : decode cX10_init 63 = .ok (.bipush 120, 2) := by decide +kernel
theorem dX10_init_65 : decode cX10_init 65 = .ok (.newarray .int, 2) := by decide +kernel
theorem dX10_init_67 : decode cX10_init 67 = .ok (.putfield 36, 3) := by decide +kernel
theorem dX10_init_70 : decode cX10_init 70 = .ok (.aload_n 0, 1) := by decide +kernel
theorem dX10_init_71 : decode cX10_init 71 = .ok (.new 39, 3) := by decide +kernel
theorem dX10_init_74 : decode cX10_init 74 = .ok (.dup, 1) := by decide +kernel
theorem dX10_init_75 : decode cX10_init 75 = .ok (.aload_n 0, 1) := by decide +kernel
theorem dX10_init_76 : decode cX10_init 76 = .ok (.getfield 12, 3) := by decide +kernel
theorem dX10_init_79 : decode cX10_init 79 = .ok (.aload_n 0, 1) := by decide +kernel
theorem dX10_init_80 : decode cX10_init 80 = .ok (.getfield 25, 3) := by decide +kernel
theorem dX10_init_83 : decode cX10_init 83 = .ok (.invokespecial 41, 3) := by decide +kernel
theorem dX10_init_86 : decode cX10_init 86 = .ok (.putfield 44, 3) := by decide +kernel
theorem dX10_init_89 : decode cX10_init 89 = .ok (.aload_n 0, 1) := by decide +kernel
theorem dX10_init_90 : decode cX10_init 90 = .ok (.new 48, 3) := by decide +kernel
theorem dX10_init_93 : decode cX10_init 93 = .ok (.dup, 1) := by decide +kernel
theorem dX10_init_94 : decode cX10_init 94 = .ok (.aload_n 0, 1) := by decide +kernel
theorem dX10_init_95 : decode cX10_init 95 = .ok (.getfield 12, 3) := by decide +kernel
theorem dX10_init_98 : decode cX10_init 98 = .ok (.aload_n 0, 1) := by decide +kernel
theorem dX10_init_99 : decode cX10_init 99 = .ok (.getfield 21, 3) := by decide +kernel
theorem dX10_init_102 : decode cX10_init 102 = .ok (.invokespecial 50, 3) := by decide +kernel
theorem dX10_init_105 : decode cX10_init 105 = .ok (.putfield 51, 3) := by decide +kernel
theorem dX10_init_108 : decode cX10_init 108 = .ok (.aload_n 0, 1) := by decide +kernel
theorem dX10_init_109 : decode cX10_init 109 = .ok (.new 55, 3) := by decide +kernel
theorem dX10_init_112 : decode cX10_init 112 = .ok (.dup, 1) := by decide +kernel
theorem dX10_init_113 : decode cX10_init 113 = .ok (.aload_n 0, 1) := by decide +kernel
theorem dX10_init_114 : decode cX10_init 114 = .ok (.getfield 12, 3) := by decide +kernel
theorem dX10_init_117 : decode cX10_init 117 = .ok (.aload_n 0, 1) := by decide +kernel
theorem dX10_init_118 : decode cX10_init 118 = .ok (.getfield 21, 3) := by decide +kernel
theorem dX10_init_121 : decode cX10_init 121 = .ok (.invokespecial 57, 3) := by decide +kernel
theorem dX10_init_124 : decode cX10_init 124 = .ok (.putfield 58, 3) := by decide +kernel
theorem dX10_init_127 : decode cX10_init 127 = .ok (.aload_n 0, 1) := by decide +kernel
theorem dX10_init_128 : decode cX10_init 128 = .ok (.new 62, 3) := by decide +kernel
theorem dX10_init_131 : decode cX10_init 131 = .ok (.dup, 1) := by decide +kernel
theorem dX10_init_132 : decode cX10_init 132 = .ok (.aload_n 0, 1) := by decide +kernel
theorem dX10_init_133 : decode cX10_init 133 = .ok (.getfield 12, 3) := by decide +kernel
theorem dX10_init_136 : decode cX10_init 136 = .ok (.invokespecial 64, 3) := by decide +kernel
theorem dX10_init_139 : decode cX10_init 139 = .ok (.putfield 65, 3) := by decide +kernel
theorem dX10_init_142 : decode cX10_init 142 = .ok (.aload_n 0, 1) := by decide +kernel
theorem dX10_init_143 : decode cX10_init 143 = .ok (.new 69, 3) := by decide +kernel
theorem dX10_init_146 : decode cX10_init 146 = .ok (.dup, 1) := by decide +kernel
theorem dX10_init_147 : decode cX10_init 147 = .ok (.aload_n 0, 1) := by decide +kernel
theorem dX10_init_148 : decode cX10_init 148 = .ok (.getfield 12, 3) := by decide +kernel
theorem dX10_init_151 : decode cX10_init 151 = .ok (.invokespecial 71, 3) := by decide +kernel
theorem dX10_init_154 : decode cX10_init 154 = .ok (.putfield 72, 3) := by decide +kernel
theorem dX10_init_157 : decode cX10_init 157 = .ok (.aload_n 0, 1) := by decide +kernel
theorem dX10_init_158 : decode cX10_init 158 = .ok (.new 76, 3) := by decide +kernel
theorem dX10_init_161 : decode cX10_init 161 = .ok (.dup, 1) := by decide +kernel
theorem dX10_init_162 : decode cX10_init 162 = .ok (.aload_n 0, 1) := by decide +kernel
theorem dX10_init_163 : decode cX10_init 163 = .ok (.getfield 12, 3) := by decide +kernel
theorem dX10_init_166 : decode cX10_init 166 = .ok (.invokespecial 78, 3) := by decide +kernel
theorem dX10_init_169 : decode cX10_init 169 = .ok (.putfield 79, 3) := by decide +kernel
theorem dX10_init_172 : decode cX10_init 172 = .ok (.aload_n 0, 1) := by decide +kernel
theorem dX10_init_173 : decode cX10_init 173 = .ok (.new 83, 3) := by decide +kernel
theorem dX10_init_176 : decode cX10_init 176 = .ok (.dup, 1) := by decide +kernel
theorem dX10_init_177 : decode cX10_init 177 = .ok (.aload_n 0, 1) := by decide +kernel
theorem dX10_init_178 : decode cX10_init 178 = .ok (.getfield 12, 3) := by decide +kernel
theorem dX10_init_181 : decode cX10_init 181 = .ok (.invokespecial 85, 3) := by decide +kernel
theorem dX10_init_184 : decode cX10_init 184 = .ok (.putfield 86, 3) := by decide +kernel
theorem dX10_init_187 : decode cX10_init 187 = .ok (.aload_n 0, 1) := by decide +kernel
theorem dX10_init_188 : decode cX10_init 188 = .ok (.getfield 12, 3) := by decide +kernel
theorem dX10_init_191 : decode cX10_init 191 = .ok (.iconst 0, 1) := by decide +kernel
theorem dX10_init_192 : decode cX10_init 192 = .ok (.bipush 12, 2) := by decide +kernel
theorem dX10_init_194 : decode cX10_init 194 = .ok (.iconst 1, 1) := by decide +kernel
theorem dX10_init_195 : decode cX10_init 195 = .ok (.iconst 0, 1) := by decide +kernel
theorem dX10_init_196 : decode cX10_init 196 = .ok (.invokevirtual 90, 3) := by decide +kernel
theorem dX10_init_199 : decode cX10_init 199 = .ok (.istore_n 1, 1) := by decide +kernel
theorem dX10_init_200 : decode cX10_init 200 = .ok (.aload_n 0, 1) := by decide +kernel
theorem dX10_init_201 : decode cX10_init 201 = .ok (.getfield 12, 3) := by decide +kernel
theorem dX10_init_204 : decode cX10_init 204 = .ok (.iload_n 1, 1) := by decide +kernel
theorem dX10_init_205 : decode cX10_init 205 = .ok (.iconst 0, 1) := by decide +kernel
theorem dX10_init_206 : decode cX10_init 206 = .ok (.iconst 3, 1) := by decide +kernel
theorem dX10_init_207 : decode cX10_init 207 = .ok (.invokevirtual 94, 3) := by decide +kernel
theorem dX10_init_210 : decode cX10_init 210 = .ok (.pop, 1) := by decide +kernel
theorem dX10_init_211 : decode cX10_init 211 = .ok (.aload_n 0, 1) := by decide +kernel
theorem dX10_init_212 : decode cX10_init 212 = .ok (.getfield 12, 3) := by decide +kernel
theorem dX10_init_215 : decode cX10_init 215 = .ok (.iload_n 1, 1) := by decide +kernel
theorem dX10_init_216 : decode cX10_init 216 = .ok (.iconst 1, 1) := by decide +kernel
theorem dX10_init_217 : decode cX10_init 217 = .ok (.iconst 4, 1) := by decide +kernel
theorem dX10_init_218 : decode cX10_init 218 = .ok (.invokevirtual 94, 3) := by decide +kernel
theorem dX10_init_221 : decode cX10_init 221 = .ok (.pop, 1) := by decide +kernel
theorem dX10_init_222 : decode cX10_init 222 = .ok (.aload_n 0, 1) := by decide +kernel
theorem dX10_init_223 : decode cX10_init 223 = .ok (.getfield 12, 3) := by decide +kernel
theorem dX10_init_226 : decode cX10_init 226 = .ok (.iconst 0, 1) := by decide +kernel
theorem dX10_init_227 : decode cX10_init 227 = .ok (.bipush 9, 2) := by decide +kernel
theorem dX10_init_229 : decode cX10_init 229 = .ok (.iconst 1, 1) := by decide +kernel
theorem dX10_init_230 : decode cX10_init 230 = .ok (.iconst 1, 1) := by decide +kernel
theorem dX10_init_231 : decode cX10_init 231 = .ok (.invokevirtual 90, 3) := by decide +kernel
theorem dX10_init_234 : decode cX10_init 234 = .ok (.istore_n 2, 1) := by decide +kernel
theorem dX10_init_235 : decode cX10_init 235 = .ok (.aload_n 0, 1) := by decide +kernel
theorem dX10_init_236 : decode cX10_init 236 = .ok (.getfield 12, 3) := by decide +kernel
theorem dX10_init_239 : decode cX10_init 239 = .ok (.iload_n 2, 1) := by decide +kernel
theorem dX10_init_240 : decode cX10_init 240 = .ok (.iconst 1, 1) := by decide +kernel
theorem dX10_init_241 : decode cX10_init 241 = .ok (.iconst 2, 1) := by decide +kernel
theorem dX10_init_242 : decode cX10_init 242 = .ok (.invokevirtual 94, 3) := by decide +kernel
theorem dX10_init_245 : decode cX10_init 245 = .ok (.pop, 1) := by decide +kernel
theorem dX10_init_246 : decode cX10_init 246 = .ok (.aload_n 0, 1) := by decide +kernel
theorem dX10_init_247 : decode cX10_init 247 = .ok (.getfield 12, 3) := by decide +kernel
theorem dX10_init_250 : decode cX10_init 250 = .ok (.iload_n 2, 1) := by decide +kernel
theorem dX10_init_251 : decode cX10_init 251 = .ok (.iconst 0, 1) := by decide +kernel
theorem dX10_init_252 : decode cX10_init 252 = .ok (.iconst 5, 1) := by decide +kernel
theorem dX10_init_253 : decode cX10_init 253 = .ok (.invokevirtual 94, 3) := by decide +kernel
theorem dX10_init_256 : decode cX10_init 256 = .ok (.pop, 1) := by decide +kernel
theorem dX10_init_257 : decode cX10_init 257 = .ok (.aload_n 0, 1) := by decide +kernel
theorem dX10_init_258 : decode cX10_init 258 = .ok (.getfield 12, 3) := by decide +kernel
theorem dX10_init_261 : decode cX10_init 261 = .ok (.iconst 0, 1) := by decide +kernel
theorem dX10_init_262 : decode cX10_init 262 = .ok (.bipush 10, 2) := by decide +kernel
theorem dX10_init_264 : decode cX10_init 264 = .ok (.iconst 1, 1) := by decide +kernel
theorem dX10_init_265 : decode cX10_init 265 = .ok (.iconst 2, 1) := by decide +kernel
theorem dX10_init_266 : decode cX10_init 266 = .ok (.invokevirtual 90, 3) := by decide +kernel
theorem dX10_init_269 : decode cX10_init 269 = .ok (.istore_n 3, 1) := by decide +kernel
theorem dX10_init_270 : decode cX10_init 270 = .ok (.aload_n 0, 1) := by decide +kernel
theorem dX10_init_271 : decode cX10_init 271 = .ok (.getfield 12, 3) := by decide +kernel
theorem dX10_init_274 : decode cX10_init 274 = .ok (.iload_n 3, 1) := by decide +kernel
theorem dX10_init_275 : decode cX10_init 275 = .ok (.iconst 0, 1) := by decide +kernel
theorem dX10_init_276 : decode cX10_init 276 = .ok (.iconst 4, 1) := by decide +kernel
theorem dX10_init_277 : decode cX10_init 277 = .ok (.invokevirtual 94, 3) := by decide +kernel
theorem dX10_init_280 : decode cX10_init 280 = .ok (.pop, 1) := by decide +kernel
theorem dX10_init_281 : decode cX10_init 281 = .ok (.aload_n 0, 1) := by decide +kernel
theorem dX10_init_282 : decode cX10_init 282 = .ok (.getfield 12, 3) := by decide +kernel
theorem dX10_init_285 : decode cX10_init 285 = .ok (.iload_n 3, 1) := by decide +kernel
theorem dX10_init_286 : decode cX10_init 286 = .ok (.iconst 2, 1) := by decide +kernel
theorem dX10_init_287 : decode cX10_init 287 = .ok (.iconst 1, 1) := by decide +kernel
theorem dX10_init_288 : decode cX10_init 288 = .ok (.invokevirtual 94, 3) := by decide +kernel
theorem dX10_init_291 : decode cX10_init 291 = .ok (.pop, 1) := by decide +kernel
theorem dX10_init_292 : decode cX10_init 292 = .ok (.return_, 1) := by decide +kernel
theorem dX10_close_0 : decode cX10_close 0 = .ok (.iload_n 1, 1) := by decide +kernel
theorem dX10_close_1 : decode cX10_close 1 = .ok (.invokestatic 98, 3) := by decide +kernel
theorem dX10_close_4 : decode cX10_close 4 = .ok (.iload_n 2, 1) := by decide +kernel
theorem dX10_close_5 : decode cX10_close 5 = .ok (.iconst 0, 1) := by decide +kernel
theorem dX10_close_6 : decode cX10_close 6 = .ok (.sipush 2000, 3) := by decide +kernel
theorem dX10_close_9 : decode cX10_close 9 = .ok (.invokestatic 102, 3) := by decide +kernel
theorem dX10_close_12 : decode cX10_close 12 = .ok (.iload_n 3, 1) := by decide +kernel
theorem dX10_close_13 : decode cX10_close 13 = .ok (.iload_n 2, 1) := by decide +kernel
theorem dX10_close_14 : decode cX10_close 14 = .ok (.iconst 1, 1) := by decide +kernel
theorem dX10_close_15 : decode cX10_close 15 = .ok (.iadd, 1) := by decide +kernel
theorem dX10_close_16 : decode cX10_close 16 = .ok (.sipush 2000, 3) := by decide +kernel
theorem dX10_close_19 : decode cX10_close 19 = .ok (.invokestatic 102, 3) := by decide +kernel
theorem dX10_close_22 : decode cX10_close 22 = .ok (.aload_n 0, 1) := by decide +kernel
theorem dX10_close_23 : decode cX10_close 23 = .ok (.getfield 12, 3) := by decide +kernel
theorem dX10_close_26 : decode cX10_close 26 = .ok (.getfield 106, 3) := by decide +kernel
theorem dX10_close_29 : decode cX10_close 29 = .ok (.iload_n 1, 1) := by decide +kernel
theorem dX10_close_30 : decode cX10_close 30 = .ok (.iaload, 1) := by decide +kernel
theorem dX10_close_31 : decode cX10_close 31 = .ok (.iconst 4, 1) := by decide +kernel
theorem dX10_close_32 : decode cX10_close 32 = .ok (.if_icmp .lt 13, 3) := by decide +kernel
theorem dX10_close_35 : decode cX10_close 35 = .ok (.new 109, 3) := by decide +kernel
theorem dX10_close_38 : decode cX10_close 38 = .ok (.dup, 1) := by decide +kernel
theorem dX10_close_39 : decode cX10_close 39 = .ok (.ldc 111, 2) := by decide +kernel
theorem dX10_close_41 : decode cX10_close 41 = .ok (.invokespecial 113, 3) := by decide +kernel
theorem dX10_close_44 : decode cX10_close 44 = .ok (.athrow, 1) := by decide +kernel
theorem dX10_close_45 : decode cX10_close 45 = .ok (.aload_n 0, 1) := by decide +kernel
theorem dX10_close_46 : decode cX10_close 46 = .ok (.invokevirtual 116, 3) := by decide +kernel
theorem dX10_close_49 : decode cX10_close 49 = .ok (.aload_n 0, 1) := by decide +kernel
theorem dX10_close_50 : decode cX10_close 50 = .ok (.getfield 12, 3) := by decide +kernel
theorem dX10_close_53 : decode cX10_close 53 = .ok (.iload_n 1, 1) := by decide +kernel
theorem dX10_close_54 : decode cX10_close 54 = .ok (.iload_n 2, 1) := by decide +kernel
theorem dX10_close_55 : decode cX10_close 55 = .ok (.iload_n 3, 1) := by decide +kernel
theorem dX10_close_56 : decode cX10_close 56 = .ok (.invokevirtual 119, 3) := by decide +kernel
theorem dX10_close_59 : decode cX10_close 59 = .ok (.aload_n 0, 1) := by decide +kernel
theorem dX10_close_60 : decode cX10_close 60 = .ok (.getfield 21, 3) := by decide +kernel
theorem dX10_close_63 : decode cX10_close 63 = .ok (.invokevirtual 122, 3) := by decide +kernel
theorem dX10_close_66 : decode cX10_close 66 = .ok (.aload_n 0, 1) := by decide +kernel
theorem dX10_close_67 : decode cX10_close 67 = .ok (.getfield 12, 3) := by decide +kernel
theorem dX10_close_70 : decode cX10_close 70 = .ok (.getfield 106, 3) := by decide +kernel
theorem dX10_close_73 : decode cX10_close 73 = .ok (.iload_n 1, 1) := by decide +kernel
theorem dX10_close_74 : decode cX10_close 74 = .ok (.iaload, 1) := by decide +kernel
theorem dX10_close_75 : decode cX10_close 75 = .ok (.ireturn, 1) := by decide +kernel
theorem dX10_setTool_0 : decode cX10_setTool 0 = .ok (.iload_n 1, 1) := by decide +kernel
theorem dX10_setTool_1 : decode cX10_setTool 1 = .ok (.invokestatic 98, 3) := by decide +kernel
theorem dX10_setTool_4 : decode cX10_setTool 4 = .ok (.iload_n 2, 1) := by decide +kernel
theorem dX10_setTool_5 : decode cX10_setTool 5 = .ok (.ifCond .eq 12, 3) := by decide +kernel
theorem dX10_setTool_8 : decode cX10_setTool 8 = .ok (.iload_n 2, 1) := by decide +kernel
theorem dX10_setTool_9 : decode cX10_setTool 9 = .ok (.bipush 50, 2) := by decide +kernel
theorem dX10_setTool_11 : decode cX10_setTool 11 = .ok (.sipush 300, 3) := by decide +kernel
theorem dX10_setTool_14 : decode cX10_setTool 14 = .ok (.invokestatic 102, 3) := by decide +kernel
theorem dX10_setTool_17 : decode cX10_setTool 17 = .ok (.iload_n 3, 1) := by decide +kernel
theorem dX10_setTool_18 : decode cX10_setTool 18 = .ok (.iconst 0, 1) := by decide +kernel
theorem dX10_setTool_19 : decode cX10_setTool 19 = .ok (.bipush 20, 2) := by decide +kernel
theorem dX10_setTool_21 : decode cX10_setTool 21 = .ok (.invokestatic 102, 3) := by decide +kernel
theorem dX10_setTool_24 : decode cX10_setTool 24 = .ok (.aload_n 0, 1) := by decide +kernel
theorem dX10_setTool_25 : decode cX10_setTool 25 = .ok (.invokevirtual 116, 3) := by decide +kernel
theorem dX10_setTool_28 : decode cX10_setTool 28 = .ok (.aload_n 0, 1) := by decide +kernel
theorem dX10_setTool_29 : decode cX10_setTool 29 = .ok (.getfield 12, 3) := by decide +kernel
theorem dX10_setTool_32 : decode cX10_setTool 32 = .ok (.getfield 125, 3) := by decide +kernel
theorem dX10_setTool_35 : decode cX10_setTool 35 = .ok (.iload_n 1, 1) := by decide +kernel
theorem dX10_setTool_36 : decode cX10_setTool 36 = .ok (.iaload, 1) := by decide +kernel
theorem dX10_setTool_37 : decode cX10_setTool 37 = .ok (.istore 4, 2) := by decide +kernel
theorem dX10_setTool_39 : decode cX10_setTool 39 = .ok (.aload_n 0, 1) := by decide +kernel
theorem dX10_setTool_40 : decode cX10_setTool 40 = .ok (.getfield 12, 3) := by decide +kernel
theorem dX10_setTool_43 : decode cX10_setTool 43 = .ok (.getfield 125, 3) := by decide +kernel
theorem dX10_setTool_46 : decode cX10_setTool 46 = .ok (.iload_n 1, 1) := by decide +kernel
theorem dX10_setTool_47 : decode cX10_setTool 47 = .ok (.iload_n 2, 1) := by decide +kernel
theorem dX10_setTool_48 : decode cX10_setTool 48 = .ok (.iastore, 1) := by decide +kernel
theorem dX10_setTool_49 : decode cX10_setTool 49 = .ok (.aload_n 0, 1) := by decide +kernel
theorem dX10_setTool_50 : decode cX10_setTool 50 = .ok (.getfield 12, 3) := by decide +kernel
theorem dX10_setTool_53 : decode cX10_setTool 53 = .ok (.getfield 128, 3) := by decide +kernel
theorem dX10_setTool_56 : decode cX10_setTool 56 = .ok (.iload_n 1, 1) := by decide +kernel
theorem dX10_setTool_57 : decode cX10_setTool 57 = .ok (.iload_n 3, 1) := by decide +kernel
theorem dX10_setTool_58 : decode cX10_setTool 58 = .ok (.iastore, 1) := by decide +kernel
theorem dX10_setTool_59 : decode cX10_setTool 59 = .ok (.aload_n 0, 1) := by decide +kernel
theorem dX10_setTool_60 : decode cX10_setTool 60 = .ok (.getfield 21, 3) := by decide +kernel
theorem dX10_setTool_63 : decode cX10_setTool 63 = .ok (.invokevirtual 122, 3) := by decide +kernel
theorem dX10_setTool_66 : decode cX10_setTool 66 = .ok (.iload 4, 2) := by decide +kernel
theorem dX10_setTool_68 : decode cX10_setTool 68 = .ok (.ireturn, 1) := by decide +kernel
theorem dX10_setSetup_0 : decode cX10_setSetup 0 = .ok (.iload_n 1, 1) := by decide +kernel
theorem dX10_setSetup_1 : decode cX10_setSetup 1 = .ok (.invokestatic 131, 3) := by decide +kernel
theorem dX10_setSetup_4 : decode cX10_setSetup 4 = .ok (.iload_n 2, 1) := by decide +kernel
theorem dX10_setSetup_5 : decode cX10_setSetup 5 = .ok (.invokestatic 131, 3) := by decide +kernel
theorem dX10_setSetup_8 : decode cX10_setSetup 8 = .ok (.iload_n 3, 1) := by decide +kernel
theorem dX10_setSetup_9 : decode cX10_setSetup 9 = .ok (.iconst 0, 1) := by decide +kernel
theorem dX10_setSetup_10 : decode cX10_setSetup 10 = .ok (.bipush 20, 2) := by decide +kernel
theorem dX10_setSetup_12 : decode cX10_setSetup 12 = .ok (.invokestatic 102, 3) := by decide +kernel
theorem dX10_setSetup_15 : decode cX10_setSetup 15 = .ok (.aload_n 0, 1) := by decide +kernel
theorem dX10_setSetup_16 : decode cX10_setSetup 16 = .ok (.invokevirtual 116, 3) := by decide +kernel
theorem dX10_setSetup_19 : decode cX10_setSetup 19 = .ok (.aload_n 0, 1) := by decide +kernel
theorem dX10_setSetup_20 : decode cX10_setSetup 20 = .ok (.getfield 12, 3) := by decide +kernel
theorem dX10_setSetup_23 : decode cX10_setSetup 23 = .ok (.getfield 134, 3) := by decide +kernel
theorem dX10_setSetup_26 : decode cX10_setSetup 26 = .ok (.iload_n 1, 1) := by decide +kernel
theorem dX10_setSetup_27 : decode cX10_setSetup 27 = .ok (.iconst 4, 1) := by decide +kernel
theorem dX10_setSetup_28 : decode cX10_setSetup 28 = .ok (.imul, 1) := by decide +kernel
theorem dX10_setSetup_29 : decode cX10_setSetup 29 = .ok (.iload_n 2, 1) := by decide +kernel
theorem dX10_setSetup_30 : decode cX10_setSetup 30 = .ok (.iadd, 1) := by decide +kernel
theorem dX10_setSetup_31 : decode cX10_setSetup 31 = .ok (.iaload, 1) := by decide +kernel
theorem dX10_setSetup_32 : decode cX10_setSetup 32 = .ok (.istore 4, 2) := by decide +kernel
theorem dX10_setSetup_34 : decode cX10_setSetup 34 = .ok (.aload_n 0, 1) := by decide +kernel
theorem dX10_setSetup_35 : decode cX10_setSetup 35 = .ok (.getfield 12, 3) := by decide +kernel
theorem dX10_setSetup_38 : decode cX10_setSetup 38 = .ok (.getfield 134, 3) := by decide +kernel
theorem dX10_setSetup_41 : decode cX10_setSetup 41 = .ok (.iload_n 1, 1) := by decide +kernel
theorem dX10_setSetup_42 : decode cX10_setSetup 42 = .ok (.iconst 4, 1) := by decide +kernel
theorem dX10_setSetup_43 : decode cX10_setSetup 43 = .ok (.imul, 1) := by decide +kernel
theorem dX10_setSetup_44 : decode cX10_setSetup 44 = .ok (.iload_n 2, 1) := by decide +kernel
theorem dX10_setSetup_45 : decode cX10_setSetup 45 = .ok (.iadd, 1) := by decide +kernel
theorem dX10_setSetup_46 : decode cX10_setSetup 46 = .ok (.iload_n 3, 1) := by decide +kernel
theorem dX10_setSetup_47 : decode cX10_setSetup 47 = .ok (.iastore, 1) := by decide +kernel
theorem dX10_setSetup_48 : decode cX10_setSetup 48 = .ok (.aload_n 0, 1) := by decide +kernel
theorem dX10_setSetup_49 : decode cX10_setSetup 49 = .ok (.invokevirtual 137, 3) := by decide +kernel
theorem dX10_setSetup_52 : decode cX10_setSetup 52 = .ok (.iload 4, 2) := by decide +kernel
theorem dX10_setSetup_54 : decode cX10_setSetup 54 = .ok (.ireturn, 1) := by decide +kernel
theorem dX10_addJob_0 : decode cX10_addJob 0 = .ok (.iload 4, 2) := by decide +kernel
theorem dX10_addJob_2 : decode cX10_addJob 2 = .ok (.invokestatic 131, 3) := by decide +kernel
theorem dX10_addJob_5 : decode cX10_addJob 5 = .ok (.iload_n 1, 1) := by decide +kernel
theorem dX10_addJob_6 : decode cX10_addJob 6 = .ok (.iconst 0, 1) := by decide +kernel
theorem dX10_addJob_7 : decode cX10_addJob 7 = .ok (.sipush 200, 3) := by decide +kernel
theorem dX10_addJob_10 : decode cX10_addJob 10 = .ok (.invokestatic 102, 3) := by decide +kernel
theorem dX10_addJob_13 : decode cX10_addJob 13 = .ok (.iload_n 2, 1) := by decide +kernel
theorem dX10_addJob_14 : decode cX10_addJob 14 = .ok (.iconst 0, 1) := by decide +kernel
theorem dX10_addJob_15 : decode cX10_addJob 15 = .ok (.sipush 1000, 3) := by decide +kernel
theorem dX10_addJob_18 : decode cX10_addJob 18 = .ok (.invokestatic 102, 3) := by decide +kernel
theorem dX10_addJob_21 : decode cX10_addJob 21 = .ok (.iload_n 3, 1) := by decide +kernel
theorem dX10_addJob_22 : decode cX10_addJob 22 = .ok (.iconst 1, 1) := by decide +kernel
theorem dX10_addJob_23 : decode cX10_addJob 23 = .ok (.bipush 9, 2) := by decide +kernel
theorem dX10_addJob_25 : decode cX10_addJob 25 = .ok (.invokestatic 102, 3) := by decide +kernel
theorem dX10_addJob_28 : decode cX10_addJob 28 = .ok (.aload_n 0, 1) := by decide +kernel
theorem dX10_addJob_29 : decode cX10_addJob 29 = .ok (.invokevirtual 140, 3) := by decide +kernel
theorem dX10_addJob_32 : decode cX10_addJob 32 = .ok (.aload_n 0, 1) := by decide +kernel
theorem dX10_addJob_33 : decode cX10_addJob 33 = .ok (.invokevirtual 116, 3) := by decide +kernel
theorem dX10_addJob_36 : decode cX10_addJob 36 = .ok (.aload_n 0, 1) := by decide +kernel
theorem dX10_addJob_37 : decode cX10_addJob 37 = .ok (.getfield 12, 3) := by decide +kernel
theorem dX10_addJob_40 : decode cX10_addJob 40 = .ok (.iload_n 1, 1) := by decide +kernel
theorem dX10_addJob_41 : decode cX10_addJob 41 = .ok (.iload_n 2, 1) := by decide +kernel
theorem dX10_addJob_42 : decode cX10_addJob 42 = .ok (.iload_n 3, 1) := by decide +kernel
theorem dX10_addJob_43 : decode cX10_addJob 43 = .ok (.iload 4, 2) := by decide +kernel
theorem dX10_addJob_45 : decode cX10_addJob 45 = .ok (.invokevirtual 90, 3) := by decide +kernel
theorem dX10_addJob_48 : decode cX10_addJob 48 = .ok (.istore 5, 2) := by decide +kernel
theorem dX10_addJob_50 : decode cX10_addJob 50 = .ok (.aload_n 0, 1) := by decide +kernel
theorem dX10_addJob_51 : decode cX10_addJob 51 = .ok (.invokevirtual 137, 3) := by decide +kernel
theorem dX10_addJob_54 : decode cX10_addJob 54 = .ok (.iload 5, 2) := by decide +kernel
theorem dX10_addJob_56 : decode cX10_addJob 56 = .ok (.ireturn, 1) := by decide +kernel
theorem dX10_addStep_0 : decode cX10_addStep 0 = .ok (.aload_n 0, 1) := by decide +kernel
theorem dX10_addStep_1 : decode cX10_addStep 1 = .ok (.iload_n 1, 1) := by decide +kernel
theorem dX10_addStep_2 : decode cX10_addStep 2 = .ok (.invokevirtual 143, 3) := by decide +kernel
theorem dX10_addStep_5 : decode cX10_addStep 5 = .ok (.iload_n 2, 1) := by decide +kernel
theorem dX10_addStep_6 : decode cX10_addStep 6 = .ok (.invokestatic 98, 3) := by decide +kernel
theorem dX10_addStep_9 : decode cX10_addStep 9 = .ok (.iload_n 3, 1) := by decide +kernel
theorem dX10_addStep_10 : decode cX10_addStep 10 = .ok (.iconst 1, 1) := by decide +kernel
theorem dX10_addStep_11 : decode cX10_addStep 11 = .ok (.bipush 50, 2) := by decide +kernel
theorem dX10_addStep_13 : decode cX10_addStep 13 = .ok (.invokestatic 102, 3) := by decide +kernel
theorem dX10_addStep_16 : decode cX10_addStep 16 = .ok (.aload_n 0, 1) := by decide +kernel
theorem dX10_addStep_17 : decode cX10_addStep 17 = .ok (.getfield 12, 3) := by decide +kernel
theorem dX10_addStep_20 : decode cX10_addStep 20 = .ok (.getfield 146, 3) := by decide +kernel
theorem dX10_addStep_23 : decode cX10_addStep 23 = .ok (.iload_n 1, 1) := by decide +kernel
theorem dX10_addStep_24 : decode cX10_addStep 24 = .ok (.iaload, 1) := by decide +kernel
theorem dX10_addStep_25 : decode cX10_addStep 25 = .ok (.iconst 5, 1) := by decide +kernel
theorem dX10_addStep_26 : decode cX10_addStep 26 = .ok (.if_icmp .lt 13, 3) := by decide +kernel
theorem dX10_addStep_29 : decode cX10_addStep 29 = .ok (.new 109, 3) := by decide +kernel
theorem dX10_addStep_32 : decode cX10_addStep 32 = .ok (.dup, 1) := by decide +kernel
theorem dX10_addStep_33 : decode cX10_addStep 33 = .ok (.ldc 149, 2) := by decide +kernel
theorem dX10_addStep_35 : decode cX10_addStep 35 = .ok (.invokespecial 113, 3) := by decide +kernel
theorem dX10_addStep_38 : decode cX10_addStep 38 = .ok (.athrow, 1) := by decide +kernel
theorem dX10_addStep_39 : decode cX10_addStep 39 = .ok (.aload_n 0, 1) := by decide +kernel
theorem dX10_addStep_40 : decode cX10_addStep 40 = .ok (.invokevirtual 116, 3) := by decide +kernel
theorem dX10_addStep_43 : decode cX10_addStep 43 = .ok (.aload_n 0, 1) := by decide +kernel
theorem dX10_addStep_44 : decode cX10_addStep 44 = .ok (.getfield 12, 3) := by decide +kernel
theorem dX10_addStep_47 : decode cX10_addStep 47 = .ok (.iload_n 1, 1) := by decide +kernel
theorem dX10_addStep_48 : decode cX10_addStep 48 = .ok (.iload_n 2, 1) := by decide +kernel
theorem dX10_addStep_49 : decode cX10_addStep 49 = .ok (.iload_n 3, 1) := by decide +kernel
theorem dX10_addStep_50 : decode cX10_addStep 50 = .ok (.invokevirtual 94, 3) := by decide +kernel
theorem dX10_addStep_53 : decode cX10_addStep 53 = .ok (.istore 4, 2) := by decide +kernel
theorem dX10_addStep_55 : decode cX10_addStep 55 = .ok (.aload_n 0, 1) := by decide +kernel
theorem dX10_addStep_56 : decode cX10_addStep 56 = .ok (.invokevirtual 137, 3) := by decide +kernel
theorem dX10_addStep_59 : decode cX10_addStep 59 = .ok (.iload 4, 2) := by decide +kernel
theorem dX10_addStep_61 : decode cX10_addStep 61 = .ok (.ireturn, 1) := by decide +kernel
theorem dX10_cut_0 : decode cX10_cut 0 = .ok (.aload_n 0, 1) := by decide +kernel
theorem dX10_cut_1 : decode cX10_cut 1 = .ok (.iload_n 1, 1) := by decide +kernel
theorem dX10_cut_2 : decode cX10_cut 2 = .ok (.invokevirtual 143, 3) := by decide +kernel
theorem dX10_cut_5 : decode cX10_cut 5 = .ok (.aload_n 0, 1) := by decide +kernel
theorem dX10_cut_6 : decode cX10_cut 6 = .ok (.invokevirtual 140, 3) := by decide +kernel
theorem dX10_cut_9 : decode cX10_cut 9 = .ok (.aload_n 0, 1) := by decide +kernel
theorem dX10_cut_10 : decode cX10_cut 10 = .ok (.getfield 12, 3) := by decide +kernel
theorem dX10_cut_13 : decode cX10_cut 13 = .ok (.iload_n 1, 1) := by decide +kernel
theorem dX10_cut_14 : decode cX10_cut 14 = .ok (.invokevirtual 151, 3) := by decide +kernel
theorem dX10_cut_17 : decode cX10_cut 17 = .ok (.ifCond .ne 13, 3) := by decide +kernel
theorem dX10_cut_20 : decode cX10_cut 20 = .ok (.new 109, 3) := by decide +kernel
theorem dX10_cut_23 : decode cX10_cut 23 = .ok (.dup, 1) := by decide +kernel
theorem dX10_cut_24 : decode cX10_cut 24 = .ok (.ldc 155, 2) := by decide +kernel
theorem dX10_cut_26 : decode cX10_cut 26 = .ok (.invokespecial 113, 3) := by decide +kernel
theorem dX10_cut_29 : decode cX10_cut 29 = .ok (.athrow, 1) := by decide +kernel
theorem dX10_cut_30 : decode cX10_cut 30 = .ok (.aload_n 0, 1) := by decide +kernel
theorem dX10_cut_31 : decode cX10_cut 31 = .ok (.invokevirtual 116, 3) := by decide +kernel
theorem dX10_cut_34 : decode cX10_cut 34 = .ok (.aload_n 0, 1) := by decide +kernel
theorem dX10_cut_35 : decode cX10_cut 35 = .ok (.getfield 12, 3) := by decide +kernel
theorem dX10_cut_38 : decode cX10_cut 38 = .ok (.iload_n 1, 1) := by decide +kernel
theorem dX10_cut_39 : decode cX10_cut 39 = .ok (.invokevirtual 157, 3) := by decide +kernel
theorem dX10_cut_42 : decode cX10_cut 42 = .ok (.istore_n 2, 1) := by decide +kernel
theorem dX10_cut_43 : decode cX10_cut 43 = .ok (.aload_n 0, 1) := by decide +kernel
theorem dX10_cut_44 : decode cX10_cut 44 = .ok (.invokevirtual 137, 3) := by decide +kernel
theorem dX10_cut_47 : decode cX10_cut 47 = .ok (.iload_n 2, 1) := by decide +kernel
theorem dX10_cut_48 : decode cX10_cut 48 = .ok (.ireturn, 1) := by decide +kernel
theorem dX10_plan_0 : decode cX10_plan 0 = .ok (.iload_n 1, 1) := by decide +kernel
theorem dX10_plan_1 : decode cX10_plan 1 = .ok (.invokestatic 161, 3) := by decide +kernel
theorem dX10_plan_4 : decode cX10_plan 4 = .ok (.aload_n 0, 1) := by decide +kernel
theorem dX10_plan_5 : decode cX10_plan 5 = .ok (.getfield 25, 3) := by decide +kernel
theorem dX10_plan_8 : decode cX10_plan 8 = .ok (.invokevirtual 164, 3) := by decide +kernel
theorem dX10_plan_11 : decode cX10_plan 11 = .ok (.aload_n 0, 1) := by decide +kernel
theorem dX10_plan_12 : decode cX10_plan 12 = .ok (.getfield 25, 3) := by decide +kernel
theorem dX10_plan_15 : decode cX10_plan 15 = .ok (.iload_n 1, 1) := by decide +kernel
theorem dX10_plan_16 : decode cX10_plan 16 = .ok (.invokevirtual 167, 3) := by decide +kernel
theorem dX10_plan_19 : decode cX10_plan 19 = .ok (.aload_n 0, 1) := by decide +kernel
theorem dX10_plan_20 : decode cX10_plan 20 = .ok (.invokevirtual 170, 3) := by decide +kernel
theorem dX10_plan_23 : decode cX10_plan 23 = .ok (.ireturn, 1) := by decide +kernel
theorem dX10_tell_0 : decode cX10_tell 0 = .ok (.aload_n 0, 1) := by decide +kernel
theorem dX10_tell_1 : decode cX10_tell 1 = .ok (.lload_n 1, 1) := by decide +kernel
theorem dX10_tell_2 : decode cX10_tell 2 = .ok (.invokevirtual 174, 3) := by decide +kernel
theorem dX10_tell_5 : decode cX10_tell 5 = .ok (.ifCond .ne 13, 3) := by decide +kernel
theorem dX10_tell_8 : decode cX10_tell 8 = .ok (.new 178, 3) := by decide +kernel
theorem dX10_tell_11 : decode cX10_tell 11 = .ok (.dup, 1) := by decide +kernel
theorem dX10_tell_12 : decode cX10_tell 12 = .ok (.ldc 180, 2) := by decide +kernel
theorem dX10_tell_14 : decode cX10_tell 14 = .ok (.invokespecial 182, 3) := by decide +kernel
theorem dX10_tell_17 : decode cX10_tell 17 = .ok (.athrow, 1) := by decide +kernel
theorem dX10_tell_18 : decode cX10_tell 18 = .ok (.aload_n 0, 1) := by decide +kernel
theorem dX10_tell_19 : decode cX10_tell 19 = .ok (.invokevirtual 170, 3) := by decide +kernel
theorem dX10_tell_22 : decode cX10_tell 22 = .ok (.ireturn, 1) := by decide +kernel
theorem dX10_best_0 : decode cX10_best 0 = .ok (.iload_n 1, 1) := by decide +kernel
theorem dX10_best_1 : decode cX10_best 1 = .ok (.invokestatic 183, 3) := by decide +kernel
theorem dX10_best_4 : decode cX10_best 4 = .ok (.aload_n 0, 1) := by decide +kernel
theorem dX10_best_5 : decode cX10_best 5 = .ok (.getfield 12, 3) := by decide +kernel
theorem dX10_best_8 : decode cX10_best 8 = .ok (.invokevirtual 186, 3) := by decide +kernel
theorem dX10_best_11 : decode cX10_best 11 = .ok (.bipush 8, 2) := by decide +kernel
theorem dX10_best_13 : decode cX10_best 13 = .ok (.if_icmp .le 13, 3) := by decide +kernel
theorem dX10_best_16 : decode cX10_best 16 = .ok (.new 109, 3) := by decide +kernel
theorem dX10_best_19 : decode cX10_best 19 = .ok (.dup, 1) := by decide +kernel
theorem dX10_best_20 : decode cX10_best 20 = .ok (.ldc 189, 2) := by decide +kernel
theorem dX10_best_22 : decode cX10_best 22 = .ok (.invokespecial 113, 3) := by decide +kernel
theorem dX10_best_25 : decode cX10_best 25 = .ok (.athrow, 1) := by decide +kernel
theorem dX10_best_26 : decode cX10_best 26 = .ok (.aload_n 0, 1) := by decide +kernel
theorem dX10_best_27 : decode cX10_best 27 = .ok (.getfield 44, 3) := by decide +kernel
theorem dX10_best_30 : decode cX10_best 30 = .ok (.iload_n 1, 1) := by decide +kernel
theorem dX10_best_31 : decode cX10_best 31 = .ok (.invokevirtual 191, 3) := by decide +kernel
theorem dX10_best_34 : decode cX10_best 34 = .ok (.aload_n 0, 1) := by decide +kernel
theorem dX10_best_35 : decode cX10_best 35 = .ok (.invokevirtual 170, 3) := by decide +kernel
theorem dX10_best_38 : decode cX10_best 38 = .ok (.pop, 1) := by decide +kernel
theorem dX10_best_39 : decode cX10_best 39 = .ok (.aload_n 0, 1) := by decide +kernel
theorem dX10_best_40 : decode cX10_best 40 = .ok (.getfield 21, 3) := by decide +kernel
theorem dX10_best_43 : decode cX10_best 43 = .ok (.iload_n 1, 1) := by decide +kernel
theorem dX10_best_44 : decode cX10_best 44 = .ok (.invokevirtual 194, 3) := by decide +kernel
theorem dX10_best_47 : decode cX10_best 47 = .ok (.ireturn, 1) := by decide +kernel
theorem dX10_swap_0 : decode cX10_swap 0 = .ok (.iload_n 1, 1) := by decide +kernel
theorem dX10_swap_1 : decode cX10_swap 1 = .ok (.invokestatic 98, 3) := by decide +kernel
theorem dX10_swap_4 : decode cX10_swap 4 = .ok (.iload_n 2, 1) := by decide +kernel
theorem dX10_swap_5 : decode cX10_swap 5 = .ok (.ifCond .lt 18, 3) := by decide +kernel
theorem dX10_swap_8 : decode cX10_swap 8 = .ok (.iload_n 2, 1) := by decide +kernel
theorem dX10_swap_9 : decode cX10_swap 9 = .ok (.aload_n 0, 1) := by decide +kernel
theorem dX10_swap_10 : decode cX10_swap 10 = .ok (.getfield 21, 3) := by decide +kernel
theorem dX10_swap_13 : decode cX10_swap 13 = .ok (.getfield 197, 3) := by decide +kernel
theorem dX10_swap_16 : decode cX10_swap 16 = .ok (.iload_n 1, 1) := by decide +kernel
theorem dX10_swap_17 : decode cX10_swap 17 = .ok (.iaload, 1) := by decide +kernel
theorem dX10_swap_18 : decode cX10_swap 18 = .ok (.iconst 1, 1) := by decide +kernel
theorem dX10_swap_19 : decode cX10_swap 19 = .ok (.isub, 1) := by decide +kernel
theorem dX10_swap_20 : decode cX10_swap 20 = .ok (.if_icmp .lt 13, 3) := by decide +kernel
theorem dX10_swap_23 : decode cX10_swap 23 = .ok (.new 200, 3) := by decide +kernel
theorem dX10_swap_26 : decode cX10_swap 26 = .ok (.dup, 1) := by decide +kernel
theorem dX10_swap_27 : decode cX10_swap 27 = .ok (.ldc 202, 2) := by decide +kernel
theorem dX10_swap_29 : decode cX10_swap 29 = .ok (.invokespecial 204, 3) := by decide +kernel
theorem dX10_swap_32 : decode cX10_swap 32 = .ok (.athrow, 1) := by decide +kernel
theorem dX10_swap_33 : decode cX10_swap 33 = .ok (.aload_n 0, 1) := by decide +kernel
theorem dX10_swap_34 : decode cX10_swap 34 = .ok (.iload_n 1, 1) := by decide +kernel
theorem dX10_swap_35 : decode cX10_swap 35 = .ok (.iload_n 2, 1) := by decide +kernel
theorem dX10_swap_36 : decode cX10_swap 36 = .ok (.invokevirtual 205, 3) := by decide +kernel
theorem dX10_swap_39 : decode cX10_swap 39 = .ok (.ifCond .ne 13, 3) := by decide +kernel
theorem dX10_swap_42 : decode cX10_swap 42 = .ok (.new 109, 3) := by decide +kernel
theorem dX10_swap_45 : decode cX10_swap 45 = .ok (.dup, 1) := by decide +kernel
theorem dX10_swap_46 : decode cX10_swap 46 = .ok (.ldc 209, 2) := by decide +kernel
theorem dX10_swap_48 : decode cX10_swap 48 = .ok (.invokespecial 113, 3) := by decide +kernel
theorem dX10_swap_51 : decode cX10_swap 51 = .ok (.athrow, 1) := by decide +kernel
theorem dX10_swap_52 : decode cX10_swap 52 = .ok (.aload_n 0, 1) := by decide +kernel
theorem dX10_swap_53 : decode cX10_swap 53 = .ok (.invokevirtual 170, 3) := by decide +kernel
theorem dX10_swap_56 : decode cX10_swap 56 = .ok (.ireturn, 1) := by decide +kernel
theorem dX10_replan_0 : decode cX10_replan 0 = .ok (.iload_n 1, 1) := by decide +kernel
theorem dX10_replan_1 : decode cX10_replan 1 = .ok (.invokestatic 161, 3) := by decide +kernel
theorem dX10_replan_4 : decode cX10_replan 4 = .ok (.iload_n 2, 1) := by decide +kernel
theorem dX10_replan_5 : decode cX10_replan 5 = .ok (.iconst 0, 1) := by decide +kernel
theorem dX10_replan_6 : decode cX10_replan 6 = .ok (.sipush 2000, 3) := by decide +kernel
theorem dX10_replan_9 : decode cX10_replan 9 = .ok (.invokestatic 102, 3) := by decide +kernel
theorem dX10_replan_12 : decode cX10_replan 12 = .ok (.aload_n 0, 1) := by decide +kernel
theorem dX10_replan_13 : decode cX10_replan 13 = .ok (.invokevirtual 211, 3) := by decide +kernel
theorem dX10_replan_16 : decode cX10_replan 16 = .ok (.aload_n 0, 1) := by decide +kernel
theorem dX10_replan_17 : decode cX10_replan 17 = .ok (.getfield 25, 3) := by decide +kernel
theorem dX10_replan_20 : decode cX10_replan 20 = .ok (.invokevirtual 164, 3) := by decide +kernel
theorem dX10_replan_23 : decode cX10_replan 23 = .ok (.aload_n 0, 1) := by decide +kernel
theorem dX10_replan_24 : decode cX10_replan 24 = .ok (.getfield 25, 3) := by decide +kernel
theorem dX10_replan_27 : decode cX10_replan 27 = .ok (.aload_n 0, 1) := by decide +kernel
theorem dX10_replan_28 : decode cX10_replan 28 = .ok (.getfield 21, 3) := by decide +kernel
theorem dX10_replan_31 : decode cX10_replan 31 = .ok (.iload_n 2, 1) := by decide +kernel
theorem dX10_replan_32 : decode cX10_replan 32 = .ok (.invokevirtual 214, 3) := by decide +kernel
theorem dX10_replan_35 : decode cX10_replan 35 = .ok (.aload_n 0, 1) := by decide +kernel
theorem dX10_replan_36 : decode cX10_replan 36 = .ok (.getfield 25, 3) := by decide +kernel
theorem dX10_replan_39 : decode cX10_replan 39 = .ok (.iload_n 1, 1) := by decide +kernel
theorem dX10_replan_40 : decode cX10_replan 40 = .ok (.invokevirtual 167, 3) := by decide +kernel
theorem dX10_replan_43 : decode cX10_replan 43 = .ok (.aload_n 0, 1) := by decide +kernel
theorem dX10_replan_44 : decode cX10_replan 44 = .ok (.invokevirtual 170, 3) := by decide +kernel
theorem dX10_replan_47 : decode cX10_replan 47 = .ok (.ireturn, 1) := by decide +kernel
theorem dX10_rush_0 : decode cX10_rush 0 = .ok (.aload_n 0, 1) := by decide +kernel
theorem dX10_rush_1 : decode cX10_rush 1 = .ok (.iload_n 1, 1) := by decide +kernel
theorem dX10_rush_2 : decode cX10_rush 2 = .ok (.invokevirtual 143, 3) := by decide +kernel
theorem dX10_rush_5 : decode cX10_rush 5 = .ok (.aload_n 0, 1) := by decide +kernel
theorem dX10_rush_6 : decode cX10_rush 6 = .ok (.invokevirtual 211, 3) := by decide +kernel
theorem dX10_rush_9 : decode cX10_rush 9 = .ok (.aload_n 0, 1) := by decide +kernel
theorem dX10_rush_10 : decode cX10_rush 10 = .ok (.getfield 25, 3) := by decide +kernel
theorem dX10_rush_13 : decode cX10_rush 13 = .ok (.iload_n 1, 1) := by decide +kernel
theorem dX10_rush_14 : decode cX10_rush 14 = .ok (.invokevirtual 218, 3) := by decide +kernel
theorem dX10_rush_17 : decode cX10_rush 17 = .ok (.aload_n 0, 1) := by decide +kernel
theorem dX10_rush_18 : decode cX10_rush 18 = .ok (.invokevirtual 170, 3) := by decide +kernel
theorem dX10_rush_21 : decode cX10_rush 21 = .ok (.ireturn, 1) := by decide +kernel
theorem dX10_setWorker_0 : decode cX10_setWorker 0 = .ok (.iload_n 1, 1) := by decide +kernel
theorem dX10_setWorker_1 : decode cX10_setWorker 1 = .ok (.ifCond .lt 9, 3) := by decide +kernel
theorem dX10_setWorker_4 : decode cX10_setWorker 4 = .ok (.iload_n 1, 1) := by decide +kernel
theorem dX10_setWorker_5 : decode cX10_setWorker 5 = .ok (.bipush 6, 2) := by decide +kernel
theorem dX10_setWorker_7 : decode cX10_setWorker 7 = .ok (.if_icmp .lt 13, 3) := by decide +kernel
theorem dX10_setWorker_10 : decode cX10_setWorker 10 = .ok (.new 200, 3) := by decide +kernel
theorem dX10_setWorker_13 : decode cX10_setWorker 13 = .ok (.dup, 1) := by decide +kernel
theorem dX10_setWorker_14 : decode cX10_setWorker 14 = .ok (.ldc 221, 2) := by decide +kernel
theorem dX10_setWorker_16 : decode cX10_setWorker 16 = .ok (.invokespecial 204, 3) := by decide +kernel
theorem dX10_setWorker_19 : decode cX10_setWorker 19 = .ok (.athrow, 1) := by decide +kernel
theorem dX10_setWorker_20 : decode cX10_setWorker 20 = .ok (.iload_n 2, 1) := by decide +kernel
theorem dX10_setWorker_21 : decode cX10_setWorker 21 = .ok (.invokestatic 223, 3) := by decide +kernel
theorem dX10_setWorker_24 : decode cX10_setWorker 24 = .ok (.aload_n 0, 1) := by decide +kernel
theorem dX10_setWorker_25 : decode cX10_setWorker 25 = .ok (.invokevirtual 116, 3) := by decide +kernel
theorem dX10_setWorker_28 : decode cX10_setWorker 28 = .ok (.aload_n 0, 1) := by decide +kernel
theorem dX10_setWorker_29 : decode cX10_setWorker 29 = .ok (.getfield 12, 3) := by decide +kernel
theorem dX10_setWorker_32 : decode cX10_setWorker 32 = .ok (.getfield 226, 3) := by decide +kernel
theorem dX10_setWorker_35 : decode cX10_setWorker 35 = .ok (.iload_n 1, 1) := by decide +kernel
theorem dX10_setWorker_36 : decode cX10_setWorker 36 = .ok (.iaload, 1) := by decide +kernel
theorem dX10_setWorker_37 : decode cX10_setWorker 37 = .ok (.istore_n 3, 1) := by decide +kernel
theorem dX10_setWorker_38 : decode cX10_setWorker 38 = .ok (.aload_n 0, 1) := by decide +kernel
theorem dX10_setWorker_39 : decode cX10_setWorker 39 = .ok (.getfield 12, 3) := by decide +kernel
theorem dX10_setWorker_42 : decode cX10_setWorker 42 = .ok (.getfield 226, 3) := by decide +kernel
theorem dX10_setWorker_45 : decode cX10_setWorker 45 = .ok (.iload_n 1, 1) := by decide +kernel
theorem dX10_setWorker_46 : decode cX10_setWorker 46 = .ok (.iload_n 2, 1) := by decide +kernel
theorem dX10_setWorker_47 : decode cX10_setWorker 47 = .ok (.iastore, 1) := by decide +kernel
theorem dX10_setWorker_48 : decode cX10_setWorker 48 = .ok (.iload_n 3, 1) := by decide +kernel
theorem dX10_setWorker_49 : decode cX10_setWorker 49 = .ok (.ireturn, 1) := by decide +kernel
theorem dX10_undo_0 : decode cX10_undo 0 = .ok (.aload_n 0, 1) := by decide +kernel
theorem dX10_undo_1 : decode cX10_undo 1 = .ok (.getfield 229, 3) := by decide +kernel
theorem dX10_undo_4 : decode cX10_undo 4 = .ok (.ifCond .ne 5, 3) := by decide +kernel
theorem dX10_undo_7 : decode cX10_undo 7 = .ok (.iconst (-1), 1) := by decide +kernel
theorem dX10_undo_8 : decode cX10_undo 8 = .ok (.ireturn, 1) := by decide +kernel
theorem dX10_undo_9 : decode cX10_undo 9 = .ok (.aload_n 0, 1) := by decide +kernel
theorem dX10_undo_10 : decode cX10_undo 10 = .ok (.aload_n 0, 1) := by decide +kernel
theorem dX10_undo_11 : decode cX10_undo 11 = .ok (.getfield 233, 3) := by decide +kernel
theorem dX10_undo_14 : decode cX10_undo 14 = .ok (.bipush 8, 2) := by decide +kernel
theorem dX10_undo_16 : decode cX10_undo 16 = .ok (.iadd, 1) := by decide +kernel
theorem dX10_undo_17 : decode cX10_undo 17 = .ok (.iconst 1, 1) := by decide +kernel
theorem dX10_undo_18 : decode cX10_undo 18 = .ok (.isub, 1) := by decide +kernel
theorem dX10_undo_19 : decode cX10_undo 19 = .ok (.bipush 8, 2) := by decide +kernel
theorem dX10_undo_21 : decode cX10_undo 21 = .ok (.irem, 1) := by decide +kernel
theorem dX10_undo_22 : decode cX10_undo 22 = .ok (.putfield 233, 3) := by decide +kernel
theorem dX10_undo_25 : decode cX10_undo 25 = .ok (.aload_n 0, 1) := by decide +kernel
theorem dX10_undo_26 : decode cX10_undo 26 = .ok (.dup, 1) := by decide +kernel
theorem dX10_undo_27 : decode cX10_undo 27 = .ok (.getfield 229, 3) := by decide +kernel
theorem dX10_undo_30 : decode cX10_undo 30 = .ok (.iconst 1, 1) := by decide +kernel
theorem dX10_undo_31 : decode cX10_undo 31 = .ok (.isub, 1) := by decide +kernel
theorem dX10_undo_32 : decode cX10_undo 32 = .ok (.putfield 229, 3) := by decide +kernel
theorem dX10_undo_35 : decode cX10_undo 35 = .ok (.aload_n 0, 1) := by decide +kernel
theorem dX10_undo_36 : decode cX10_undo 36 = .ok (.getfield 28, 3) := by decide +kernel
theorem dX10_undo_39 : decode cX10_undo 39 = .ok (.aload_n 0, 1) := by decide +kernel
theorem dX10_undo_40 : decode cX10_undo 40 = .ok (.getfield 233, 3) := by decide +kernel
theorem dX10_undo_43 : decode cX10_undo 43 = .ok (.aaload, 1) := by decide +kernel
theorem dX10_undo_44 : decode cX10_undo 44 = .ok (.astore_n 1, 1) := by decide +kernel
theorem dX10_undo_45 : decode cX10_undo 45 = .ok (.aload_n 1, 1) := by decide +kernel
theorem dX10_undo_46 : decode cX10_undo 46 = .ok (.ifnull 11, 3) := by decide +kernel
theorem dX10_undo_49 : decode cX10_undo 49 = .ok (.aload_n 0, 1) := by decide +kernel
theorem dX10_undo_50 : decode cX10_undo 50 = .ok (.getfield 12, 3) := by decide +kernel
theorem dX10_undo_53 : decode cX10_undo 53 = .ok (.aload_n 1, 1) := by decide +kernel
theorem dX10_undo_54 : decode cX10_undo 54 = .ok (.invokevirtual 236, 3) := by decide +kernel
theorem dX10_undo_57 : decode cX10_undo 57 = .ok (.aload_n 0, 1) := by decide +kernel
theorem dX10_undo_58 : decode cX10_undo 58 = .ok (.getfield 21, 3) := by decide +kernel
theorem dX10_undo_61 : decode cX10_undo 61 = .ok (.invokevirtual 122, 3) := by decide +kernel
theorem dX10_undo_64 : decode cX10_undo 64 = .ok (.aload_n 0, 1) := by decide +kernel
theorem dX10_undo_65 : decode cX10_undo 65 = .ok (.getfield 229, 3) := by decide +kernel
theorem dX10_undo_68 : decode cX10_undo 68 = .ok (.ireturn, 1) := by decide +kernel
theorem dX10_jobs_0 : decode cX10_jobs 0 = .ok (.aload_n 0, 1) := by decide +kernel
theorem dX10_jobs_1 : decode cX10_jobs 1 = .ok (.getfield 12, 3) := by decide +kernel
theorem dX10_jobs_4 : decode cX10_jobs 4 = .ok (.getfield 239, 3) := by decide +kernel
theorem dX10_jobs_7 : decode cX10_jobs 7 = .ok (.ireturn, 1) := by decide +kernel
theorem dX10_jobAt_0 : decode cX10_jobAt 0 = .ok (.aload_n 0, 1) := by decide +kernel
theorem dX10_jobAt_1 : decode cX10_jobAt 1 = .ok (.iload_n 1, 1) := by decide +kernel
theorem dX10_jobAt_2 : decode cX10_jobAt 2 = .ok (.invokevirtual 143, 3) := by decide +kernel
theorem dX10_jobAt_5 : decode cX10_jobAt 5 = .ok (.iload_n 2, 1) := by decide +kernel
theorem dX10_jobAt_6 : decode cX10_jobAt 6 = .ok (.iconst 0, 1) := by decide +kernel
theorem dX10_jobAt_7 : decode cX10_jobAt 7 = .ok (.iconst 5, 1) := by decide +kernel
theorem dX10_jobAt_8 : decode cX10_jobAt 8 = .ok (.invokestatic 102, 3) := by decide +kernel
theorem dX10_jobAt_11 : decode cX10_jobAt 11 = .ok (.iload_n 2, 1) := by decide +kernel
theorem dX10_jobAt_12 : decode cX10_jobAt 12 = .ok (.tableswitch 86 0 4 #[36, 46, 56, 66, 76], 36) := by decide +kernel
theorem dX10_jobAt_48 : decode cX10_jobAt 48 = .ok (.aload_n 0, 1) := by decide +kernel
theorem dX10_jobAt_49 : decode cX10_jobAt 49 = .ok (.getfield 12, 3) := by decide +kernel
theorem dX10_jobAt_52 : decode cX10_jobAt 52 = .ok (.getfield 242, 3) := by decide +kernel
theorem dX10_jobAt_55 : decode cX10_jobAt 55 = .ok (.iload_n 1, 1) := by decide +kernel
theorem dX10_jobAt_56 : decode cX10_jobAt 56 = .ok (.iaload, 1) := by decide +kernel
theorem dX10_jobAt_57 : decode cX10_jobAt 57 = .ok (.ireturn, 1) := by decide +kernel
theorem dX10_jobAt_58 : decode cX10_jobAt 58 = .ok (.aload_n 0, 1) := by decide +kernel
theorem dX10_jobAt_59 : decode cX10_jobAt 59 = .ok (.getfield 12, 3) := by decide +kernel
theorem dX10_jobAt_62 : decode cX10_jobAt 62 = .ok (.getfield 245, 3) := by decide +kernel
theorem dX10_jobAt_65 : decode cX10_jobAt 65 = .ok (.iload_n 1, 1) := by decide +kernel
theorem dX10_jobAt_66 : decode cX10_jobAt 66 = .ok (.iaload, 1) := by decide +kernel
theorem dX10_jobAt_67 : decode cX10_jobAt 67 = .ok (.ireturn, 1) := by decide +kernel
theorem dX10_jobAt_68 : decode cX10_jobAt 68 = .ok (.aload_n 0, 1) := by decide +kernel
theorem dX10_jobAt_69 : decode cX10_jobAt 69 = .ok (.getfield 12, 3) := by decide +kernel
theorem dX10_jobAt_72 : decode cX10_jobAt 72 = .ok (.getfield 248, 3) := by decide +kernel
theorem dX10_jobAt_75 : decode cX10_jobAt 75 = .ok (.iload_n 1, 1) := by decide +kernel
theorem dX10_jobAt_76 : decode cX10_jobAt 76 = .ok (.iaload, 1) := by decide +kernel
theorem dX10_jobAt_77 : decode cX10_jobAt 77 = .ok (.ireturn, 1) := by decide +kernel
theorem dX10_jobAt_78 : decode cX10_jobAt 78 = .ok (.aload_n 0, 1) := by decide +kernel
theorem dX10_jobAt_79 : decode cX10_jobAt 79 = .ok (.getfield 12, 3) := by decide +kernel
theorem dX10_jobAt_82 : decode cX10_jobAt 82 = .ok (.getfield 251, 3) := by decide +kernel
theorem dX10_jobAt_85 : decode cX10_jobAt 85 = .ok (.iload_n 1, 1) := by decide +kernel
theorem dX10_jobAt_86 : decode cX10_jobAt 86 = .ok (.iaload, 1) := by decide +kernel
theorem dX10_jobAt_87 : decode cX10_jobAt 87 = .ok (.ireturn, 1) := by decide +kernel
theorem dX10_jobAt_88 : decode cX10_jobAt 88 = .ok (.aload_n 0, 1) := by decide +kernel
theorem dX10_jobAt_89 : decode cX10_jobAt 89 = .ok (.getfield 12, 3) := by decide +kernel
theorem dX10_jobAt_92 : decode cX10_jobAt 92 = .ok (.getfield 146, 3) := by decide +kernel
theorem dX10_jobAt_95 : decode cX10_jobAt 95 = .ok (.iload_n 1, 1) := by decide +kernel
theorem dX10_jobAt_96 : decode cX10_jobAt 96 = .ok (.iaload, 1) := by decide +kernel
theorem dX10_jobAt_97 : decode cX10_jobAt 97 = .ok (.ireturn, 1) := by decide +kernel
theorem dX10_jobAt_98 : decode cX10_jobAt 98 = .ok (.aload_n 0, 1) := by decide +kernel
theorem dX10_jobAt_99 : decode cX10_jobAt 99 = .ok (.getfield 12, 3) := by decide +kernel
theorem dX10_jobAt_102 : decode cX10_jobAt 102 = .ok (.iload_n 1, 1) := by decide +kernel
theorem dX10_jobAt_103 : decode cX10_jobAt 103 = .ok (.iconst 0, 1) := by decide +kernel
theorem dX10_jobAt_104 : decode cX10_jobAt 104 = .ok (.invokevirtual 254, 3) := by decide +kernel
theorem dX10_jobAt_107 : decode cX10_jobAt 107 = .ok (.ireturn, 1) := by decide +kernel
theorem dX10_stepAt_0 : decode cX10_stepAt 0 = .ok (.aload_n 0, 1) := by decide +kernel
theorem dX10_stepAt_1 : decode cX10_stepAt 1 = .ok (.iload_n 1, 1) := by decide +kernel
theorem dX10_stepAt_2 : decode cX10_stepAt 2 = .ok (.iload_n 2, 1) := by decide +kernel
theorem dX10_stepAt_3 : decode cX10_stepAt 3 = .ok (.invokevirtual 258, 3) := by decide +kernel
theorem dX10_stepAt_6 : decode cX10_stepAt 6 = .ok (.iload_n 3, 1) := by decide +kernel
theorem dX10_stepAt_7 : decode cX10_stepAt 7 = .ok (.iconst 0, 1) := by decide +kernel
theorem dX10_stepAt_8 : decode cX10_stepAt 8 = .ok (.iconst 1, 1) := by decide +kernel
theorem dX10_stepAt_9 : decode cX10_stepAt 9 = .ok (.invokestatic 102, 3) := by decide +kernel
theorem dX10_stepAt_12 : decode cX10_stepAt 12 = .ok (.iload_n 1, 1) := by decide +kernel
theorem dX10_stepAt_13 : decode cX10_stepAt 13 = .ok (.iconst 5, 1) := by decide +kernel
theorem dX10_stepAt_14 : decode cX10_stepAt 14 = .ok (.imul, 1) := by decide +kernel
theorem dX10_stepAt_15 : decode cX10_stepAt 15 = .ok (.iload_n 2, 1) := by decide +kernel
theorem dX10_stepAt_16 : decode cX10_stepAt 16 = .ok (.iadd, 1) := by decide +kernel
theorem dX10_stepAt_17 : decode cX10_stepAt 17 = .ok (.istore 4, 2) := by decide +kernel
theorem dX10_stepAt_19 : decode cX10_stepAt 19 = .ok (.iload_n 3, 1) := by decide +kernel
theorem dX10_stepAt_20 : decode cX10_stepAt 20 = .ok (.ifCond .ne 16, 3) := by decide +kernel
theorem dX10_stepAt_23 : decode cX10_stepAt 23 = .ok (.aload_n 0, 1) := by decide +kernel
theorem dX10_stepAt_24 : decode cX10_stepAt 24 = .ok (.getfield 12, 3) := by decide +kernel
theorem dX10_stepAt_27 : decode cX10_stepAt 27 = .ok (.getfield 262, 3) := by decide +kernel
theorem dX10_stepAt_30 : decode cX10_stepAt 30 = .ok (.iload 4, 2) := by decide +kernel
theorem dX10_stepAt_32 : decode cX10_stepAt 32 = .ok (.iaload, 1) := by decide +kernel
theorem dX10_stepAt_33 : decode cX10_stepAt 33 = .ok (.goto 13, 3) := by decide +kernel
theorem dX10_stepAt_36 : decode cX10_stepAt 36 = .ok (.aload_n 0, 1) := by decide +kernel
theorem dX10_stepAt_37 : decode cX10_stepAt 37 = .ok (.getfield 12, 3) := by decide +kernel
theorem dX10_stepAt_40 : decode cX10_stepAt 40 = .ok (.getfield 265, 3) := by decide +kernel
theorem dX10_stepAt_43 : decode cX10_stepAt 43 = .ok (.iload 4, 2) := by decide +kernel
theorem dX10_stepAt_45 : decode cX10_stepAt 45 = .ok (.iaload, 1) := by decide +kernel
theorem dX10_stepAt_46 : decode cX10_stepAt 46 = .ok (.ireturn, 1) := by decide +kernel
theorem dX10_begin_0 : decode cX10_begin 0 = .ok (.aload_n 0, 1) := by decide +kernel
theorem dX10_begin_1 : decode cX10_begin 1 = .ok (.iload_n 1, 1) := by decide +kernel
theorem dX10_begin_2 : decode cX10_begin 2 = .ok (.iload_n 2, 1) := by decide +kernel
theorem dX10_begin_3 : decode cX10_begin 3 = .ok (.invokevirtual 258, 3) := by decide +kernel
theorem dX10_begin_6 : decode cX10_begin 6 = .ok (.aload_n 0, 1) := by decide +kernel
theorem dX10_begin_7 : decode cX10_begin 7 = .ok (.invokevirtual 211, 3) := by decide +kernel
theorem dX10_begin_10 : decode cX10_begin 10 = .ok (.aload_n 0, 1) := by decide +kernel
theorem dX10_begin_11 : decode cX10_begin 11 = .ok (.getfield 21, 3) := by decide +kernel
theorem dX10_begin_14 : decode cX10_begin 14 = .ok (.getfield 268, 3) := by decide +kernel
theorem dX10_begin_17 : decode cX10_begin 17 = .ok (.iload_n 1, 1) := by decide +kernel
theorem dX10_begin_18 : decode cX10_begin 18 = .ok (.iconst 5, 1) := by decide +kernel
theorem dX10_begin_19 : decode cX10_begin 19 = .ok (.imul, 1) := by decide +kernel
theorem dX10_begin_20 : decode cX10_begin 20 = .ok (.iload_n 2, 1) := by decide +kernel
theorem dX10_begin_21 : decode cX10_begin 21 = .ok (.iadd, 1) := by decide +kernel
theorem dX10_begin_22 : decode cX10_begin 22 = .ok (.iaload, 1) := by decide +kernel
theorem dX10_begin_23 : decode cX10_begin 23 = .ok (.ireturn, 1) := by decide +kernel
theorem dX10_endOf_0 : decode cX10_endOf 0 = .ok (.aload_n 0, 1) := by decide +kernel
theorem dX10_endOf_1 : decode cX10_endOf 1 = .ok (.iload_n 1, 1) := by decide +kernel
theorem dX10_endOf_2 : decode cX10_endOf 2 = .ok (.invokevirtual 143, 3) := by decide +kernel
theorem dX10_endOf_5 : decode cX10_endOf 5 = .ok (.aload_n 0, 1) := by decide +kernel
theorem dX10_endOf_6 : decode cX10_endOf 6 = .ok (.invokevirtual 211, 3) := by decide +kernel
theorem dX10_endOf_9 : decode cX10_endOf 9 = .ok (.aload_n 0, 1) := by decide +kernel
theorem dX10_endOf_10 : decode cX10_endOf 10 = .ok (.getfield 21, 3) := by decide +kernel
theorem dX10_endOf_13 : decode cX10_endOf 13 = .ok (.iload_n 1, 1) := by decide +kernel
theorem dX10_endOf_14 : decode cX10_endOf 14 = .ok (.invokevirtual 271, 3) := by decide +kernel
theorem dX10_endOf_17 : decode cX10_endOf 17 = .ok (.ireturn, 1) := by decide +kernel
theorem dX10_value_0 : decode cX10_value 0 = .ok (.iload_n 1, 1) := by decide +kernel
theorem dX10_value_1 : decode cX10_value 1 = .ok (.invokestatic 183, 3) := by decide +kernel
theorem dX10_value_4 : decode cX10_value 4 = .ok (.aload_n 0, 1) := by decide +kernel
theorem dX10_value_5 : decode cX10_value 5 = .ok (.invokevirtual 211, 3) := by decide +kernel
theorem dX10_value_8 : decode cX10_value 8 = .ok (.aload_n 0, 1) := by decide +kernel
theorem dX10_value_9 : decode cX10_value 9 = .ok (.getfield 21, 3) := by decide +kernel
theorem dX10_value_12 : decode cX10_value 12 = .ok (.iload_n 1, 1) := by decide +kernel
theorem dX10_value_13 : decode cX10_value 13 = .ok (.invokevirtual 194, 3) := by decide +kernel
theorem dX10_value_16 : decode cX10_value 16 = .ok (.ireturn, 1) := by decide +kernel
theorem dX10_bound_0 : decode cX10_bound 0 = .ok (.aload_n 0, 1) := by decide +kernel
theorem dX10_bound_1 : decode cX10_bound 1 = .ok (.getfield 12, 3) := by decide +kernel
theorem dX10_bound_4 : decode cX10_bound 4 = .ok (.invokevirtual 274, 3) := by decide +kernel
theorem dX10_bound_7 : decode cX10_bound 7 = .ok (.ireturn, 1) := by decide +kernel
theorem dX10_orderAt_0 : decode cX10_orderAt 0 = .ok (.iload_n 1, 1) := by decide +kernel
theorem dX10_orderAt_1 : decode cX10_orderAt 1 = .ok (.invokestatic 98, 3) := by decide +kernel
theorem dX10_orderAt_4 : decode cX10_orderAt 4 = .ok (.iload_n 2, 1) := by decide +kernel
theorem dX10_orderAt_5 : decode cX10_orderAt 5 = .ok (.ifCond .lt 16, 3) := by decide +kernel
theorem dX10_orderAt_8 : decode cX10_orderAt 8 = .ok (.iload_n 2, 1) := by decide +kernel
theorem dX10_orderAt_9 : decode cX10_orderAt 9 = .ok (.aload_n 0, 1) := by decide +kernel
theorem dX10_orderAt_10 : decode cX10_orderAt 10 = .ok (.getfield 21, 3) := by decide +kernel
theorem dX10_orderAt_13 : decode cX10_orderAt 13 = .ok (.getfield 197, 3) := by decide +kernel
theorem dX10_orderAt_16 : decode cX10_orderAt 16 = .ok (.iload_n 1, 1) := by decide +kernel
theorem dX10_orderAt_17 : decode cX10_orderAt 17 = .ok (.iaload, 1) := by decide +kernel
theorem dX10_orderAt_18 : decode cX10_orderAt 18 = .ok (.if_icmp .lt 14, 3) := by decide +kernel
theorem dX10_orderAt_21 : decode cX10_orderAt 21 = .ok (.new 200, 3) := by decide +kernel
theorem dX10_orderAt_24 : decode cX10_orderAt 24 = .ok (.dup, 1) := by decide +kernel
theorem dX10_orderAt_25 : decode cX10_orderAt 25 = .ok (.ldc_w 277, 3) := by decide +kernel
theorem dX10_orderAt_28 : decode cX10_orderAt 28 = .ok (.invokespecial 204, 3) := by decide +kernel
theorem dX10_orderAt_31 : decode cX10_orderAt 31 = .ok (.athrow, 1) := by decide +kernel
theorem dX10_orderAt_32 : decode cX10_orderAt 32 = .ok (.aload_n 0, 1) := by decide +kernel
theorem dX10_orderAt_33 : decode cX10_orderAt 33 = .ok (.getfield 21, 3) := by decide +kernel
theorem dX10_orderAt_36 : decode cX10_orderAt 36 = .ok (.getfield 279, 3) := by decide +kernel
theorem dX10_orderAt_39 : decode cX10_orderAt 39 = .ok (.iload_n 1, 1) := by decide +kernel
theorem dX10_orderAt_40 : decode cX10_orderAt 40 = .ok (.bipush 30, 2) := by decide +kernel
theorem dX10_orderAt_42 : decode cX10_orderAt 42 = .ok (.imul, 1) := by decide +kernel
theorem dX10_orderAt_43 : decode cX10_orderAt 43 = .ok (.iload_n 2, 1) := by decide +kernel
theorem dX10_orderAt_44 : decode cX10_orderAt 44 = .ok (.iadd, 1) := by decide +kernel
theorem dX10_orderAt_45 : decode cX10_orderAt 45 = .ok (.iaload, 1) := by decide +kernel
theorem dX10_orderAt_46 : decode cX10_orderAt 46 = .ok (.invokestatic 282, 3) := by decide +kernel
theorem dX10_orderAt_49 : decode cX10_orderAt 49 = .ok (.ireturn, 1) := by decide +kernel
theorem dX10_doneIn_0 : decode cX10_doneIn 0 = .ok (.iload_n 1, 1) := by decide +kernel
theorem dX10_doneIn_1 : decode cX10_doneIn 1 = .ok (.invokestatic 98, 3) := by decide +kernel
theorem dX10_doneIn_4 : decode cX10_doneIn 4 = .ok (.iload_n 2, 1) := by decide +kernel
theorem dX10_doneIn_5 : decode cX10_doneIn 5 = .ok (.iconst 0, 1) := by decide +kernel
theorem dX10_doneIn_6 : decode cX10_doneIn 6 = .ok (.sipush 5000, 3) := by decide +kernel
theorem dX10_doneIn_9 : decode cX10_doneIn 9 = .ok (.invokestatic 102, 3) := by decide +kernel
theorem dX10_doneIn_12 : decode cX10_doneIn 12 = .ok (.aload_n 0, 1) := by decide +kernel
theorem dX10_doneIn_13 : decode cX10_doneIn 13 = .ok (.invokevirtual 211, 3) := by decide +kernel
theorem dX10_doneIn_16 : decode cX10_doneIn 16 = .ok (.iconst 0, 1) := by decide +kernel
theorem dX10_doneIn_17 : decode cX10_doneIn 17 = .ok (.istore_n 3, 1) := by decide +kernel
theorem dX10_doneIn_18 : decode cX10_doneIn 18 = .ok (.iload_n 3, 1) := by decide +kernel
theorem dX10_doneIn_19 : decode cX10_doneIn 19 = .ok (.aload_n 0, 1) := by decide +kernel
theorem dX10_doneIn_20 : decode cX10_doneIn 20 = .ok (.getfield 21, 3) := by decide +kernel
theorem dX10_doneIn_23 : decode cX10_doneIn 23 = .ok (.getfield 197, 3) := by decide +kernel
theorem dX10_doneIn_26 : decode cX10_doneIn 26 = .ok (.iload_n 1, 1) := by decide +kernel
theorem dX10_doneIn_27 : decode cX10_doneIn 27 = .ok (.iaload, 1) := by decide +kernel
theorem dX10_doneIn_28 : decode cX10_doneIn 28 = .ok (.if_icmp .ge 57, 3) := by decide +kernel
theorem dX10_doneIn_31 : decode cX10_doneIn 31 = .ok (.aload_n 0, 1) := by decide +kernel
theorem dX10_doneIn_32 : decode cX10_doneIn 32 = .ok (.getfield 21, 3) := by decide +kernel
theorem dX10_doneIn_35 : decode cX10_doneIn 35 = .ok (.getfield 279, 3) := by decide +kernel
theorem dX10_doneIn_38 : decode cX10_doneIn 38 = .ok (.iload_n 1, 1) := by decide +kernel
theorem dX10_doneIn_39 : decode cX10_doneIn 39 = .ok (.bipush 30, 2) := by decide +kernel
theorem dX10_doneIn_41 : decode cX10_doneIn 41 = .ok (.imul, 1) := by decide +kernel
theorem dX10_doneIn_42 : decode cX10_doneIn 42 = .ok (.iload_n 3, 1) := by decide +kernel
theorem dX10_doneIn_43 : decode cX10_doneIn 43 = .ok (.iadd, 1) := by decide +kernel
theorem dX10_doneIn_44 : decode cX10_doneIn 44 = .ok (.iaload, 1) := by decide +kernel
theorem dX10_doneIn_45 : decode cX10_doneIn 45 = .ok (.istore 4, 2) := by decide +kernel
theorem dX10_doneIn_47 : decode cX10_doneIn 47 = .ok (.aload_n 0, 1) := by decide +kernel
theorem dX10_doneIn_48 : decode cX10_doneIn 48 = .ok (.getfield 21, 3) := by decide +kernel
theorem dX10_doneIn_51 : decode cX10_doneIn 51 = .ok (.getfield 268, 3) := by decide +kernel
theorem dX10_doneIn_54 : decode cX10_doneIn 54 = .ok (.iload 4, 2) := by decide +kernel
theorem dX10_doneIn_56 : decode cX10_doneIn 56 = .ok (.iaload, 1) := by decide +kernel
theorem dX10_doneIn_57 : decode cX10_doneIn 57 = .ok (.iload_n 2, 1) := by decide +kernel
theorem dX10_doneIn_58 : decode cX10_doneIn 58 = .ok (.if_icmp .gt 21, 3) := by decide +kernel
theorem dX10_doneIn_61 : decode cX10_doneIn 61 = .ok (.iload_n 2, 1) := by decide +kernel
theorem dX10_doneIn_62 : decode cX10_doneIn 62 = .ok (.aload_n 0, 1) := by decide +kernel
theorem dX10_doneIn_63 : decode cX10_doneIn 63 = .ok (.getfield 21, 3) := by decide +kernel
theorem dX10_doneIn_66 : decode cX10_doneIn 66 = .ok (.iload 4, 2) := by decide +kernel
theorem dX10_doneIn_68 : decode cX10_doneIn 68 = .ok (.invokevirtual 285, 3) := by decide +kernel
theorem dX10_doneIn_71 : decode cX10_doneIn 71 = .ok (.if_icmp .ge 8, 3) := by decide +kernel
theorem dX10_doneIn_74 : decode cX10_doneIn 74 = .ok (.iload 4, 2) := by decide +kernel
theorem dX10_doneIn_76 : decode cX10_doneIn 76 = .ok (.iconst 5, 1) := by decide +kernel
theorem dX10_doneIn_77 : decode cX10_doneIn 77 = .ok (.idiv, 1) := by decide +kernel
theorem dX10_doneIn_78 : decode cX10_doneIn 78 = .ok (.ireturn, 1) := by decide +kernel
theorem dX10_doneIn_79 : decode cX10_doneIn 79 = .ok (.iinc 3 1, 3) := by decide +kernel
theorem dX10_doneIn_82 : decode cX10_doneIn 82 = .ok (.goto (-64), 3) := by decide +kernel
theorem dX10_doneIn_85 : decode cX10_doneIn 85 = .ok (.iconst (-1), 1) := by decide +kernel
theorem dX10_doneIn_86 : decode cX10_doneIn 86 = .ok (.ireturn, 1) := by decide +kernel
theorem dX10_wayLength_0 : decode cX10_wayLength 0 = .ok (.aload_n 0, 1) := by decide +kernel
theorem dX10_wayLength_1 : decode cX10_wayLength 1 = .ok (.invokevirtual 211, 3) := by decide +kernel
theorem dX10_wayLength_4 : decode cX10_wayLength 4 = .ok (.aload_n 0, 1) := by decide +kernel
theorem dX10_wayLength_5 : decode cX10_wayLength 5 = .ok (.getfield 51, 3) := by decide +kernel
theorem dX10_wayLength_8 : decode cX10_wayLength 8 = .ok (.invokevirtual 288, 3) := by decide +kernel
theorem dX10_wayLength_11 : decode cX10_wayLength 11 = .ok (.aload_n 0, 1) := by decide +kernel
theorem dX10_wayLength_12 : decode cX10_wayLength 12 = .ok (.getfield 51, 3) := by decide +kernel
theorem dX10_wayLength_15 : decode cX10_wayLength 15 = .ok (.getfield 291, 3) := by decide +kernel
theorem dX10_wayLength_18 : decode cX10_wayLength 18 = .ok (.ireturn, 1) := by decide +kernel
theorem dX10_wayAt_0 : decode cX10_wayAt 0 = .ok (.aload_n 0, 1) := by decide +kernel
theorem dX10_wayAt_1 : decode cX10_wayAt 1 = .ok (.getfield 51, 3) := by decide +kernel
theorem dX10_wayAt_4 : decode cX10_wayAt 4 = .ok (.invokevirtual 288, 3) := by decide +kernel
theorem dX10_wayAt_7 : decode cX10_wayAt 7 = .ok (.iload_n 1, 1) := by decide +kernel
theorem dX10_wayAt_8 : decode cX10_wayAt 8 = .ok (.ifCond .lt 14, 3) := by decide +kernel
theorem dX10_wayAt_11 : decode cX10_wayAt 11 = .ok (.iload_n 1, 1) := by decide +kernel
theorem dX10_wayAt_12 : decode cX10_wayAt 12 = .ok (.aload_n 0, 1) := by decide +kernel
theorem dX10_wayAt_13 : decode cX10_wayAt 13 = .ok (.getfield 51, 3) := by decide +kernel
theorem dX10_wayAt_16 : decode cX10_wayAt 16 = .ok (.getfield 291, 3) := by decide +kernel
theorem dX10_wayAt_19 : decode cX10_wayAt 19 = .ok (.if_icmp .lt 14, 3) := by decide +kernel
theorem dX10_wayAt_22 : decode cX10_wayAt 22 = .ok (.new 200, 3) := by decide +kernel
theorem dX10_wayAt_25 : decode cX10_wayAt 25 = .ok (.dup, 1) := by decide +kernel
theorem dX10_wayAt_26 : decode cX10_wayAt 26 = .ok (.ldc_w 277, 3) := by decide +kernel
theorem dX10_wayAt_29 : decode cX10_wayAt 29 = .ok (.invokespecial 204, 3) := by decide +kernel
theorem dX10_wayAt_32 : decode cX10_wayAt 32 = .ok (.athrow, 1) := by decide +kernel
theorem dX10_wayAt_33 : decode cX10_wayAt 33 = .ok (.aload_n 0, 1) := by decide +kernel
theorem dX10_wayAt_34 : decode cX10_wayAt 34 = .ok (.getfield 51, 3) := by decide +kernel
theorem dX10_wayAt_37 : decode cX10_wayAt 37 = .ok (.getfield 294, 3) := by decide +kernel
theorem dX10_wayAt_40 : decode cX10_wayAt 40 = .ok (.aload_n 0, 1) := by decide +kernel
theorem dX10_wayAt_41 : decode cX10_wayAt 41 = .ok (.getfield 51, 3) := by decide +kernel
theorem dX10_wayAt_44 : decode cX10_wayAt 44 = .ok (.getfield 291, 3) := by decide +kernel
theorem dX10_wayAt_47 : decode cX10_wayAt 47 = .ok (.iconst 1, 1) := by decide +kernel
theorem dX10_wayAt_48 : decode cX10_wayAt 48 = .ok (.isub, 1) := by decide +kernel
theorem dX10_wayAt_49 : decode cX10_wayAt 49 = .ok (.iload_n 1, 1) := by decide +kernel
theorem dX10_wayAt_50 : decode cX10_wayAt 50 = .ok (.isub, 1) := by decide +kernel
theorem dX10_wayAt_51 : decode cX10_wayAt 51 = .ok (.iaload, 1) := by decide +kernel
theorem dX10_wayAt_52 : decode cX10_wayAt 52 = .ok (.invokestatic 282, 3) := by decide +kernel
theorem dX10_wayAt_55 : decode cX10_wayAt 55 = .ok (.ireturn, 1) := by decide +kernel
theorem dX10_blocks_0 : decode cX10_blocks 0 = .ok (.aload_n 0, 1) := by decide +kernel
theorem dX10_blocks_1 : decode cX10_blocks 1 = .ok (.invokevirtual 211, 3) := by decide +kernel
theorem dX10_blocks_4 : decode cX10_blocks 4 = .ok (.aload_n 0, 1) := by decide +kernel
theorem dX10_blocks_5 : decode cX10_blocks 5 = .ok (.getfield 51, 3) := by decide +kernel
theorem dX10_blocks_8 : decode cX10_blocks 8 = .ok (.invokevirtual 288, 3) := by decide +kernel
theorem dX10_blocks_11 : decode cX10_blocks 11 = .ok (.aload_n 0, 1) := by decide +kernel
theorem dX10_blocks_12 : decode cX10_blocks 12 = .ok (.getfield 51, 3) := by decide +kernel
theorem dX10_blocks_15 : decode cX10_blocks 15 = .ok (.getfield 297, 3) := by decide +kernel
theorem dX10_blocks_18 : decode cX10_blocks 18 = .ok (.ireturn, 1) := by decide +kernel
theorem dX10_longestBlock_0 : decode cX10_longestBlock 0 = .ok (.aload_n 0, 1) := by decide +kernel
theorem dX10_longestBlock_1 : decode cX10_longestBlock 1 = .ok (.invokevirtual 211, 3) := by decide +kernel
theorem dX10_longestBlock_4 : decode cX10_longestBlock 4 = .ok (.aload_n 0, 1) := by decide +kernel
theorem dX10_longestBlock_5 : decode cX10_longestBlock 5 = .ok (.getfield 51, 3) := by decide +kernel
theorem dX10_longestBlock_8 : decode cX10_longestBlock 8 = .ok (.invokevirtual 288, 3) := by decide +kernel
theorem dX10_longestBlock_11 : decode cX10_longestBlock 11 = .ok (.aload_n 0, 1) := by decide +kernel
theorem dX10_longestBlock_12 : decode cX10_longestBlock 12 = .ok (.getfield 51, 3) := by decide +kernel
theorem dX10_longestBlock_15 : decode cX10_longestBlock 15 = .ok (.getfield 300, 3) := by decide +kernel
theorem dX10_longestBlock_18 : decode cX10_longestBlock 18 = .ok (.ireturn, 1) := by decide +kernel
theorem dX10_slack_0 : decode cX10_slack 0 = .ok (.aload_n 0, 1) := by decide +kernel
theorem dX10_slack_1 : decode cX10_slack 1 = .ok (.iload_n 1, 1) := by decide +kernel
theorem dX10_slack_2 : decode cX10_slack 2 = .ok (.iload_n 2, 1) := by decide +kernel
theorem dX10_slack_3 : decode cX10_slack 3 = .ok (.invokevirtual 258, 3) := by decide +kernel
theorem dX10_slack_6 : decode cX10_slack 6 = .ok (.aload_n 0, 1) := by decide +kernel
theorem dX10_slack_7 : decode cX10_slack 7 = .ok (.invokevirtual 211, 3) := by decide +kernel
theorem dX10_slack_10 : decode cX10_slack 10 = .ok (.iload_n 1, 1) := by decide +kernel
theorem dX10_slack_11 : decode cX10_slack 11 = .ok (.iconst 5, 1) := by decide +kernel
theorem dX10_slack_12 : decode cX10_slack 12 = .ok (.imul, 1) := by decide +kernel
theorem dX10_slack_13 : decode cX10_slack 13 = .ok (.iload_n 2, 1) := by decide +kernel
theorem dX10_slack_14 : decode cX10_slack 14 = .ok (.iadd, 1) := by decide +kernel
theorem dX10_slack_15 : decode cX10_slack 15 = .ok (.istore_n 3, 1) := by decide +kernel
theorem dX10_slack_16 : decode cX10_slack 16 = .ok (.aload_n 0, 1) := by decide +kernel
theorem dX10_slack_17 : decode cX10_slack 17 = .ok (.getfield 21, 3) := by decide +kernel
theorem dX10_slack_20 : decode cX10_slack 20 = .ok (.iconst 0, 1) := by decide +kernel
theorem dX10_slack_21 : decode cX10_slack 21 = .ok (.invokevirtual 194, 3) := by decide +kernel
theorem dX10_slack_24 : decode cX10_slack 24 = .ok (.istore 4, 2) := by decide +kernel
theorem dX10_slack_26 : decode cX10_slack 26 = .ok (.iconst 0, 1) := by decide +kernel
theorem dX10_slack_27 : decode cX10_slack 27 = .ok (.istore 5, 2) := by decide +kernel
theorem dX10_slack_29 : decode cX10_slack 29 = .ok (.sipush 512, 3) := by decide +kernel
theorem dX10_slack_32 : decode cX10_slack 32 = .ok (.istore 6, 2) := by decide +kernel
theorem dX10_slack_34 : decode cX10_slack 34 = .ok (.iload 6, 2) := by decide +kernel
theorem dX10_slack_36 : decode cX10_slack 36 = .ok (.ifCond .le 66, 3) := by decide +kernel
theorem dX10_slack_39 : decode cX10_slack 39 = .ok (.iload 5, 2) := by decide +kernel
theorem dX10_slack_41 : decode cX10_slack 41 = .ok (.iload 6, 2) := by decide +kernel
theorem dX10_slack_43 : decode cX10_slack 43 = .ok (.iadd, 1) := by decide +kernel
theorem dX10_slack_44 : decode cX10_slack 44 = .ok (.sipush 1000, 3) := by decide +kernel
theorem dX10_slack_47 : decode cX10_slack 47 = .ok (.if_icmp .gt 46, 3) := by decide +kernel
theorem dX10_slack_50 : decode cX10_slack 50 = .ok (.aload_n 0, 1) := by decide +kernel
theorem dX10_slack_51 : decode cX10_slack 51 = .ok (.getfield 25, 3) := by decide +kernel
theorem dX10_slack_54 : decode cX10_slack 54 = .ok (.iload_n 3, 1) := by decide +kernel
theorem dX10_slack_55 : decode cX10_slack 55 = .ok (.aload_n 0, 1) := by decide +kernel
theorem dX10_slack_56 : decode cX10_slack 56 = .ok (.getfield 21, 3) := by decide +kernel
theorem dX10_slack_59 : decode cX10_slack 59 = .ok (.getfield 268, 3) := by decide +kernel
theorem dX10_slack_62 : decode cX10_slack 62 = .ok (.iload_n 3, 1) := by decide +kernel
theorem dX10_slack_63 : decode cX10_slack 63 = .ok (.iaload, 1) := by decide +kernel
theorem dX10_slack_64 : decode cX10_slack 64 = .ok (.iload 5, 2) := by decide +kernel
theorem dX10_slack_66 : decode cX10_slack 66 = .ok (.iadd, 1) := by decide +kernel
theorem dX10_slack_67 : decode cX10_slack 67 = .ok (.iload 6, 2) := by decide +kernel
theorem dX10_slack_69 : decode cX10_slack 69 = .ok (.iadd, 1) := by decide +kernel
theorem dX10_slack_70 : decode cX10_slack 70 = .ok (.invokevirtual 303, 3) := by decide +kernel
theorem dX10_slack_73 : decode cX10_slack 73 = .ok (.aload_n 0, 1) := by decide +kernel
theorem dX10_slack_74 : decode cX10_slack 74 = .ok (.getfield 25, 3) := by decide +kernel
theorem dX10_slack_77 : decode cX10_slack 77 = .ok (.iconst 0, 1) := by decide +kernel
theorem dX10_slack_78 : decode cX10_slack 78 = .ok (.invokevirtual 194, 3) := by decide +kernel
theorem dX10_slack_81 : decode cX10_slack 81 = .ok (.iload 4, 2) := by decide +kernel
theorem dX10_slack_83 : decode cX10_slack 83 = .ok (.if_icmp .gt 10, 3) := by decide +kernel
theorem dX10_slack_86 : decode cX10_slack 86 = .ok (.iload 5, 2) := by decide +kernel
theorem dX10_slack_88 : decode cX10_slack 88 = .ok (.iload 6, 2) := by decide +kernel
theorem dX10_slack_90 : decode cX10_slack 90 = .ok (.iadd, 1) := by decide +kernel
theorem dX10_slack_91 : decode cX10_slack 91 = .ok (.istore 5, 2) := by decide +kernel
theorem dX10_slack_93 : decode cX10_slack 93 = .ok (.iload 6, 2) := by decide +kernel
theorem dX10_slack_95 : decode cX10_slack 95 = .ok (.iconst 2, 1) := by decide +kernel
theorem dX10_slack_96 : decode cX10_slack 96 = .ok (.idiv, 1) := by decide +kernel
theorem dX10_slack_97 : decode cX10_slack 97 = .ok (.istore 6, 2) := by decide +kernel
theorem dX10_slack_99 : decode cX10_slack 99 = .ok (.goto (-65), 3) := by decide +kernel
theorem dX10_slack_102 : decode cX10_slack 102 = .ok (.iload 5, 2) := by decide +kernel
theorem dX10_slack_104 : decode cX10_slack 104 = .ok (.ireturn, 1) := by decide +kernel
theorem dX10_delay_0 : decode cX10_delay 0 = .ok (.aload_n 0, 1) := by decide +kernel
theorem dX10_delay_1 : decode cX10_delay 1 = .ok (.iload_n 1, 1) := by decide +kernel
theorem dX10_delay_2 : decode cX10_delay 2 = .ok (.invokevirtual 143, 3) := by decide +kernel
theorem dX10_delay_5 : decode cX10_delay 5 = .ok (.aload_n 0, 1) := by decide +kernel
theorem dX10_delay_6 : decode cX10_delay 6 = .ok (.iload_n 2, 1) := by decide +kernel
theorem dX10_delay_7 : decode cX10_delay 7 = .ok (.invokevirtual 143, 3) := by decide +kernel
theorem dX10_delay_10 : decode cX10_delay 10 = .ok (.aload_n 0, 1) := by decide +kernel
theorem dX10_delay_11 : decode cX10_delay 11 = .ok (.invokevirtual 211, 3) := by decide +kernel
theorem dX10_delay_14 : decode cX10_delay 14 = .ok (.aload_n 0, 1) := by decide +kernel
theorem dX10_delay_15 : decode cX10_delay 15 = .ok (.getfield 25, 3) := by decide +kernel
theorem dX10_delay_18 : decode cX10_delay 18 = .ok (.iload_n 1, 1) := by decide +kernel
theorem dX10_delay_19 : decode cX10_delay 19 = .ok (.invokevirtual 218, 3) := by decide +kernel
theorem dX10_delay_22 : decode cX10_delay 22 = .ok (.aload_n 0, 1) := by decide +kernel
theorem dX10_delay_23 : decode cX10_delay 23 = .ok (.getfield 25, 3) := by decide +kernel
theorem dX10_delay_26 : decode cX10_delay 26 = .ok (.iload_n 2, 1) := by decide +kernel
theorem dX10_delay_27 : decode cX10_delay 27 = .ok (.invokevirtual 271, 3) := by decide +kernel
theorem dX10_delay_30 : decode cX10_delay 30 = .ok (.aload_n 0, 1) := by decide +kernel
theorem dX10_delay_31 : decode cX10_delay 31 = .ok (.getfield 21, 3) := by decide +kernel
theorem dX10_delay_34 : decode cX10_delay 34 = .ok (.iload_n 2, 1) := by decide +kernel
theorem dX10_delay_35 : decode cX10_delay 35 = .ok (.invokevirtual 271, 3) := by decide +kernel
theorem dX10_delay_38 : decode cX10_delay 38 = .ok (.isub, 1) := by decide +kernel
theorem dX10_delay_39 : decode cX10_delay 39 = .ok (.ireturn, 1) := by decide +kernel
theorem dX10_leastSum_0 : decode cX10_leastSum 0 = .ok (.aload_n 0, 1) := by decide +kernel
theorem dX10_leastSum_1 : decode cX10_leastSum 1 = .ok (.getfield 65, 3) := by decide +kernel
theorem dX10_leastSum_4 : decode cX10_leastSum 4 = .ok (.invokevirtual 306, 3) := by decide +kernel
theorem dX10_leastSum_7 : decode cX10_leastSum 7 = .ok (.ireturn, 1) := by decide +kernel
theorem dX10_leastLateness_0 : decode cX10_leastLateness 0 = .ok (.aload_n 0, 1) := by decide +kernel
theorem dX10_leastLateness_1 : decode cX10_leastLateness 1 = .ok (.getfield 65, 3) := by decide +kernel
theorem dX10_leastLateness_4 : decode cX10_leastLateness 4 = .ok (.invokevirtual 309, 3) := by decide +kernel
theorem dX10_leastLateness_7 : decode cX10_leastLateness 7 = .ok (.ireturn, 1) := by decide +kernel
theorem dX10_fewestLate_0 : decode cX10_fewestLate 0 = .ok (.aload_n 0, 1) := by decide +kernel
theorem dX10_fewestLate_1 : decode cX10_fewestLate 1 = .ok (.getfield 65, 3) := by decide +kernel
theorem dX10_fewestLate_4 : decode cX10_fewestLate 4 = .ok (.invokevirtual 312, 3) := by decide +kernel
theorem dX10_fewestLate_7 : decode cX10_fewestLate 7 = .ok (.invokestatic 315, 3) := by decide +kernel
theorem dX10_fewestLate_10 : decode cX10_fewestLate 10 = .ok (.ireturn, 1) := by decide +kernel
theorem dX10_isDropped_0 : decode cX10_isDropped 0 = .ok (.aload_n 0, 1) := by decide +kernel
theorem dX10_isDropped_1 : decode cX10_isDropped 1 = .ok (.iload_n 1, 1) := by decide +kernel
theorem dX10_isDropped_2 : decode cX10_isDropped 2 = .ok (.invokevirtual 143, 3) := by decide +kernel
theorem dX10_isDropped_5 : decode cX10_isDropped 5 = .ok (.aload_n 0, 1) := by decide +kernel
theorem dX10_isDropped_6 : decode cX10_isDropped 6 = .ok (.getfield 65, 3) := by decide +kernel
theorem dX10_isDropped_9 : decode cX10_isDropped 9 = .ok (.invokevirtual 312, 3) := by decide +kernel
theorem dX10_isDropped_12 : decode cX10_isDropped 12 = .ok (.iconst 1, 1) := by decide +kernel
theorem dX10_isDropped_13 : decode cX10_isDropped 13 = .ok (.iload_n 1, 1) := by decide +kernel
theorem dX10_isDropped_14 : decode cX10_isDropped 14 = .ok (.ishl, 1) := by decide +kernel
theorem dX10_isDropped_15 : decode cX10_isDropped 15 = .ok (.iand, 1) := by decide +kernel
theorem dX10_isDropped_16 : decode cX10_isDropped 16 = .ok (.ifCond .eq 7, 3) := by decide +kernel
theorem dX10_isDropped_19 : decode cX10_isDropped 19 = .ok (.iconst 1, 1) := by decide +kernel
theorem dX10_isDropped_20 : decode cX10_isDropped 20 = .ok (.goto 4, 3) := by decide +kernel
theorem dX10_isDropped_23 : decode cX10_isDropped 23 = .ok (.iconst 0, 1) := by decide +kernel
theorem dX10_isDropped_24 : decode cX10_isDropped 24 = .ok (.ireturn, 1) := by decide +kernel
theorem dX10_leastEnd_0 : decode cX10_leastEnd 0 = .ok (.aload_n 0, 1) := by decide +kernel
theorem dX10_leastEnd_1 : decode cX10_leastEnd 1 = .ok (.getfield 65, 3) := by decide +kernel
theorem dX10_leastEnd_4 : decode cX10_leastEnd 4 = .ok (.invokevirtual 320, 3) := by decide +kernel
theorem dX10_leastEnd_7 : decode cX10_leastEnd 7 = .ok (.ireturn, 1) := by decide +kernel
theorem dX10_twoAt_0 : decode cX10_twoAt 0 = .ok (.aload_n 0, 1) := by decide +kernel
theorem dX10_twoAt_1 : decode cX10_twoAt 1 = .ok (.iload_n 1, 1) := by decide +kernel
theorem dX10_twoAt_2 : decode cX10_twoAt 2 = .ok (.invokevirtual 323, 3) := by decide +kernel
theorem dX10_twoAt_5 : decode cX10_twoAt 5 = .ok (.aload_n 0, 1) := by decide +kernel
theorem dX10_twoAt_6 : decode cX10_twoAt 6 = .ok (.getfield 65, 3) := by decide +kernel
theorem dX10_twoAt_9 : decode cX10_twoAt 9 = .ok (.iload_n 1, 1) := by decide +kernel
theorem dX10_twoAt_10 : decode cX10_twoAt 10 = .ok (.invokevirtual 326, 3) := by decide +kernel
theorem dX10_twoAt_13 : decode cX10_twoAt 13 = .ok (.ireturn, 1) := by decide +kernel
theorem dX10_leastSetup_0 : decode cX10_leastSetup 0 = .ok (.aload_n 0, 1) := by decide +kernel
theorem dX10_leastSetup_1 : decode cX10_leastSetup 1 = .ok (.getfield 72, 3) := by decide +kernel
theorem dX10_leastSetup_4 : decode cX10_leastSetup 4 = .ok (.invokevirtual 329, 3) := by decide +kernel
theorem dX10_leastSetup_7 : decode cX10_leastSetup 7 = .ok (.aload_n 0, 1) := by decide +kernel
theorem dX10_leastSetup_8 : decode cX10_leastSetup 8 = .ok (.getfield 72, 3) := by decide +kernel
theorem dX10_leastSetup_11 : decode cX10_leastSetup 11 = .ok (.getfield 331, 3) := by decide +kernel
theorem dX10_leastSetup_14 : decode cX10_leastSetup 14 = .ok (.ireturn, 1) := by decide +kernel
theorem dX10_setupAt_0 : decode cX10_setupAt 0 = .ok (.aload_n 0, 1) := by decide +kernel
theorem dX10_setupAt_1 : decode cX10_setupAt 1 = .ok (.iload_n 1, 1) := by decide +kernel
theorem dX10_setupAt_2 : decode cX10_setupAt 2 = .ok (.invokevirtual 323, 3) := by decide +kernel
theorem dX10_setupAt_5 : decode cX10_setupAt 5 = .ok (.aload_n 0, 1) := by decide +kernel
theorem dX10_setupAt_6 : decode cX10_setupAt 6 = .ok (.getfield 72, 3) := by decide +kernel
theorem dX10_setupAt_9 : decode cX10_setupAt 9 = .ok (.invokevirtual 329, 3) := by decide +kernel
theorem dX10_setupAt_12 : decode cX10_setupAt 12 = .ok (.aload_n 0, 1) := by decide +kernel
theorem dX10_setupAt_13 : decode cX10_setupAt 13 = .ok (.getfield 72, 3) := by decide +kernel
theorem dX10_setupAt_16 : decode cX10_setupAt 16 = .ok (.getfield 333, 3) := by decide +kernel
theorem dX10_setupAt_19 : decode cX10_setupAt 19 = .ok (.iload_n 1, 1) := by decide +kernel
theorem dX10_setupAt_20 : decode cX10_setupAt 20 = .ok (.iaload, 1) := by decide +kernel
theorem dX10_setupAt_21 : decode cX10_setupAt 21 = .ok (.ireturn, 1) := by decide +kernel
theorem dX10_match_0 : decode cX10_match 0 = .ok (.iload_n 1, 1) := by decide +kernel
theorem dX10_match_1 : decode cX10_match 1 = .ok (.invokestatic 223, 3) := by decide +kernel
theorem dX10_match_4 : decode cX10_match 4 = .ok (.aload_n 0, 1) := by decide +kernel
theorem dX10_match_5 : decode cX10_match 5 = .ok (.getfield 79, 3) := by decide +kernel
theorem dX10_match_8 : decode cX10_match 8 = .ok (.iload_n 1, 1) := by decide +kernel
theorem dX10_match_9 : decode cX10_match 9 = .ok (.invokevirtual 336, 3) := by decide +kernel
theorem dX10_match_12 : decode cX10_match 12 = .ok (.aload_n 0, 1) := by decide +kernel
theorem dX10_match_13 : decode cX10_match 13 = .ok (.getfield 79, 3) := by decide +kernel
theorem dX10_match_16 : decode cX10_match 16 = .ok (.getfield 339, 3) := by decide +kernel
theorem dX10_match_19 : decode cX10_match 19 = .ok (.ireturn, 1) := by decide +kernel
theorem dX10_workerOf_0 : decode cX10_workerOf 0 = .ok (.iload_n 2, 1) := by decide +kernel
theorem dX10_workerOf_1 : decode cX10_workerOf 1 = .ok (.invokestatic 98, 3) := by decide +kernel
theorem dX10_workerOf_4 : decode cX10_workerOf 4 = .ok (.iload_n 1, 1) := by decide +kernel
theorem dX10_workerOf_5 : decode cX10_workerOf 5 = .ok (.invokestatic 223, 3) := by decide +kernel
theorem dX10_workerOf_8 : decode cX10_workerOf 8 = .ok (.aload_n 0, 1) := by decide +kernel
theorem dX10_workerOf_9 : decode cX10_workerOf 9 = .ok (.getfield 79, 3) := by decide +kernel
theorem dX10_workerOf_12 : decode cX10_workerOf 12 = .ok (.iload_n 1, 1) := by decide +kernel
theorem dX10_workerOf_13 : decode cX10_workerOf 13 = .ok (.invokevirtual 336, 3) := by decide +kernel
theorem dX10_workerOf_16 : decode cX10_workerOf 16 = .ok (.aload_n 0, 1) := by decide +kernel
theorem dX10_workerOf_17 : decode cX10_workerOf 17 = .ok (.getfield 79, 3) := by decide +kernel
theorem dX10_workerOf_20 : decode cX10_workerOf 20 = .ok (.getfield 342, 3) := by decide +kernel
theorem dX10_workerOf_23 : decode cX10_workerOf 23 = .ok (.iload_n 2, 1) := by decide +kernel
theorem dX10_workerOf_24 : decode cX10_workerOf 24 = .ok (.iaload, 1) := by decide +kernel
theorem dX10_workerOf_25 : decode cX10_workerOf 25 = .ok (.ireturn, 1) := by decide +kernel
theorem dX10_promise_0 : decode cX10_promise 0 = .ok (.aload_n 0, 1) := by decide +kernel
theorem dX10_promise_1 : decode cX10_promise 1 = .ok (.iload_n 1, 1) := by decide +kernel
theorem dX10_promise_2 : decode cX10_promise 2 = .ok (.invokevirtual 143, 3) := by decide +kernel
theorem dX10_promise_5 : decode cX10_promise 5 = .ok (.iload_n 2, 1) := by decide +kernel
theorem dX10_promise_6 : decode cX10_promise 6 = .ok (.iconst 0, 1) := by decide +kernel
theorem dX10_promise_7 : decode cX10_promise 7 = .ok (.sipush 1000, 3) := by decide +kernel
theorem dX10_promise_10 : decode cX10_promise 10 = .ok (.invokestatic 102, 3) := by decide +kernel
theorem dX10_promise_13 : decode cX10_promise 13 = .ok (.iload_n 3, 1) := by decide +kernel
theorem dX10_promise_14 : decode cX10_promise 14 = .ok (.iconst 1, 1) := by decide +kernel
theorem dX10_promise_15 : decode cX10_promise 15 = .ok (.sipush 1000, 3) := by decide +kernel
theorem dX10_promise_18 : decode cX10_promise 18 = .ok (.invokestatic 102, 3) := by decide +kernel
theorem dX10_promise_21 : decode cX10_promise 21 = .ok (.aload_n 0, 1) := by decide +kernel
theorem dX10_promise_22 : decode cX10_promise 22 = .ok (.getfield 86, 3) := by decide +kernel
theorem dX10_promise_25 : decode cX10_promise 25 = .ok (.iload_n 1, 1) := by decide +kernel
theorem dX10_promise_26 : decode cX10_promise 26 = .ok (.iload_n 2, 1) := by decide +kernel
theorem dX10_promise_27 : decode cX10_promise 27 = .ok (.iload_n 3, 1) := by decide +kernel
theorem dX10_promise_28 : decode cX10_promise 28 = .ok (.invokevirtual 345, 3) := by decide +kernel
theorem dX10_promise_31 : decode cX10_promise 31 = .ok (.ireturn, 1) := by decide +kernel
theorem dX10_worked_0 : decode cX10_worked 0 = .ok (.iload_n 1, 1) := by decide +kernel
theorem dX10_worked_1 : decode cX10_worked 1 = .ok (.iconst 0, 1) := by decide +kernel
theorem dX10_worked_2 : decode cX10_worked 2 = .ok (.sipush 5000, 3) := by decide +kernel
theorem dX10_worked_5 : decode cX10_worked 5 = .ok (.invokestatic 102, 3) := by decide +kernel
theorem dX10_worked_8 : decode cX10_worked 8 = .ok (.iload_n 2, 1) := by decide +kernel
theorem dX10_worked_9 : decode cX10_worked 9 = .ok (.iconst 0, 1) := by decide +kernel
theorem dX10_worked_10 : decode cX10_worked 10 = .ok (.iconst 2, 1) := by decide +kernel
theorem dX10_worked_11 : decode cX10_worked 11 = .ok (.invokestatic 102, 3) := by decide +kernel
theorem dX10_worked_14 : decode cX10_worked 14 = .ok (.aload_n 0, 1) := by decide +kernel
theorem dX10_worked_15 : decode cX10_worked 15 = .ok (.invokevirtual 211, 3) := by decide +kernel
theorem dX10_worked_18 : decode cX10_worked 18 = .ok (.iconst 0, 1) := by decide +kernel
theorem dX10_worked_19 : decode cX10_worked 19 = .ok (.istore_n 3, 1) := by decide +kernel
theorem dX10_worked_20 : decode cX10_worked 20 = .ok (.iconst 0, 1) := by decide +kernel
theorem dX10_worked_21 : decode cX10_worked 21 = .ok (.istore 4, 2) := by decide +kernel
theorem dX10_worked_23 : decode cX10_worked 23 = .ok (.iload 4, 2) := by decide +kernel
theorem dX10_worked_25 : decode cX10_worked 25 = .ok (.aload_n 0, 1) := by decide +kernel
theorem dX10_worked_26 : decode cX10_worked 26 = .ok (.getfield 12, 3) := by decide +kernel
theorem dX10_worked_29 : decode cX10_worked 29 = .ok (.getfield 239, 3) := by decide +kernel
theorem dX10_worked_32 : decode cX10_worked 32 = .ok (.if_icmp .ge 61, 3) := by decide +kernel
theorem dX10_worked_35 : decode cX10_worked 35 = .ok (.aload_n 0, 1) := by decide +kernel
theorem dX10_worked_36 : decode cX10_worked 36 = .ok (.getfield 21, 3) := by decide +kernel
theorem dX10_worked_39 : decode cX10_worked 39 = .ok (.iload 4, 2) := by decide +kernel
theorem dX10_worked_41 : decode cX10_worked 41 = .ok (.invokevirtual 271, 3) := by decide +kernel
theorem dX10_worked_44 : decode cX10_worked 44 = .ok (.iload_n 1, 1) := by decide +kernel
theorem dX10_worked_45 : decode cX10_worked 45 = .ok (.if_icmp .gt 7, 3) := by decide +kernel
theorem dX10_worked_48 : decode cX10_worked 48 = .ok (.iconst 1, 1) := by decide +kernel
theorem dX10_worked_49 : decode cX10_worked 49 = .ok (.goto 4, 3) := by decide +kernel
theorem dX10_worked_52 : decode cX10_worked 52 = .ok (.iconst 0, 1) := by decide +kernel
theorem dX10_worked_53 : decode cX10_worked 53 = .ok (.istore 5, 2) := by decide +kernel
theorem dX10_worked_55 : decode cX10_worked 55 = .ok (.iload_n 2, 1) := by decide +kernel
theorem dX10_worked_56 : decode cX10_worked 56 = .ok (.ifCond .eq 18, 3) := by decide +kernel
theorem dX10_worked_59 : decode cX10_worked 59 = .ok (.iload 5, 2) := by decide +kernel
theorem dX10_worked_61 : decode cX10_worked 61 = .ok (.iload_n 2, 1) := by decide +kernel
theorem dX10_worked_62 : decode cX10_worked 62 = .ok (.iconst 1, 1) := by decide +kernel
theorem dX10_worked_63 : decode cX10_worked 63 = .ok (.if_icmp .ne 7, 3) := by decide +kernel
theorem dX10_worked_66 : decode cX10_worked 66 = .ok (.iconst 1, 1) := by decide +kernel
theorem dX10_worked_67 : decode cX10_worked 67 = .ok (.goto 4, 3) := by decide +kernel
theorem dX10_worked_70 : decode cX10_worked 70 = .ok (.iconst 0, 1) := by decide +kernel
theorem dX10_worked_71 : decode cX10_worked 71 = .ok (.if_icmp .ne 16, 3) := by decide +kernel
theorem dX10_worked_74 : decode cX10_worked 74 = .ok (.iload_n 3, 1) := by decide +kernel
theorem dX10_worked_75 : decode cX10_worked 75 = .ok (.aload_n 0, 1) := by decide +kernel
theorem dX10_worked_76 : decode cX10_worked 76 = .ok (.getfield 21, 3) := by decide +kernel
theorem dX10_worked_79 : decode cX10_worked 79 = .ok (.iload 4, 2) := by decide +kernel
theorem dX10_worked_81 : decode cX10_worked 81 = .ok (.iload_n 1, 1) := by decide +kernel
theorem dX10_worked_82 : decode cX10_worked 82 = .ok (.invokevirtual 348, 3) := by decide +kernel
theorem dX10_worked_85 : decode cX10_worked 85 = .ok (.iadd, 1) := by decide +kernel
theorem dX10_worked_86 : decode cX10_worked 86 = .ok (.istore_n 3, 1) := by decide +kernel
theorem dX10_worked_87 : decode cX10_worked 87 = .ok (.iinc 4 1, 3) := by decide +kernel
theorem dX10_worked_90 : decode cX10_worked 90 = .ok (.goto (-67), 3) := by decide +kernel
theorem dX10_worked_93 : decode cX10_worked 93 = .ok (.iload_n 3, 1) := by decide +kernel
theorem dX10_worked_94 : decode cX10_worked 94 = .ok (.ireturn, 1) := by decide +kernel
theorem dX10_meanEnd_0 : decode cX10_meanEnd 0 = .ok (.aload_n 0, 1) := by decide +kernel
theorem dX10_meanEnd_1 : decode cX10_meanEnd 1 = .ok (.invokevirtual 211, 3) := by decide +kernel
theorem dX10_meanEnd_4 : decode cX10_meanEnd 4 = .ok (.aload_n 0, 1) := by decide +kernel
theorem dX10_meanEnd_5 : decode cX10_meanEnd 5 = .ok (.getfield 12, 3) := by decide +kernel
theorem dX10_meanEnd_8 : decode cX10_meanEnd 8 = .ok (.getfield 239, 3) := by decide +kernel
theorem dX10_meanEnd_11 : decode cX10_meanEnd 11 = .ok (.ifCond .ne 5, 3) := by decide +kernel
theorem dX10_meanEnd_14 : decode cX10_meanEnd 14 = .ok (.dconst 0, 1) := by decide +kernel
theorem dX10_meanEnd_15 : decode cX10_meanEnd 15 = .ok (.dreturn, 1) := by decide +kernel
theorem dX10_meanEnd_16 : decode cX10_meanEnd 16 = .ok (.aload_n 0, 1) := by decide +kernel
theorem dX10_meanEnd_17 : decode cX10_meanEnd 17 = .ok (.getfield 21, 3) := by decide +kernel
theorem dX10_meanEnd_20 : decode cX10_meanEnd 20 = .ok (.iconst 1, 1) := by decide +kernel
theorem dX10_meanEnd_21 : decode cX10_meanEnd 21 = .ok (.invokevirtual 194, 3) := by decide +kernel
theorem dX10_meanEnd_24 : decode cX10_meanEnd 24 = .ok (.i2d, 1) := by decide +kernel
theorem dX10_meanEnd_25 : decode cX10_meanEnd 25 = .ok (.aload_n 0, 1) := by decide +kernel
theorem dX10_meanEnd_26 : decode cX10_meanEnd 26 = .ok (.getfield 12, 3) := by decide +kernel
theorem dX10_meanEnd_29 : decode cX10_meanEnd 29 = .ok (.getfield 239, 3) := by decide +kernel
theorem dX10_meanEnd_32 : decode cX10_meanEnd 32 = .ok (.i2d, 1) := by decide +kernel
theorem dX10_meanEnd_33 : decode cX10_meanEnd 33 = .ok (.ddiv, 1) := by decide +kernel
theorem dX10_meanEnd_34 : decode cX10_meanEnd 34 = .ok (.dreturn, 1) := by decide +kernel
theorem dX10_use_0 : decode cX10_use 0 = .ok (.iload_n 1, 1) := by decide +kernel
theorem dX10_use_1 : decode cX10_use 1 = .ok (.invokestatic 98, 3) := by decide +kernel
theorem dX10_use_4 : decode cX10_use 4 = .ok (.aload_n 0, 1) := by decide +kernel
theorem dX10_use_5 : decode cX10_use 5 = .ok (.invokevirtual 211, 3) := by decide +kernel
theorem dX10_use_8 : decode cX10_use 8 = .ok (.aload_n 0, 1) := by decide +kernel
theorem dX10_use_9 : decode cX10_use 9 = .ok (.getfield 21, 3) := by decide +kernel
theorem dX10_use_12 : decode cX10_use 12 = .ok (.iconst 0, 1) := by decide +kernel
theorem dX10_use_13 : decode cX10_use 13 = .ok (.invokevirtual 194, 3) := by decide +kernel
theorem dX10_use_16 : decode cX10_use 16 = .ok (.istore_n 2, 1) := by decide +kernel
theorem dX10_use_17 : decode cX10_use 17 = .ok (.iload_n 2, 1) := by decide +kernel
theorem dX10_use_18 : decode cX10_use 18 = .ok (.ifCond .ne 5, 3) := by decide +kernel
theorem dX10_use_21 : decode cX10_use 21 = .ok (.fconst 0, 1) := by decide +kernel
theorem dX10_use_22 : decode cX10_use 22 = .ok (.freturn, 1) := by decide +kernel
theorem dX10_use_23 : decode cX10_use 23 = .ok (.aload_n 0, 1) := by decide +kernel
theorem dX10_use_24 : decode cX10_use 24 = .ok (.getfield 12, 3) := by decide +kernel
theorem dX10_use_27 : decode cX10_use 27 = .ok (.iload_n 1, 1) := by decide +kernel
theorem dX10_use_28 : decode cX10_use 28 = .ok (.invokevirtual 351, 3) := by decide +kernel
theorem dX10_use_31 : decode cX10_use 31 = .ok (.i2f, 1) := by decide +kernel
theorem dX10_use_32 : decode cX10_use 32 = .ok (.iload_n 2, 1) := by decide +kernel
theorem dX10_use_33 : decode cX10_use 33 = .ok (.i2f, 1) := by decide +kernel
theorem dX10_use_34 : decode cX10_use 34 = .ok (.fdiv, 1) := by decide +kernel
theorem dX10_use_35 : decode cX10_use 35 = .ok (.freturn, 1) := by decide +kernel
theorem dX10_errors_0 : decode cX10_errors 0 = .ok (.aload_n 0, 1) := by decide +kernel
theorem dX10_errors_1 : decode cX10_errors 1 = .ok (.getfield 12, 3) := by decide +kernel
theorem dX10_errors_4 : decode cX10_errors 4 = .ok (.getfield 354, 3) := by decide +kernel
theorem dX10_errors_7 : decode cX10_errors 7 = .ok (.ifCond .ne 5, 3) := by decide +kernel
theorem dX10_errors_10 : decode cX10_errors 10 = .ok (.iconst 0, 1) := by decide +kernel
theorem dX10_errors_11 : decode cX10_errors 11 = .ok (.ireturn, 1) := by decide +kernel
theorem dX10_errors_12 : decode cX10_errors 12 = .ok (.aload_n 0, 1) := by decide +kernel
theorem dX10_errors_13 : decode cX10_errors 13 = .ok (.getfield 21, 3) := by decide +kernel
theorem dX10_errors_16 : decode cX10_errors 16 = .ok (.iconst 0, 1) := by decide +kernel
theorem dX10_errors_17 : decode cX10_errors 17 = .ok (.invokevirtual 194, 3) := by decide +kernel
theorem dX10_errors_20 : decode cX10_errors 20 = .ok (.aload_n 0, 1) := by decide +kernel
theorem dX10_errors_21 : decode cX10_errors 21 = .ok (.getfield 12, 3) := by decide +kernel
theorem dX10_errors_24 : decode cX10_errors 24 = .ok (.invokevirtual 274, 3) := by decide +kernel
theorem dX10_errors_27 : decode cX10_errors 27 = .ok (.if_icmp .ge 7, 3) := by decide +kernel
theorem dX10_errors_30 : decode cX10_errors 30 = .ok (.iconst 1, 1) := by decide +kernel
theorem dX10_errors_31 : decode cX10_errors 31 = .ok (.goto 4, 3) := by decide +kernel
theorem dX10_errors_34 : decode cX10_errors 34 = .ok (.iconst 0, 1) := by decide +kernel
theorem dX10_errors_35 : decode cX10_errors 35 = .ok (.istore_n 1, 1) := by decide +kernel
theorem dX10_errors_36 : decode cX10_errors 36 = .ok (.aload_n 0, 1) := by decide +kernel
theorem dX10_errors_37 : decode cX10_errors 37 = .ok (.getfield 58, 3) := by decide +kernel
theorem dX10_errors_40 : decode cX10_errors 40 = .ok (.invokevirtual 358, 3) := by decide +kernel
theorem dX10_errors_43 : decode cX10_errors 43 = .ok (.iload_n 1, 1) := by decide +kernel
theorem dX10_errors_44 : decode cX10_errors 44 = .ok (.iadd, 1) := by decide +kernel
theorem dX10_errors_45 : decode cX10_errors 45 = .ok (.ireturn, 1) := by decide +kernel
theorem dX10_needMachine_0 : decode cX10_needMachine 0 = .ok (.iload_n 0, 1) := by decide +kernel
theorem dX10_needMachine_1 : decode cX10_needMachine 1 = .ok (.ifCond .lt 8, 3) := by decide +kernel
theorem dX10_needMachine_4 : decode cX10_needMachine 4 = .ok (.iload_n 0, 1) := by decide +kernel
theorem dX10_needMachine_5 : decode cX10_needMachine 5 = .ok (.iconst 4, 1) := by decide +kernel
theorem dX10_needMachine_6 : decode cX10_needMachine 6 = .ok (.if_icmp .lt 14, 3) := by decide +kernel
theorem dX10_needMachine_9 : decode cX10_needMachine 9 = .ok (.new 200, 3) := by decide +kernel
theorem dX10_needMachine_12 : decode cX10_needMachine 12 = .ok (.dup, 1) := by decide +kernel
theorem dX10_needMachine_13 : decode cX10_needMachine 13 = .ok (.ldc_w 361, 3) := by decide +kernel
theorem dX10_needMachine_16 : decode cX10_needMachine 16 = .ok (.invokespecial 204, 3) := by decide +kernel
theorem dX10_needMachine_19 : decode cX10_needMachine 19 = .ok (.athrow, 1) := by decide +kernel
theorem dX10_needMachine_20 : decode cX10_needMachine 20 = .ok (.return_, 1) := by decide +kernel
theorem dX10_needKind_0 : decode cX10_needKind 0 = .ok (.iload_n 0, 1) := by decide +kernel
theorem dX10_needKind_1 : decode cX10_needKind 1 = .ok (.ifCond .lt 8, 3) := by decide +kernel
theorem dX10_needKind_4 : decode cX10_needKind 4 = .ok (.iload_n 0, 1) := by decide +kernel
theorem dX10_needKind_5 : decode cX10_needKind 5 = .ok (.iconst 4, 1) := by decide +kernel
theorem dX10_needKind_6 : decode cX10_needKind 6 = .ok (.if_icmp .lt 14, 3) := by decide +kernel
theorem dX10_needKind_9 : decode cX10_needKind 9 = .ok (.new 200, 3) := by decide +kernel
theorem dX10_needKind_12 : decode cX10_needKind 12 = .ok (.dup, 1) := by decide +kernel
theorem dX10_needKind_13 : decode cX10_needKind 13 = .ok (.ldc_w 363, 3) := by decide +kernel
theorem dX10_needKind_16 : decode cX10_needKind 16 = .ok (.invokespecial 204, 3) := by decide +kernel
theorem dX10_needKind_19 : decode cX10_needKind 19 = .ok (.athrow, 1) := by decide +kernel
theorem dX10_needKind_20 : decode cX10_needKind 20 = .ok (.return_, 1) := by decide +kernel
theorem dX10_needJob_0 : decode cX10_needJob 0 = .ok (.iload_n 1, 1) := by decide +kernel
theorem dX10_needJob_1 : decode cX10_needJob 1 = .ok (.ifCond .lt 14, 3) := by decide +kernel
theorem dX10_needJob_4 : decode cX10_needJob 4 = .ok (.iload_n 1, 1) := by decide +kernel
theorem dX10_needJob_5 : decode cX10_needJob 5 = .ok (.aload_n 0, 1) := by decide +kernel
theorem dX10_needJob_6 : decode cX10_needJob 6 = .ok (.getfield 12, 3) := by decide +kernel
theorem dX10_needJob_9 : decode cX10_needJob 9 = .ok (.getfield 239, 3) := by decide +kernel
theorem dX10_needJob_12 : decode cX10_needJob 12 = .ok (.if_icmp .lt 14, 3) := by decide +kernel
theorem dX10_needJob_15 : decode cX10_needJob 15 = .ok (.new 200, 3) := by decide +kernel
theorem dX10_needJob_18 : decode cX10_needJob 18 = .ok (.dup, 1) := by decide +kernel
theorem dX10_needJob_19 : decode cX10_needJob 19 = .ok (.ldc_w 365, 3) := by decide +kernel
theorem dX10_needJob_22 : decode cX10_needJob 22 = .ok (.invokespecial 204, 3) := by decide +kernel
theorem dX10_needJob_25 : decode cX10_needJob 25 = .ok (.athrow, 1) := by decide +kernel
theorem dX10_needJob_26 : decode cX10_needJob 26 = .ok (.return_, 1) := by decide +kernel
theorem dX10_needStep_0 : decode cX10_needStep 0 = .ok (.aload_n 0, 1) := by decide +kernel
theorem dX10_needStep_1 : decode cX10_needStep 1 = .ok (.iload_n 1, 1) := by decide +kernel
theorem dX10_needStep_2 : decode cX10_needStep 2 = .ok (.invokevirtual 143, 3) := by decide +kernel
theorem dX10_needStep_5 : decode cX10_needStep 5 = .ok (.iload_n 2, 1) := by decide +kernel
theorem dX10_needStep_6 : decode cX10_needStep 6 = .ok (.ifCond .lt 16, 3) := by decide +kernel
theorem dX10_needStep_9 : decode cX10_needStep 9 = .ok (.iload_n 2, 1) := by decide +kernel
theorem dX10_needStep_10 : decode cX10_needStep 10 = .ok (.aload_n 0, 1) := by decide +kernel
theorem dX10_needStep_11 : decode cX10_needStep 11 = .ok (.getfield 12, 3) := by decide +kernel
theorem dX10_needStep_14 : decode cX10_needStep 14 = .ok (.getfield 146, 3) := by decide +kernel
theorem dX10_needStep_17 : decode cX10_needStep 17 = .ok (.iload_n 1, 1) := by decide +kernel
theorem dX10_needStep_18 : decode cX10_needStep 18 = .ok (.iaload, 1) := by decide +kernel
theorem dX10_needStep_19 : decode cX10_needStep 19 = .ok (.if_icmp .lt 14, 3) := by decide +kernel
theorem dX10_needStep_22 : decode cX10_needStep 22 = .ok (.new 200, 3) := by decide +kernel
theorem dX10_needStep_25 : decode cX10_needStep 25 = .ok (.dup, 1) := by decide +kernel
theorem dX10_needStep_26 : decode cX10_needStep 26 = .ok (.ldc_w 367, 3) := by decide +kernel
theorem dX10_needStep_29 : decode cX10_needStep 29 = .ok (.invokespecial 204, 3) := by decide +kernel
theorem dX10_needStep_32 : decode cX10_needStep 32 = .ok (.athrow, 1) := by decide +kernel
theorem dX10_needStep_33 : decode cX10_needStep 33 = .ok (.return_, 1) := by decide +kernel
theorem dX10_needPlaceOfJob_0 : decode cX10_needPlaceOfJob 0 = .ok (.iload_n 1, 1) := by decide +kernel
theorem dX10_needPlaceOfJob_1 : decode cX10_needPlaceOfJob 1 = .ok (.ifCond .lt 14, 3) := by decide +kernel
theorem dX10_needPlaceOfJob_4 : decode cX10_needPlaceOfJob 4 = .ok (.iload_n 1, 1) := by decide +kernel
theorem dX10_needPlaceOfJob_5 : decode cX10_needPlaceOfJob 5 = .ok (.aload_n 0, 1) := by decide +kernel
theorem dX10_needPlaceOfJob_6 : decode cX10_needPlaceOfJob 6 = .ok (.getfield 12, 3) := by decide +kernel
theorem dX10_needPlaceOfJob_9 : decode cX10_needPlaceOfJob 9 = .ok (.getfield 239, 3) := by decide +kernel
theorem dX10_needPlaceOfJob_12 : decode cX10_needPlaceOfJob 12 = .ok (.if_icmp .lt 14, 3) := by decide +kernel
theorem dX10_needPlaceOfJob_15 : decode cX10_needPlaceOfJob 15 = .ok (.new 200, 3) := by decide +kernel
theorem dX10_needPlaceOfJob_18 : decode cX10_needPlaceOfJob 18 = .ok (.dup, 1) := by decide +kernel
theorem dX10_needPlaceOfJob_19 : decode cX10_needPlaceOfJob 19 = .ok (.ldc_w 277, 3) := by decide +kernel
theorem dX10_needPlaceOfJob_22 : decode cX10_needPlaceOfJob 22 = .ok (.invokespecial 204, 3) := by decide +kernel
theorem dX10_needPlaceOfJob_25 : decode cX10_needPlaceOfJob 25 = .ok (.athrow, 1) := by decide +kernel
theorem dX10_needPlaceOfJob_26 : decode cX10_needPlaceOfJob 26 = .ok (.return_, 1) := by decide +kernel
theorem dX10_needRange_0 : decode cX10_needRange 0 = .ok (.iload_n 0, 1) := by decide +kernel
theorem dX10_needRange_1 : decode cX10_needRange 1 = .ok (.iload_n 1, 1) := by decide +kernel
theorem dX10_needRange_2 : decode cX10_needRange 2 = .ok (.if_icmp .lt 8, 3) := by decide +kernel
theorem dX10_needRange_5 : decode cX10_needRange 5 = .ok (.iload_n 0, 1) := by decide +kernel
theorem dX10_needRange_6 : decode cX10_needRange 6 = .ok (.iload_n 2, 1) := by decide +kernel
theorem dX10_needRange_7 : decode cX10_needRange 7 = .ok (.if_icmp .le 14, 3) := by decide +kernel
theorem dX10_needRange_10 : decode cX10_needRange 10 = .ok (.new 178, 3) := by decide +kernel
theorem dX10_needRange_13 : decode cX10_needRange 13 = .ok (.dup, 1) := by decide +kernel
theorem dX10_needRange_14 : decode cX10_needRange 14 = .ok (.ldc_w 369, 3) := by decide +kernel
theorem dX10_needRange_17 : decode cX10_needRange 17 = .ok (.invokespecial 182, 3) := by decide +kernel
theorem dX10_needRange_20 : decode cX10_needRange 20 = .ok (.athrow, 1) := by decide +kernel
theorem dX10_needRange_21 : decode cX10_needRange 21 = .ok (.return_, 1) := by decide +kernel
theorem dX10_needRule_0 : decode cX10_needRule 0 = .ok (.iload_n 0, 1) := by decide +kernel
theorem dX10_needRule_1 : decode cX10_needRule 1 = .ok (.iconst 0, 1) := by decide +kernel
theorem dX10_needRule_2 : decode cX10_needRule 2 = .ok (.bipush 7, 2) := by decide +kernel
theorem dX10_needRule_4 : decode cX10_needRule 4 = .ok (.invokestatic 102, 3) := by decide +kernel
theorem dX10_needRule_7 : decode cX10_needRule 7 = .ok (.return_, 1) := by decide +kernel
theorem dX10_needAim_0 : decode cX10_needAim 0 = .ok (.iload_n 0, 1) := by decide +kernel
theorem dX10_needAim_1 : decode cX10_needAim 1 = .ok (.iconst 0, 1) := by decide +kernel
theorem dX10_needAim_2 : decode cX10_needAim 2 = .ok (.iconst 4, 1) := by decide +kernel
theorem dX10_needAim_3 : decode cX10_needAim 3 = .ok (.invokestatic 102, 3) := by decide +kernel
theorem dX10_needAim_6 : decode cX10_needAim 6 = .ok (.return_, 1) := by decide +kernel
theorem dX10_needMachines_0 : decode cX10_needMachines 0 = .ok (.iload_n 0, 1) := by decide +kernel
theorem dX10_needMachines_1 : decode cX10_needMachines 1 = .ok (.iconst 0, 1) := by decide +kernel
theorem dX10_needMachines_2 : decode cX10_needMachines 2 = .ok (.bipush 15, 2) := by decide +kernel
theorem dX10_needMachines_4 : decode cX10_needMachines 4 = .ok (.invokestatic 102, 3) := by decide +kernel
theorem dX10_needMachines_7 : decode cX10_needMachines 7 = .ok (.return_, 1) := by decide +kernel
theorem dX10_needRoomForJob_0 : decode cX10_needRoomForJob 0 = .ok (.aload_n 0, 1) := by decide +kernel
theorem dX10_needRoomForJob_1 : decode cX10_needRoomForJob 1 = .ok (.getfield 12, 3) := by decide +kernel
theorem dX10_needRoomForJob_4 : decode cX10_needRoomForJob 4 = .ok (.getfield 239, 3) := by decide +kernel
theorem dX10_needRoomForJob_7 : decode cX10_needRoomForJob 7 = .ok (.bipush 6, 2) := by decide +kernel
theorem dX10_needRoomForJob_9 : decode cX10_needRoomForJob 9 = .ok (.if_icmp .lt 14, 3) := by decide +kernel
theorem dX10_needRoomForJob_12 : decode cX10_needRoomForJob 12 = .ok (.new 109, 3) := by decide +kernel
theorem dX10_needRoomForJob_15 : decode cX10_needRoomForJob 15 = .ok (.dup, 1) := by decide +kernel
theorem dX10_needRoomForJob_16 : decode cX10_needRoomForJob 16 = .ok (.ldc_w 371, 3) := by decide +kernel
theorem dX10_needRoomForJob_19 : decode cX10_needRoomForJob 19 = .ok (.invokespecial 113, 3) := by decide +kernel
theorem dX10_needRoomForJob_22 : decode cX10_needRoomForJob 22 = .ok (.athrow, 1) := by decide +kernel
theorem dX10_needRoomForJob_23 : decode cX10_needRoomForJob 23 = .ok (.return_, 1) := by decide +kernel
theorem dX10_needPlan_0 : decode cX10_needPlan 0 = .ok (.aload_n 0, 1) := by decide +kernel
theorem dX10_needPlan_1 : decode cX10_needPlan 1 = .ok (.getfield 12, 3) := by decide +kernel
theorem dX10_needPlan_4 : decode cX10_needPlan 4 = .ok (.getfield 354, 3) := by decide +kernel
theorem dX10_needPlan_7 : decode cX10_needPlan 7 = .ok (.ifCond .ne 14, 3) := by decide +kernel
theorem dX10_needPlan_10 : decode cX10_needPlan 10 = .ok (.new 109, 3) := by decide +kernel
theorem dX10_needPlan_13 : decode cX10_needPlan 13 = .ok (.dup, 1) := by decide +kernel
theorem dX10_needPlan_14 : decode cX10_needPlan 14 = .ok (.ldc_w 373, 3) := by decide +kernel
theorem dX10_needPlan_17 : decode cX10_needPlan 17 = .ok (.invokespecial 113, 3) := by decide +kernel
theorem dX10_needPlan_20 : decode cX10_needPlan 20 = .ok (.athrow, 1) := by decide +kernel
theorem dX10_needPlan_21 : decode cX10_needPlan 21 = .ok (.return_, 1) := by decide +kernel
theorem dX10_told_0 : decode cX10_told 0 = .ok (.bipush 10, 2) := by decide +kernel
theorem dX10_told_2 : decode cX10_told 2 = .ok (.iload_n 0, 1) := by decide +kernel
theorem dX10_told_3 : decode cX10_told 3 = .ok (.iconst 5, 1) := by decide +kernel
theorem dX10_told_4 : decode cX10_told 4 = .ok (.idiv, 1) := by decide +kernel
theorem dX10_told_5 : decode cX10_told 5 = .ok (.imul, 1) := by decide +kernel
theorem dX10_told_6 : decode cX10_told 6 = .ok (.iload_n 0, 1) := by decide +kernel
theorem dX10_told_7 : decode cX10_told 7 = .ok (.iconst 5, 1) := by decide +kernel
theorem dX10_told_8 : decode cX10_told 8 = .ok (.irem, 1) := by decide +kernel
theorem dX10_told_9 : decode cX10_told 9 = .ok (.iadd, 1) := by decide +kernel
theorem dX10_told_10 : decode cX10_told 10 = .ok (.ireturn, 1) := by decide +kernel
theorem dX10_remember_0 : decode cX10_remember 0 = .ok (.aload_n 0, 1) := by decide +kernel
theorem dX10_remember_1 : decode cX10_remember 1 = .ok (.getfield 28, 3) := by decide +kernel
theorem dX10_remember_4 : decode cX10_remember 4 = .ok (.aload_n 0, 1) := by decide +kernel
theorem dX10_remember_5 : decode cX10_remember 5 = .ok (.getfield 233, 3) := by decide +kernel
theorem dX10_remember_8 : decode cX10_remember 8 = .ok (.aaload, 1) := by decide +kernel
theorem dX10_remember_9 : decode cX10_remember 9 = .ok (.astore_n 1, 1) := by decide +kernel
theorem dX10_remember_10 : decode cX10_remember 10 = .ok (.aload_n 1, 1) := by decide +kernel
theorem dX10_remember_11 : decode cX10_remember 11 = .ok (.ifnonnull 21, 3) := by decide +kernel
theorem dX10_remember_14 : decode cX10_remember 14 = .ok (.new 9, 3) := by decide +kernel
theorem dX10_remember_17 : decode cX10_remember 17 = .ok (.dup, 1) := by decide +kernel
theorem dX10_remember_18 : decode cX10_remember 18 = .ok (.invokespecial 11, 3) := by decide +kernel
theorem dX10_remember_21 : decode cX10_remember 21 = .ok (.astore_n 1, 1) := by decide +kernel
theorem dX10_remember_22 : decode cX10_remember 22 = .ok (.aload_n 0, 1) := by decide +kernel
theorem dX10_remember_23 : decode cX10_remember 23 = .ok (.getfield 28, 3) := by decide +kernel
theorem dX10_remember_26 : decode cX10_remember 26 = .ok (.aload_n 0, 1) := by decide +kernel
theorem dX10_remember_27 : decode cX10_remember 27 = .ok (.getfield 233, 3) := by decide +kernel
theorem dX10_remember_30 : decode cX10_remember 30 = .ok (.aload_n 1, 1) := by decide +kernel
theorem dX10_remember_31 : decode cX10_remember 31 = .ok (.aastore, 1) := by decide +kernel
theorem dX10_remember_32 : decode cX10_remember 32 = .ok (.aload_n 1, 1) := by decide +kernel
theorem dX10_remember_33 : decode cX10_remember 33 = .ok (.aload_n 0, 1) := by decide +kernel
theorem dX10_remember_34 : decode cX10_remember 34 = .ok (.getfield 12, 3) := by decide +kernel
theorem dX10_remember_37 : decode cX10_remember 37 = .ok (.invokevirtual 236, 3) := by decide +kernel
theorem dX10_remember_40 : decode cX10_remember 40 = .ok (.aload_n 0, 1) := by decide +kernel
theorem dX10_remember_41 : decode cX10_remember 41 = .ok (.aload_n 0, 1) := by decide +kernel
theorem dX10_remember_42 : decode cX10_remember 42 = .ok (.getfield 233, 3) := by decide +kernel
theorem dX10_remember_45 : decode cX10_remember 45 = .ok (.iconst 1, 1) := by decide +kernel
theorem dX10_remember_46 : decode cX10_remember 46 = .ok (.iadd, 1) := by decide +kernel
theorem dX10_remember_47 : decode cX10_remember 47 = .ok (.bipush 8, 2) := by decide +kernel
theorem dX10_remember_49 : decode cX10_remember 49 = .ok (.irem, 1) := by decide +kernel
theorem dX10_remember_50 : decode cX10_remember 50 = .ok (.putfield 233, 3) := by decide +kernel
theorem dX10_remember_53 : decode cX10_remember 53 = .ok (.aload_n 0, 1) := by decide +kernel
theorem dX10_remember_54 : decode cX10_remember 54 = .ok (.aload_n 0, 1) := by decide +kernel
theorem dX10_remember_55 : decode cX10_remember 55 = .ok (.getfield 229, 3) := by decide +kernel
theorem dX10_remember_58 : decode cX10_remember 58 = .ok (.iconst 1, 1) := by decide +kernel
theorem dX10_remember_59 : decode cX10_remember 59 = .ok (.iadd, 1) := by decide +kernel
theorem dX10_remember_60 : decode cX10_remember 60 = .ok (.bipush 8, 2) := by decide +kernel
theorem dX10_remember_62 : decode cX10_remember 62 = .ok (.invokestatic 375, 3) := by decide +kernel
theorem dX10_remember_65 : decode cX10_remember 65 = .ok (.putfield 229, 3) := by decide +kernel
theorem dX10_remember_68 : decode cX10_remember 68 = .ok (.return_, 1) := by decide +kernel
theorem dX10_dropPlan_0 : decode cX10_dropPlan 0 = .ok (.aload_n 0, 1) := by decide +kernel
theorem dX10_dropPlan_1 : decode cX10_dropPlan 1 = .ok (.getfield 12, 3) := by decide +kernel
theorem dX10_dropPlan_4 : decode cX10_dropPlan 4 = .ok (.iconst 0, 1) := by decide +kernel
theorem dX10_dropPlan_5 : decode cX10_dropPlan 5 = .ok (.putfield 354, 3) := by decide +kernel
theorem dX10_dropPlan_8 : decode cX10_dropPlan 8 = .ok (.aload_n 0, 1) := by decide +kernel
theorem dX10_dropPlan_9 : decode cX10_dropPlan 9 = .ok (.getfield 21, 3) := by decide +kernel
theorem dX10_dropPlan_12 : decode cX10_dropPlan 12 = .ok (.invokevirtual 122, 3) := by decide +kernel
theorem dX10_dropPlan_15 : decode cX10_dropPlan 15 = .ok (.return_, 1) := by decide +kernel
theorem dX10_adoptTrial_0 : decode cX10_adoptTrial 0 = .ok (.aload_n 0, 1) := by decide +kernel
theorem dX10_adoptTrial_1 : decode cX10_adoptTrial 1 = .ok (.invokevirtual 116, 3) := by decide +kernel
theorem dX10_adoptTrial_4 : decode cX10_adoptTrial 4 = .ok (.aload_n 0, 1) := by decide +kernel
theorem dX10_adoptTrial_5 : decode cX10_adoptTrial 5 = .ok (.getfield 12, 3) := by decide +kernel
theorem dX10_adoptTrial_8 : decode cX10_adoptTrial 8 = .ok (.aload_n 0, 1) := by decide +kernel
theorem dX10_adoptTrial_9 : decode cX10_adoptTrial 9 = .ok (.getfield 25, 3) := by decide +kernel
theorem dX10_adoptTrial_12 : decode cX10_adoptTrial 12 = .ok (.getfield 380, 3) := by decide +kernel
theorem dX10_adoptTrial_15 : decode cX10_adoptTrial 15 = .ok (.invokevirtual 383, 3) := by decide +kernel
theorem dX10_adoptTrial_18 : decode cX10_adoptTrial 18 = .ok (.aload_n 0, 1) := by decide +kernel
theorem dX10_adoptTrial_19 : decode cX10_adoptTrial 19 = .ok (.getfield 21, 3) := by decide +kernel
theorem dX10_adoptTrial_22 : decode cX10_adoptTrial 22 = .ok (.invokevirtual 122, 3) := by decide +kernel
theorem dX10_adoptTrial_25 : decode cX10_adoptTrial 25 = .ok (.aload_n 0, 1) := by decide +kernel
theorem dX10_adoptTrial_26 : decode cX10_adoptTrial 26 = .ok (.getfield 21, 3) := by decide +kernel
theorem dX10_adoptTrial_29 : decode cX10_adoptTrial 29 = .ok (.iconst 0, 1) := by decide +kernel
theorem dX10_adoptTrial_30 : decode cX10_adoptTrial 30 = .ok (.invokevirtual 194, 3) := by decide +kernel
theorem dX10_adoptTrial_33 : decode cX10_adoptTrial 33 = .ok (.ireturn, 1) := by decide +kernel
theorem dX10_putDigits_0 : decode cX10_putDigits 0 = .ok (.iconst 0, 1) := by decide +kernel
theorem dX10_putDigits_1 : decode cX10_putDigits 1 = .ok (.istore_n 3, 1) := by decide +kernel
theorem dX10_putDigits_2 : decode cX10_putDigits 2 = .ok (.lload_n 1, 1) := by decide +kernel
theorem dX10_putDigits_3 : decode cX10_putDigits 3 = .ok (.lstore 4, 2) := by decide +kernel
theorem dX10_putDigits_5 : decode cX10_putDigits 5 = .ok (.lload 4, 2) := by decide +kernel
theorem dX10_putDigits_7 : decode cX10_putDigits 7 = .ok (.lconst 0, 1) := by decide +kernel
theorem dX10_putDigits_8 : decode cX10_putDigits 8 = .ok (.lcmp, 1) := by decide +kernel
theorem dX10_putDigits_9 : decode cX10_putDigits 9 = .ok (.ifCond .le 36, 3) := by decide +kernel
theorem dX10_putDigits_12 : decode cX10_putDigits 12 = .ok (.iload_n 3, 1) := by decide +kernel
theorem dX10_putDigits_13 : decode cX10_putDigits 13 = .ok (.bipush 19, 2) := by decide +kernel
theorem dX10_putDigits_15 : decode cX10_putDigits 15 = .ok (.if_icmp .ge 30, 3) := by decide +kernel
theorem dX10_putDigits_18 : decode cX10_putDigits 18 = .ok (.aload_n 0, 1) := by decide +kernel
theorem dX10_putDigits_19 : decode cX10_putDigits 19 = .ok (.getfield 32, 3) := by decide +kernel
theorem dX10_putDigits_22 : decode cX10_putDigits 22 = .ok (.iload_n 3, 1) := by decide +kernel
theorem dX10_putDigits_23 : decode cX10_putDigits 23 = .ok (.lload 4, 2) := by decide +kernel
theorem dX10_putDigits_25 : decode cX10_putDigits 25 = .ok (.ldc2_w 387, 3) := by decide +kernel
theorem dX10_putDigits_28 : decode cX10_putDigits 28 = .ok (.lrem, 1) := by decide +kernel
theorem dX10_putDigits_29 : decode cX10_putDigits 29 = .ok (.l2i, 1) := by decide +kernel
theorem dX10_putDigits_30 : decode cX10_putDigits 30 = .ok (.iastore, 1) := by decide +kernel
theorem dX10_putDigits_31 : decode cX10_putDigits 31 = .ok (.lload 4, 2) := by decide +kernel
theorem dX10_putDigits_33 : decode cX10_putDigits 33 = .ok (.ldc2_w 387, 3) := by decide +kernel
theorem dX10_putDigits_36 : decode cX10_putDigits 36 = .ok (.ldiv, 1) := by decide +kernel
theorem dX10_putDigits_37 : decode cX10_putDigits 37 = .ok (.lstore 4, 2) := by decide +kernel
theorem dX10_putDigits_39 : decode cX10_putDigits 39 = .ok (.iinc 3 1, 3) := by decide +kernel
theorem dX10_putDigits_42 : decode cX10_putDigits 42 = .ok (.goto (-37), 3) := by decide +kernel
theorem dX10_putDigits_45 : decode cX10_putDigits 45 = .ok (.lload_n 1, 1) := by decide +kernel
theorem dX10_putDigits_46 : decode cX10_putDigits 46 = .ok (.lconst 0, 1) := by decide +kernel
theorem dX10_putDigits_47 : decode cX10_putDigits 47 = .ok (.lcmp, 1) := by decide +kernel
theorem dX10_putDigits_48 : decode cX10_putDigits 48 = .ok (.ifCond .lt 14, 3) := by decide +kernel
theorem dX10_putDigits_51 : decode cX10_putDigits 51 = .ok (.iload_n 3, 1) := by decide +kernel
theorem dX10_putDigits_52 : decode cX10_putDigits 52 = .ok (.aload_n 0, 1) := by decide +kernel
theorem dX10_putDigits_53 : decode cX10_putDigits 53 = .ok (.getfield 12, 3) := by decide +kernel
theorem dX10_putDigits_56 : decode cX10_putDigits 56 = .ok (.invokevirtual 186, 3) := by decide +kernel
theorem dX10_putDigits_59 : decode cX10_putDigits 59 = .ok (.if_icmp .eq 5, 3) := by decide +kernel
theorem dX10_putDigits_62 : decode cX10_putDigits 62 = .ok (.iconst 0, 1) := by decide +kernel
theorem dX10_putDigits_63 : decode cX10_putDigits 63 = .ok (.ireturn, 1) := by decide +kernel
theorem dX10_putDigits_64 : decode cX10_putDigits 64 = .ok (.aload_n 0, 1) := by decide +kernel
theorem dX10_putDigits_65 : decode cX10_putDigits 65 = .ok (.getfield 25, 3) := by decide +kernel
theorem dX10_putDigits_68 : decode cX10_putDigits 68 = .ok (.invokevirtual 164, 3) := by decide +kernel
theorem dX10_putDigits_71 : decode cX10_putDigits 71 = .ok (.iload_n 3, 1) := by decide +kernel
theorem dX10_putDigits_72 : decode cX10_putDigits 72 = .ok (.iconst 1, 1) := by decide +kernel
theorem dX10_putDigits_73 : decode cX10_putDigits 73 = .ok (.isub, 1) := by decide +kernel
theorem dX10_putDigits_74 : decode cX10_putDigits 74 = .ok (.istore 6, 2) := by decide +kernel
theorem dX10_putDigits_76 : decode cX10_putDigits 76 = .ok (.iload 6, 2) := by decide +kernel
theorem dX10_putDigits_78 : decode cX10_putDigits 78 = .ok (.ifCond .lt 44, 3) := by decide +kernel
theorem dX10_putDigits_81 : decode cX10_putDigits 81 = .ok (.aload_n 0, 1) := by decide +kernel
theorem dX10_putDigits_82 : decode cX10_putDigits 82 = .ok (.getfield 32, 3) := by decide +kernel
theorem dX10_putDigits_85 : decode cX10_putDigits 85 = .ok (.iload 6, 2) := by decide +kernel
theorem dX10_putDigits_87 : decode cX10_putDigits 87 = .ok (.iaload, 1) := by decide +kernel
theorem dX10_putDigits_88 : decode cX10_putDigits 88 = .ok (.iconst 1, 1) := by decide +kernel
theorem dX10_putDigits_89 : decode cX10_putDigits 89 = .ok (.isub, 1) := by decide +kernel
theorem dX10_putDigits_90 : decode cX10_putDigits 90 = .ok (.istore 7, 2) := by decide +kernel
theorem dX10_putDigits_92 : decode cX10_putDigits 92 = .ok (.aload_n 0, 1) := by decide +kernel
theorem dX10_putDigits_93 : decode cX10_putDigits 93 = .ok (.getfield 25, 3) := by decide +kernel
theorem dX10_putDigits_96 : decode cX10_putDigits 96 = .ok (.iload 7, 2) := by decide +kernel
theorem dX10_putDigits_98 : decode cX10_putDigits 98 = .ok (.invokevirtual 389, 3) := by decide +kernel
theorem dX10_putDigits_101 : decode cX10_putDigits 101 = .ok (.ifCond .ne 5, 3) := by decide +kernel
theorem dX10_putDigits_104 : decode cX10_putDigits 104 = .ok (.iconst 0, 1) := by decide +kernel
theorem dX10_putDigits_105 : decode cX10_putDigits 105 = .ok (.ireturn, 1) := by decide +kernel
theorem dX10_putDigits_106 : decode cX10_putDigits 106 = .ok (.aload_n 0, 1) := by decide +kernel
theorem dX10_putDigits_107 : decode cX10_putDigits 107 = .ok (.getfield 25, 3) := by decide +kernel
theorem dX10_putDigits_110 : decode cX10_putDigits 110 = .ok (.iload 7, 2) := by decide +kernel
theorem dX10_putDigits_112 : decode cX10_putDigits 112 = .ok (.iconst 0, 1) := by decide +kernel
theorem dX10_putDigits_113 : decode cX10_putDigits 113 = .ok (.invokevirtual 392, 3) := by decide +kernel
theorem dX10_putDigits_116 : decode cX10_putDigits 116 = .ok (.iinc 6 (-1), 3) := by decide +kernel
theorem dX10_putDigits_119 : decode cX10_putDigits 119 = .ok (.goto (-43), 3) := by decide +kernel
theorem dX10_putDigits_122 : decode cX10_putDigits 122 = .ok (.iconst 1, 1) := by decide +kernel
theorem dX10_putDigits_123 : decode cX10_putDigits 123 = .ok (.ireturn, 1) := by decide +kernel
theorem dX10_putSwapped_0 : decode cX10_putSwapped 0 = .ok (.aload_n 0, 1) := by decide +kernel
theorem dX10_putSwapped_1 : decode cX10_putSwapped 1 = .ok (.getfield 21, 3) := by decide +kernel
theorem dX10_putSwapped_4 : decode cX10_putSwapped 4 = .ok (.getfield 279, 3) := by decide +kernel
theorem dX10_putSwapped_7 : decode cX10_putSwapped 7 = .ok (.iconst 0, 1) := by decide +kernel
theorem dX10_putSwapped_8 : decode cX10_putSwapped 8 = .ok (.aload_n 0, 1) := by decide +kernel
theorem dX10_putSwapped_9 : decode cX10_putSwapped 9 = .ok (.getfield 36, 3) := by decide +kernel
theorem dX10_putSwapped_12 : decode cX10_putSwapped 12 = .ok (.iconst 0, 1) := by decide +kernel
theorem dX10_putSwapped_13 : decode cX10_putSwapped 13 = .ok (.aload_n 0, 1) := by decide +kernel
theorem dX10_putSwapped_14 : decode cX10_putSwapped 14 = .ok (.getfield 36, 3) := by decide +kernel
theorem dX10_putSwapped_17 : decode cX10_putSwapped 17 = .ok (.arraylength, 1) := by decide +kernel
theorem dX10_putSwapped_18 : decode cX10_putSwapped 18 = .ok (.invokestatic 395, 3) := by decide +kernel
theorem dX10_putSwapped_21 : decode cX10_putSwapped 21 = .ok (.iload_n 1, 1) := by decide +kernel
theorem dX10_putSwapped_22 : decode cX10_putSwapped 22 = .ok (.bipush 30, 2) := by decide +kernel
theorem dX10_putSwapped_24 : decode cX10_putSwapped 24 = .ok (.imul, 1) := by decide +kernel
theorem dX10_putSwapped_25 : decode cX10_putSwapped 25 = .ok (.iload_n 2, 1) := by decide +kernel
theorem dX10_putSwapped_26 : decode cX10_putSwapped 26 = .ok (.iadd, 1) := by decide +kernel
theorem dX10_putSwapped_27 : decode cX10_putSwapped 27 = .ok (.istore_n 3, 1) := by decide +kernel
theorem dX10_putSwapped_28 : decode cX10_putSwapped 28 = .ok (.aload_n 0, 1) := by decide +kernel
theorem dX10_putSwapped_29 : decode cX10_putSwapped 29 = .ok (.getfield 36, 3) := by decide +kernel
theorem dX10_putSwapped_32 : decode cX10_putSwapped 32 = .ok (.iload_n 3, 1) := by decide +kernel
theorem dX10_putSwapped_33 : decode cX10_putSwapped 33 = .ok (.aload_n 0, 1) := by decide +kernel
theorem dX10_putSwapped_34 : decode cX10_putSwapped 34 = .ok (.getfield 21, 3) := by decide +kernel
theorem dX10_putSwapped_37 : decode cX10_putSwapped 37 = .ok (.getfield 279, 3) := by decide +kernel
theorem dX10_putSwapped_40 : decode cX10_putSwapped 40 = .ok (.iload_n 3, 1) := by decide +kernel
theorem dX10_putSwapped_41 : decode cX10_putSwapped 41 = .ok (.iconst 1, 1) := by decide +kernel
theorem dX10_putSwapped_42 : decode cX10_putSwapped 42 = .ok (.iadd, 1) := by decide +kernel
theorem dX10_putSwapped_43 : decode cX10_putSwapped 43 = .ok (.iaload, 1) := by decide +kernel
theorem dX10_putSwapped_44 : decode cX10_putSwapped 44 = .ok (.iastore, 1) := by decide +kernel
theorem dX10_putSwapped_45 : decode cX10_putSwapped 45 = .ok (.aload_n 0, 1) := by decide +kernel
theorem dX10_putSwapped_46 : decode cX10_putSwapped 46 = .ok (.getfield 36, 3) := by decide +kernel
theorem dX10_putSwapped_49 : decode cX10_putSwapped 49 = .ok (.iload_n 3, 1) := by decide +kernel
theorem dX10_putSwapped_50 : decode cX10_putSwapped 50 = .ok (.iconst 1, 1) := by decide +kernel
theorem dX10_putSwapped_51 : decode cX10_putSwapped 51 = .ok (.iadd, 1) := by decide +kernel
theorem dX10_putSwapped_52 : decode cX10_putSwapped 52 = .ok (.aload_n 0, 1) := by decide +kernel
theorem dX10_putSwapped_53 : decode cX10_putSwapped 53 = .ok (.getfield 21, 3) := by decide +kernel
theorem dX10_putSwapped_56 : decode cX10_putSwapped 56 = .ok (.getfield 279, 3) := by decide +kernel
theorem dX10_putSwapped_59 : decode cX10_putSwapped 59 = .ok (.iload_n 3, 1) := by decide +kernel
theorem dX10_putSwapped_60 : decode cX10_putSwapped 60 = .ok (.iaload, 1) := by decide +kernel
theorem dX10_putSwapped_61 : decode cX10_putSwapped 61 = .ok (.iastore, 1) := by decide +kernel
theorem dX10_putSwapped_62 : decode cX10_putSwapped 62 = .ok (.aload_n 0, 1) := by decide +kernel
theorem dX10_putSwapped_63 : decode cX10_putSwapped 63 = .ok (.getfield 25, 3) := by decide +kernel
theorem dX10_putSwapped_66 : decode cX10_putSwapped 66 = .ok (.invokevirtual 164, 3) := by decide +kernel
theorem dX10_putSwapped_69 : decode cX10_putSwapped 69 = .ok (.aload_n 0, 1) := by decide +kernel
theorem dX10_putSwapped_70 : decode cX10_putSwapped 70 = .ok (.getfield 12, 3) := by decide +kernel
theorem dX10_putSwapped_73 : decode cX10_putSwapped 73 = .ok (.invokevirtual 186, 3) := by decide +kernel
theorem dX10_putSwapped_76 : decode cX10_putSwapped 76 = .ok (.istore 4, 2) := by decide +kernel
theorem dX10_putSwapped_78 : decode cX10_putSwapped 78 = .ok (.iconst 0, 1) := by decide +kernel
theorem dX10_putSwapped_79 : decode cX10_putSwapped 79 = .ok (.istore 5, 2) := by decide +kernel
theorem dX10_putSwapped_81 : decode cX10_putSwapped 81 = .ok (.iload 5, 2) := by decide +kernel
theorem dX10_putSwapped_83 : decode cX10_putSwapped 83 = .ok (.iload 4, 2) := by decide +kernel
theorem dX10_putSwapped_85 : decode cX10_putSwapped 85 = .ok (.if_icmp .ge 40, 3) := by decide +kernel
theorem dX10_putSwapped_88 : decode cX10_putSwapped 88 = .ok (.aload_n 0, 1) := by decide +kernel
theorem dX10_putSwapped_89 : decode cX10_putSwapped 89 = .ok (.getfield 25, 3) := by decide +kernel
theorem dX10_putSwapped_92 : decode cX10_putSwapped 92 = .ok (.aload_n 0, 1) := by decide +kernel
theorem dX10_putSwapped_93 : decode cX10_putSwapped 93 = .ok (.getfield 36, 3) := by decide +kernel
theorem dX10_putSwapped_96 : decode cX10_putSwapped 96 = .ok (.invokevirtual 401, 3) := by decide +kernel
theorem dX10_putSwapped_99 : decode cX10_putSwapped 99 = .ok (.istore 6, 2) := by decide +kernel
theorem dX10_putSwapped_101 : decode cX10_putSwapped 101 = .ok (.iload 6, 2) := by decide +kernel
theorem dX10_putSwapped_103 : decode cX10_putSwapped 103 = .ok (.iconst (-1), 1) := by decide +kernel
theorem dX10_putSwapped_104 : decode cX10_putSwapped 104 = .ok (.if_icmp .ne 5, 3) := by decide +kernel
theorem dX10_putSwapped_107 : decode cX10_putSwapped 107 = .ok (.iconst 0, 1) := by decide +kernel
theorem dX10_putSwapped_108 : decode cX10_putSwapped 108 = .ok (.ireturn, 1) := by decide +kernel
theorem dX10_putSwapped_109 : decode cX10_putSwapped 109 = .ok (.aload_n 0, 1) := by decide +kernel
theorem dX10_putSwapped_110 : decode cX10_putSwapped 110 = .ok (.getfield 25, 3) := by decide +kernel
theorem dX10_putSwapped_113 : decode cX10_putSwapped 113 = .ok (.iload 6, 2) := by decide +kernel
theorem dX10_putSwapped_115 : decode cX10_putSwapped 115 = .ok (.iconst 0, 1) := by decide +kernel
theorem dX10_putSwapped_116 : decode cX10_putSwapped 116 = .ok (.invokevirtual 392, 3) := by decide +kernel
theorem dX10_putSwapped_119 : decode cX10_putSwapped 119 = .ok (.iinc 5 1, 3) := by decide +kernel
theorem dX10_putSwapped_122 : decode cX10_putSwapped 122 = .ok (.goto (-41), 3) := by decide +kernel
theorem dX10_putSwapped_125 : decode cX10_putSwapped 125 = .ok (.iconst 1, 1) := by decide +kernel
theorem dX10_putSwapped_126 : decode cX10_putSwapped 126 = .ok (.ireturn, 1) := by decide +kernel
