/-! m05: by wip/whole/gen.py -/
theorem dM_work_0 : decode prog_11_method_33_code 0 = .ok (.aload_n 0, 1) := by decide +kernel
theorem dM_work_1 : decode prog_11_method_33_code 1 = .ok (.getfield 32, 3) := by decide +kernel
theorem dM_work_4 : decode prog_11_method_33_code 4 = .ok (.iconst 0, 1) := by decide +kernel
theorem dM_work_5 : decode prog_11_method_33_code 5 = .ok (.laload, 1) := by decide +kernel
theorem dM_work_6 : decode prog_11_method_33_code 6 = .ok (.lstore_n 2, 1) := by decide +kernel
theorem dM_work_7 : decode prog_11_method_33_code 7 = .ok (.lload_n 2, 1) := by decide +kernel
theorem dM_work_8 : decode prog_11_method_33_code 8 = .ok (.ldc2_w 146, 3) := by decide +kernel
theorem dM_work_11 : decode prog_11_method_33_code 11 = .ok (.lcmp, 1) := by decide +kernel
theorem dM_work_12 : decode prog_11_method_33_code 12 = .ok (.ifCond .ne 9, 3) := by decide +kernel
theorem dM_work_15 : decode prog_11_method_33_code 15 = .ok (.aload_n 0, 1) := by decide +kernel
theorem dM_work_16 : decode prog_11_method_33_code 16 = .ok (.iload_n 1, 1) := by decide +kernel
theorem dM_work_17 : decode prog_11_method_33_code 17 = .ok (.invokevirtual 260, 3) := by decide +kernel
theorem dM_work_20 : decode prog_11_method_33_code 20 = .ok (.ireturn, 1) := by decide +kernel
theorem dM_work_21 : decode prog_11_method_33_code 21 = .ok (.lload_n 2, 1) := by decide +kernel
theorem dM_work_22 : decode prog_11_method_33_code 22 = .ok (.ldc2_w 154, 3) := by decide +kernel
theorem dM_work_25 : decode prog_11_method_33_code 25 = .ok (.lcmp, 1) := by decide +kernel
theorem dM_work_26 : decode prog_11_method_33_code 26 = .ok (.ifCond .ne 45, 3) := by decide +kernel
theorem dM_work_29 : decode prog_11_method_33_code 29 = .ok (.aload_n 0, 1) := by decide +kernel
theorem dM_work_30 : decode prog_11_method_33_code 30 = .ok (.iload_n 1, 1) := by decide +kernel
theorem dM_work_31 : decode prog_11_method_33_code 31 = .ok (.iconst 2, 1) := by decide +kernel
theorem dM_work_32 : decode prog_11_method_33_code 32 = .ok (.invokevirtual 263, 3) := by decide +kernel
theorem dM_work_35 : decode prog_11_method_33_code 35 = .ok (.iconst 0, 1) := by decide +kernel
theorem dM_work_36 : decode prog_11_method_33_code 36 = .ok (.bipush 31, 2) := by decide +kernel
theorem dM_work_38 : decode prog_11_method_33_code 38 = .ok (.invokestatic 83, 3) := by decide +kernel
theorem dM_work_41 : decode prog_11_method_33_code 41 = .ok (.ifCond .eq 27, 3) := by decide +kernel
theorem dM_work_44 : decode prog_11_method_33_code 44 = .ok (.aload_n 0, 1) := by decide +kernel
theorem dM_work_45 : decode prog_11_method_33_code 45 = .ok (.iload_n 1, 1) := by decide +kernel
theorem dM_work_46 : decode prog_11_method_33_code 46 = .ok (.aload_n 0, 1) := by decide +kernel
theorem dM_work_47 : decode prog_11_method_33_code 47 = .ok (.getfield 72, 3) := by decide +kernel
theorem dM_work_50 : decode prog_11_method_33_code 50 = .ok (.bipush 32, 2) := by decide +kernel
theorem dM_work_52 : decode prog_11_method_33_code 52 = .ok (.iload_n 1, 1) := by decide +kernel
theorem dM_work_53 : decode prog_11_method_33_code 53 = .ok (.imul, 1) := by decide +kernel
theorem dM_work_54 : decode prog_11_method_33_code 54 = .ok (.aload_n 0, 1) := by decide +kernel
theorem dM_work_55 : decode prog_11_method_33_code 55 = .ok (.iload_n 1, 1) := by decide +kernel
theorem dM_work_56 : decode prog_11_method_33_code 56 = .ok (.iconst 2, 1) := by decide +kernel
theorem dM_work_57 : decode prog_11_method_33_code 57 = .ok (.invokevirtual 263, 3) := by decide +kernel
theorem dM_work_60 : decode prog_11_method_33_code 60 = .ok (.iadd, 1) := by decide +kernel
theorem dM_work_61 : decode prog_11_method_33_code 61 = .ok (.iaload, 1) := by decide +kernel
theorem dM_work_62 : decode prog_11_method_33_code 62 = .ok (.invokevirtual 267, 3) := by decide +kernel
theorem dM_work_65 : decode prog_11_method_33_code 65 = .ok (.goto 5, 3) := by decide +kernel
theorem dM_work_68 : decode prog_11_method_33_code 68 = .ok (.bipush 102, 2) := by decide +kernel
theorem dM_work_70 : decode prog_11_method_33_code 70 = .ok (.ireturn, 1) := by decide +kernel
theorem dM_work_71 : decode prog_11_method_33_code 71 = .ok (.lload_n 2, 1) := by decide +kernel
theorem dM_work_72 : decode prog_11_method_33_code 72 = .ok (.ldc2_w 160, 3) := by decide +kernel
theorem dM_work_75 : decode prog_11_method_33_code 75 = .ok (.lcmp, 1) := by decide +kernel
theorem dM_work_76 : decode prog_11_method_33_code 76 = .ok (.ifCond .ne 21, 3) := by decide +kernel
theorem dM_work_79 : decode prog_11_method_33_code 79 = .ok (.aload_n 0, 1) := by decide +kernel
theorem dM_work_80 : decode prog_11_method_33_code 80 = .ok (.iload_n 1, 1) := by decide +kernel
theorem dM_work_81 : decode prog_11_method_33_code 81 = .ok (.aload_n 0, 1) := by decide +kernel
theorem dM_work_82 : decode prog_11_method_33_code 82 = .ok (.iload_n 1, 1) := by decide +kernel
theorem dM_work_83 : decode prog_11_method_33_code 83 = .ok (.iconst 1, 1) := by decide +kernel
theorem dM_work_84 : decode prog_11_method_33_code 84 = .ok (.invokevirtual 263, 3) := by decide +kernel
theorem dM_work_87 : decode prog_11_method_33_code 87 = .ok (.aload_n 0, 1) := by decide +kernel
theorem dM_work_88 : decode prog_11_method_33_code 88 = .ok (.iload_n 1, 1) := by decide +kernel
theorem dM_work_89 : decode prog_11_method_33_code 89 = .ok (.iconst 2, 1) := by decide +kernel
theorem dM_work_90 : decode prog_11_method_33_code 90 = .ok (.invokevirtual 263, 3) := by decide +kernel
theorem dM_work_93 : decode prog_11_method_33_code 93 = .ok (.invokevirtual 270, 3) := by decide +kernel
theorem dM_work_96 : decode prog_11_method_33_code 96 = .ok (.ireturn, 1) := by decide +kernel
theorem dM_work_97 : decode prog_11_method_33_code 97 = .ok (.lload_n 2, 1) := by decide +kernel
theorem dM_work_98 : decode prog_11_method_33_code 98 = .ok (.ldc2_w 156, 3) := by decide +kernel
theorem dM_work_101 : decode prog_11_method_33_code 101 = .ok (.lcmp, 1) := by decide +kernel
theorem dM_work_102 : decode prog_11_method_33_code 102 = .ok (.ifCond .eq 35, 3) := by decide +kernel
theorem dM_work_105 : decode prog_11_method_33_code 105 = .ok (.lload_n 2, 1) := by decide +kernel
theorem dM_work_106 : decode prog_11_method_33_code 106 = .ok (.ldc2_w 166, 3) := by decide +kernel
theorem dM_work_109 : decode prog_11_method_33_code 109 = .ok (.lcmp, 1) := by decide +kernel
theorem dM_work_110 : decode prog_11_method_33_code 110 = .ok (.ifCond .eq 27, 3) := by decide +kernel
theorem dM_work_113 : decode prog_11_method_33_code 113 = .ok (.lload_n 2, 1) := by decide +kernel
theorem dM_work_114 : decode prog_11_method_33_code 114 = .ok (.ldc2_w 162, 3) := by decide +kernel
theorem dM_work_117 : decode prog_11_method_33_code 117 = .ok (.lcmp, 1) := by decide +kernel
theorem dM_work_118 : decode prog_11_method_33_code 118 = .ok (.ifCond .eq 19, 3) := by decide +kernel
theorem dM_work_121 : decode prog_11_method_33_code 121 = .ok (.lload_n 2, 1) := by decide +kernel
theorem dM_work_122 : decode prog_11_method_33_code 122 = .ok (.ldc2_w 170, 3) := by decide +kernel
theorem dM_work_125 : decode prog_11_method_33_code 125 = .ok (.lcmp, 1) := by decide +kernel
theorem dM_work_126 : decode prog_11_method_33_code 126 = .ok (.ifCond .eq 11, 3) := by decide +kernel
theorem dM_work_129 : decode prog_11_method_33_code 129 = .ok (.lload_n 2, 1) := by decide +kernel
theorem dM_work_130 : decode prog_11_method_33_code 130 = .ok (.ldc2_w 164, 3) := by decide +kernel
theorem dM_work_133 : decode prog_11_method_33_code 133 = .ok (.lcmp, 1) := by decide +kernel
theorem dM_work_134 : decode prog_11_method_33_code 134 = .ok (.ifCond .ne 9, 3) := by decide +kernel
theorem dM_work_137 : decode prog_11_method_33_code 137 = .ok (.aload_n 0, 1) := by decide +kernel
theorem dM_work_138 : decode prog_11_method_33_code 138 = .ok (.iload_n 1, 1) := by decide +kernel
theorem dM_work_139 : decode prog_11_method_33_code 139 = .ok (.invokevirtual 274, 3) := by decide +kernel
theorem dM_work_142 : decode prog_11_method_33_code 142 = .ok (.ireturn, 1) := by decide +kernel
theorem dM_work_143 : decode prog_11_method_33_code 143 = .ok (.lload_n 2, 1) := by decide +kernel
theorem dM_work_144 : decode prog_11_method_33_code 144 = .ok (.ldc2_w 172, 3) := by decide +kernel
theorem dM_work_147 : decode prog_11_method_33_code 147 = .ok (.lcmp, 1) := by decide +kernel
theorem dM_work_148 : decode prog_11_method_33_code 148 = .ok (.ifCond .eq 11, 3) := by decide +kernel
theorem dM_work_151 : decode prog_11_method_33_code 151 = .ok (.lload_n 2, 1) := by decide +kernel
theorem dM_work_152 : decode prog_11_method_33_code 152 = .ok (.ldc2_w 174, 3) := by decide +kernel
theorem dM_work_155 : decode prog_11_method_33_code 155 = .ok (.lcmp, 1) := by decide +kernel
theorem dM_work_156 : decode prog_11_method_33_code 156 = .ok (.ifCond .ne 32, 3) := by decide +kernel
theorem dM_work_159 : decode prog_11_method_33_code 159 = .ok (.aload_n 0, 1) := by decide +kernel
theorem dM_work_160 : decode prog_11_method_33_code 160 = .ok (.iload_n 1, 1) := by decide +kernel
theorem dM_work_161 : decode prog_11_method_33_code 161 = .ok (.lload_n 2, 1) := by decide +kernel
theorem dM_work_162 : decode prog_11_method_33_code 162 = .ok (.ldc2_w 172, 3) := by decide +kernel
theorem dM_work_165 : decode prog_11_method_33_code 165 = .ok (.lcmp, 1) := by decide +kernel
theorem dM_work_166 : decode prog_11_method_33_code 166 = .ok (.ifCond .ne 7, 3) := by decide +kernel
theorem dM_work_169 : decode prog_11_method_33_code 169 = .ok (.iconst 1, 1) := by decide +kernel
theorem dM_work_170 : decode prog_11_method_33_code 170 = .ok (.goto 4, 3) := by decide +kernel
theorem dM_work_173 : decode prog_11_method_33_code 173 = .ok (.iconst 0, 1) := by decide +kernel
theorem dM_work_174 : decode prog_11_method_33_code 174 = .ok (.aload_n 0, 1) := by decide +kernel
theorem dM_work_175 : decode prog_11_method_33_code 175 = .ok (.iload_n 1, 1) := by decide +kernel
theorem dM_work_176 : decode prog_11_method_33_code 176 = .ok (.iconst 1, 1) := by decide +kernel
theorem dM_work_177 : decode prog_11_method_33_code 177 = .ok (.invokevirtual 263, 3) := by decide +kernel
theorem dM_work_180 : decode prog_11_method_33_code 180 = .ok (.sipush 255, 3) := by decide +kernel
theorem dM_work_183 : decode prog_11_method_33_code 183 = .ok (.iand, 1) := by decide +kernel
theorem dM_work_184 : decode prog_11_method_33_code 184 = .ok (.invokevirtual 277, 3) := by decide +kernel
theorem dM_work_187 : decode prog_11_method_33_code 187 = .ok (.ireturn, 1) := by decide +kernel
theorem dM_work_188 : decode prog_11_method_33_code 188 = .ok (.lload_n 2, 1) := by decide +kernel
theorem dM_work_189 : decode prog_11_method_33_code 189 = .ok (.ldc2_w 178, 3) := by decide +kernel
theorem dM_work_192 : decode prog_11_method_33_code 192 = .ok (.lcmp, 1) := by decide +kernel
theorem dM_work_193 : decode prog_11_method_33_code 193 = .ok (.ifCond .ne 10, 3) := by decide +kernel
theorem dM_work_196 : decode prog_11_method_33_code 196 = .ok (.aload_n 0, 1) := by decide +kernel
theorem dM_work_197 : decode prog_11_method_33_code 197 = .ok (.iload_n 1, 1) := by decide +kernel
theorem dM_work_198 : decode prog_11_method_33_code 198 = .ok (.iconst 1, 1) := by decide +kernel
theorem dM_work_199 : decode prog_11_method_33_code 199 = .ok (.invokevirtual 281, 3) := by decide +kernel
theorem dM_work_202 : decode prog_11_method_33_code 202 = .ok (.ireturn, 1) := by decide +kernel
theorem dM_work_203 : decode prog_11_method_33_code 203 = .ok (.lload_n 2, 1) := by decide +kernel
theorem dM_work_204 : decode prog_11_method_33_code 204 = .ok (.ldc2_w 185, 3) := by decide +kernel
theorem dM_work_207 : decode prog_11_method_33_code 207 = .ok (.lcmp, 1) := by decide +kernel
theorem dM_work_208 : decode prog_11_method_33_code 208 = .ok (.ifCond .ne 43, 3) := by decide +kernel
theorem dM_work_211 : decode prog_11_method_33_code 211 = .ok (.aload_n 0, 1) := by decide +kernel
theorem dM_work_212 : decode prog_11_method_33_code 212 = .ok (.iload_n 1, 1) := by decide +kernel
theorem dM_work_213 : decode prog_11_method_33_code 213 = .ok (.iconst 1, 1) := by decide +kernel
theorem dM_work_214 : decode prog_11_method_33_code 214 = .ok (.invokevirtual 263, 3) := by decide +kernel
theorem dM_work_217 : decode prog_11_method_33_code 217 = .ok (.aload_n 0, 1) := by decide +kernel
theorem dM_work_218 : decode prog_11_method_33_code 218 = .ok (.getfield 32, 3) := by decide +kernel
theorem dM_work_221 : decode prog_11_method_33_code 221 = .ok (.iconst 2, 1) := by decide +kernel
theorem dM_work_222 : decode prog_11_method_33_code 222 = .ok (.laload, 1) := by decide +kernel
theorem dM_work_223 : decode prog_11_method_33_code 223 = .ok (.l2i, 1) := by decide +kernel
theorem dM_work_224 : decode prog_11_method_33_code 224 = .ok (.aload_n 0, 1) := by decide +kernel
theorem dM_work_225 : decode prog_11_method_33_code 225 = .ok (.iload_n 1, 1) := by decide +kernel
theorem dM_work_226 : decode prog_11_method_33_code 226 = .ok (.iconst 3, 1) := by decide +kernel
theorem dM_work_227 : decode prog_11_method_33_code 227 = .ok (.invokevirtual 263, 3) := by decide +kernel
theorem dM_work_230 : decode prog_11_method_33_code 230 = .ok (.invokestatic 284, 3) := by decide +kernel
theorem dM_work_233 : decode prog_11_method_33_code 233 = .ok (.ifCond .eq 12, 3) := by decide +kernel
theorem dM_work_236 : decode prog_11_method_33_code 236 = .ok (.aload_n 0, 1) := by decide +kernel
theorem dM_work_237 : decode prog_11_method_33_code 237 = .ok (.iload_n 1, 1) := by decide +kernel
theorem dM_work_238 : decode prog_11_method_33_code 238 = .ok (.iconst 5, 1) := by decide +kernel
theorem dM_work_239 : decode prog_11_method_33_code 239 = .ok (.invokevirtual 281, 3) := by decide +kernel
theorem dM_work_242 : decode prog_11_method_33_code 242 = .ok (.goto 8, 3) := by decide +kernel
theorem dM_work_245 : decode prog_11_method_33_code 245 = .ok (.aload_n 0, 1) := by decide +kernel
theorem dM_work_246 : decode prog_11_method_33_code 246 = .ok (.iload_n 1, 1) := by decide +kernel
theorem dM_work_247 : decode prog_11_method_33_code 247 = .ok (.invokevirtual 257, 3) := by decide +kernel
theorem dM_work_250 : decode prog_11_method_33_code 250 = .ok (.ireturn, 1) := by decide +kernel
theorem dM_work_251 : decode prog_11_method_33_code 251 = .ok (.lload_n 2, 1) := by decide +kernel
theorem dM_work_252 : decode prog_11_method_33_code 252 = .ok (.ldc2_w 180, 3) := by decide +kernel
theorem dM_work_255 : decode prog_11_method_33_code 255 = .ok (.lcmp, 1) := by decide +kernel
theorem dM_work_256 : decode prog_11_method_33_code 256 = .ok (.ifCond .eq 11, 3) := by decide +kernel
theorem dM_work_259 : decode prog_11_method_33_code 259 = .ok (.lload_n 2, 1) := by decide +kernel
theorem dM_work_260 : decode prog_11_method_33_code 260 = .ok (.ldc2_w 190, 3) := by decide +kernel
theorem dM_work_263 : decode prog_11_method_33_code 263 = .ok (.lcmp, 1) := by decide +kernel
theorem dM_work_264 : decode prog_11_method_33_code 264 = .ok (.ifCond .ne 25, 3) := by decide +kernel
theorem dM_work_267 : decode prog_11_method_33_code 267 = .ok (.lload_n 2, 1) := by decide +kernel
theorem dM_work_268 : decode prog_11_method_33_code 268 = .ok (.ldc2_w 180, 3) := by decide +kernel
theorem dM_work_271 : decode prog_11_method_33_code 271 = .ok (.lcmp, 1) := by decide +kernel
theorem dM_work_272 : decode prog_11_method_33_code 272 = .ok (.ifCond .ne 11, 3) := by decide +kernel
theorem dM_work_275 : decode prog_11_method_33_code 275 = .ok (.aload_n 0, 1) := by decide +kernel
theorem dM_work_276 : decode prog_11_method_33_code 276 = .ok (.iload_n 1, 1) := by decide +kernel
theorem dM_work_277 : decode prog_11_method_33_code 277 = .ok (.invokevirtual 287, 3) := by decide +kernel
theorem dM_work_280 : decode prog_11_method_33_code 280 = .ok (.goto 8, 3) := by decide +kernel
theorem dM_work_283 : decode prog_11_method_33_code 283 = .ok (.aload_n 0, 1) := by decide +kernel
theorem dM_work_284 : decode prog_11_method_33_code 284 = .ok (.iload_n 1, 1) := by decide +kernel
theorem dM_work_285 : decode prog_11_method_33_code 285 = .ok (.invokevirtual 290, 3) := by decide +kernel
theorem dM_work_288 : decode prog_11_method_33_code 288 = .ok (.ireturn, 1) := by decide +kernel
theorem dM_work_289 : decode prog_11_method_33_code 289 = .ok (.lload_n 2, 1) := by decide +kernel
theorem dM_work_290 : decode prog_11_method_33_code 290 = .ok (.ldc2_w 168, 3) := by decide +kernel
theorem dM_work_293 : decode prog_11_method_33_code 293 = .ok (.lcmp, 1) := by decide +kernel
theorem dM_work_294 : decode prog_11_method_33_code 294 = .ok (.ifCond .ne 21, 3) := by decide +kernel
theorem dM_work_297 : decode prog_11_method_33_code 297 = .ok (.aload_n 0, 1) := by decide +kernel
theorem dM_work_298 : decode prog_11_method_33_code 298 = .ok (.iload_n 1, 1) := by decide +kernel
theorem dM_work_299 : decode prog_11_method_33_code 299 = .ok (.aload_n 0, 1) := by decide +kernel
theorem dM_work_300 : decode prog_11_method_33_code 300 = .ok (.iload_n 1, 1) := by decide +kernel
theorem dM_work_301 : decode prog_11_method_33_code 301 = .ok (.iconst 2, 1) := by decide +kernel
theorem dM_work_302 : decode prog_11_method_33_code 302 = .ok (.invokevirtual 263, 3) := by decide +kernel
theorem dM_work_305 : decode prog_11_method_33_code 305 = .ok (.aload_n 0, 1) := by decide +kernel
theorem dM_work_306 : decode prog_11_method_33_code 306 = .ok (.iload_n 1, 1) := by decide +kernel
theorem dM_work_307 : decode prog_11_method_33_code 307 = .ok (.iconst 3, 1) := by decide +kernel
theorem dM_work_308 : decode prog_11_method_33_code 308 = .ok (.invokevirtual 263, 3) := by decide +kernel
theorem dM_work_311 : decode prog_11_method_33_code 311 = .ok (.invokevirtual 293, 3) := by decide +kernel
theorem dM_work_314 : decode prog_11_method_33_code 314 = .ok (.ireturn, 1) := by decide +kernel
theorem dM_work_315 : decode prog_11_method_33_code 315 = .ok (.lload_n 2, 1) := by decide +kernel
theorem dM_work_316 : decode prog_11_method_33_code 316 = .ok (.ldc2_w 158, 3) := by decide +kernel
theorem dM_work_319 : decode prog_11_method_33_code 319 = .ok (.lcmp, 1) := by decide +kernel
theorem dM_work_320 : decode prog_11_method_33_code 320 = .ok (.ifCond .ne 15, 3) := by decide +kernel
theorem dM_work_323 : decode prog_11_method_33_code 323 = .ok (.aload_n 0, 1) := by decide +kernel
theorem dM_work_324 : decode prog_11_method_33_code 324 = .ok (.iload_n 1, 1) := by decide +kernel
theorem dM_work_325 : decode prog_11_method_33_code 325 = .ok (.aload_n 0, 1) := by decide +kernel
theorem dM_work_326 : decode prog_11_method_33_code 326 = .ok (.iload_n 1, 1) := by decide +kernel
theorem dM_work_327 : decode prog_11_method_33_code 327 = .ok (.iconst 2, 1) := by decide +kernel
theorem dM_work_328 : decode prog_11_method_33_code 328 = .ok (.invokevirtual 263, 3) := by decide +kernel
theorem dM_work_331 : decode prog_11_method_33_code 331 = .ok (.invokevirtual 296, 3) := by decide +kernel
theorem dM_work_334 : decode prog_11_method_33_code 334 = .ok (.ireturn, 1) := by decide +kernel
theorem dM_work_335 : decode prog_11_method_33_code 335 = .ok (.aload_n 0, 1) := by decide +kernel
theorem dM_work_336 : decode prog_11_method_33_code 336 = .ok (.iload_n 1, 1) := by decide +kernel
theorem dM_work_337 : decode prog_11_method_33_code 337 = .ok (.iconst 1, 1) := by decide +kernel
theorem dM_work_338 : decode prog_11_method_33_code 338 = .ok (.invokevirtual 263, 3) := by decide +kernel
theorem dM_work_341 : decode prog_11_method_33_code 341 = .ok (.bipush 63, 2) := by decide +kernel
theorem dM_work_343 : decode prog_11_method_33_code 343 = .ok (.iand, 1) := by decide +kernel
theorem dM_work_344 : decode prog_11_method_33_code 344 = .ok (.ireturn, 1) := by decide +kernel
abbrev rm_M_work : Room := { frames := 4, cells := 0, slots := 0, locals := 92 }
def f_M_work_b288 (N : Nat) (t0 : Int32) (E : hE) : Option (Int32 × hE) := (
  some (t0, E))
set_option maxHeartbeats 4000000 in
set_option maxRecDepth 100000 in
theorem b_M_work_288 {p : Program} {l : Launch} {e : Env} {s : State} {m : MethodId} {args : Array Value} {below : List Frame} {meth : Method} {c : Code} {D : va_G} {kA : Nat → ClassId} {S : hE} {g : Nat → Nat} {n0 nx : Nat} {N : Nat} {res : Int32 × hE} (C : hX p s m args c prog_11_method_33_code 4 R_M ws_M_work D kA S g n0) (hr : meth.sig.returnType = (some .int)) (hlk : meth.locks = false) (hnm : meth.name = "work") : ∀ (t0 : Int32) (E : hE) (H : Heap) (locs : List Loc) (ls : Array Slot), hY D kA n0 s E nx H locs → lv_has ls 4 [] → f_M_work_b288 N  t0 E = some res → W p l e rm_M_work s m args below meth c H locs 0 0 (MQ below (va_Qi (fun r w => r = res.1 ∧ w = (res.2, nx)) (hJ D kA S g n0) (fun q => n0 ≤ q)) args s 0 0 (fun q => n0 ≤ q)) (F0 m 288 ls [.int t0]) := by
  intro t0 E H locs ls M hl hf
  unfold f_M_work_b288 at hf
  cases hf
  exact w_iret C M hr hlk rfl (Nat.le_refl _) (Nat.le_refl _) dM_work_288 rfl rfl
def f_M_work_b267 (N : Nat) (y0 : Option Nat) (y1 : Int32) (y2 : Int64) (E : hE) : Option (Int32 × hE) := (
  if (lg_cmp y2 1667329132) = 0 then (
  (gO E y0 7).bind fun o277 =>
  (f_M_call o277.1 y1 E).bind fun v277 =>
  f_M_work_b288 N v277.1 v277.2
  ) else (
  (gO E y0 7).bind fun o285 =>
  (f_M_back o285.1 y1 E).bind fun v285 =>
  f_M_work_b288 N v285.1 v285.2
  ))
set_option maxHeartbeats 4000000 in
set_option maxRecDepth 100000 in
theorem b_M_work_267 {p : Program} {l : Launch} {e : Env} {s : State} {m : MethodId} {args : Array Value} {below : List Frame} {meth : Method} {c : Code} {D : va_G} {kA : Nat → ClassId} {S : hE} {g : Nat → Nat} {n0 nx : Nat} {N : Nat} {res : Int32 × hE} (C : hX p s m args c prog_11_method_33_code 4 R_M ws_M_work D kA S g n0) (hr : meth.sig.returnType = (some .int)) (hlk : meth.locks = false) (hnm : meth.name = "work") : ∀ (y0 : Option Nat) (y1 : Int32) (y2 : Int64) (E : hE) (H : Heap) (locs : List Loc) (ls : Array Slot), hY D kA n0 s E nx H locs → lv_has ls 4 [(0, va_rf y0), (1, .int y1), (2, .long y2)] → f_M_work_b267 N  y0 y1 y2 E = some res → W p l e rm_M_work s m args below meth c H locs 0 0 (MQ below (va_Qi (fun r w => r = res.1 ∧ w = (res.2, nx)) (hJ D kA S g n0) (fun q => n0 ≤ q)) args s 0 0 (fun q => n0 ≤ q)) (F0 m 267 ls []) := by
  intro y0 y1 y2 E H locs ls M hl hf
  unfold f_M_work_b267 at hf
  refine lv_lload_n C.x C.b dM_work_267 rfl (lv_at hl 2 rfl) ?_
  refine lv_ldc2 (v := 1667329132) C.x C.b C.ow (C.ts (.constantLong R_M 180 1667329132) (List.mem_cons_of_mem _ wm_902)) dM_work_268 ?_
  refine W.lcmp C.x C.b dM_work_271 ?_
  refine lv_if_ne (tgt := 283) C.x C.b dM_work_272 (by decide) (fun c272 => ?_) (fun c272 => ?_)
  · rw [if_neg c272] at hf
    refine w_aload_n C.x C.b dM_work_283 rfl (lv_at hl 0 rfl) ?_
    refine lv_iload_n C.x C.b dM_work_284 rfl (lv_at hl 1 rfl) ?_
    obtain ⟨o285, g285, hf⟩ := Option.bind_eq_some_iff.mp hf
    obtain ⟨v285, h285, hf⟩ := Option.bind_eq_some_iff.mp hf
    refine w_ci M (w_runV C M g285 rfl (c_M_back h285) (cwV 1 C.ts (hgV wm_1020 wm_1022 sel_M_back wm_6 wm_1023) rfl rfl rfl (by decide +kernel) ⟨Nat.le_of_ble_eq_true rfl, Nat.le_of_ble_eq_true rfl⟩) rfl hl.1 rfl (Nat.zero_le _) dM_work_285 ⟨Nat.le_refl _, Nat.le_refl _⟩) (fun H locs M => ?_)
    exact b_M_work_288 C hr hlk hnm _ _ _ _ _ M (lv_sub hl [] rfl) hf
  · rw [if_pos c272] at hf
    refine w_aload_n C.x C.b dM_work_275 rfl (lv_at hl 0 rfl) ?_
    refine lv_iload_n C.x C.b dM_work_276 rfl (lv_at hl 1 rfl) ?_
    obtain ⟨o277, g277, hf⟩ := Option.bind_eq_some_iff.mp hf
    obtain ⟨v277, h277, hf⟩ := Option.bind_eq_some_iff.mp hf
    refine w_ci M (w_runV C M g277 rfl (c_M_call h277) (cwV 1 C.ts (hgV wm_1016 wm_1018 sel_M_call wm_6 wm_1019) rfl rfl rfl (by decide +kernel) ⟨Nat.le_of_ble_eq_true rfl, Nat.le_of_ble_eq_true rfl⟩) rfl hl.1 rfl (Nat.zero_le _) dM_work_277 ⟨Nat.le_refl _, Nat.le_refl _⟩) (fun H locs M => ?_)
    refine lv_goto (tgt := 288) C.x C.b dM_work_280 (by decide) ?_
    exact b_M_work_288 C hr hlk hnm _ _ _ _ _ M (lv_sub hl [] rfl) hf
def f_M_work_b250 (N : Nat) (t0 : Int32) (E : hE) : Option (Int32 × hE) := (
  some (t0, E))
set_option maxHeartbeats 4000000 in
set_option maxRecDepth 100000 in
theorem b_M_work_250 {p : Program} {l : Launch} {e : Env} {s : State} {m : MethodId} {args : Array Value} {below : List Frame} {meth : Method} {c : Code} {D : va_G} {kA : Nat → ClassId} {S : hE} {g : Nat → Nat} {n0 nx : Nat} {N : Nat} {res : Int32 × hE} (C : hX p s m args c prog_11_method_33_code 4 R_M ws_M_work D kA S g n0) (hr : meth.sig.returnType = (some .int)) (hlk : meth.locks = false) (hnm : meth.name = "work") : ∀ (t0 : Int32) (E : hE) (H : Heap) (locs : List Loc) (ls : Array Slot), hY D kA n0 s E nx H locs → lv_has ls 4 [] → f_M_work_b250 N  t0 E = some res → W p l e rm_M_work s m args below meth c H locs 0 0 (MQ below (va_Qi (fun r w => r = res.1 ∧ w = (res.2, nx)) (hJ D kA S g n0) (fun q => n0 ≤ q)) args s 0 0 (fun q => n0 ≤ q)) (F0 m 250 ls [.int t0]) := by
  intro t0 E H locs ls M hl hf
  unfold f_M_work_b250 at hf
  cases hf
  exact w_iret C M hr hlk rfl (Nat.le_refl _) (Nat.le_refl _) dM_work_250 rfl rfl
def f_M_work_b174 (N : Nat) (y0 : Option Nat) (y1 : Int32) (t0 : Option Nat) (t1 : Int32) (t2 : Int32) (E : hE) : Option (Int32 × hE) := (
  (gO E y0 7).bind fun o177 =>
  (f_M_value N E o177.1 y1 1).bind fun v177 =>
  (gO E t0 7).bind fun o184 =>
  (f_M_says o184.1 t1 t2 (v177 &&& 255) E).bind fun v184 =>
  some (v184.1, v184.2))
set_option maxHeartbeats 4000000 in
set_option maxRecDepth 100000 in
theorem b_M_work_174 {p : Program} {l : Launch} {e : Env} {s : State} {m : MethodId} {args : Array Value} {below : List Frame} {meth : Method} {c : Code} {D : va_G} {kA : Nat → ClassId} {S : hE} {g : Nat → Nat} {n0 nx : Nat} {N : Nat} {res : Int32 × hE} (C : hX p s m args c prog_11_method_33_code 4 R_M ws_M_work D kA S g n0) (hr : meth.sig.returnType = (some .int)) (hlk : meth.locks = false) (hnm : meth.name = "work") : ∀ (y0 : Option Nat) (y1 : Int32) (t0 : Option Nat) (t1 : Int32) (t2 : Int32) (E : hE) (H : Heap) (locs : List Loc) (ls : Array Slot), hY D kA n0 s E nx H locs → lv_has ls 4 [(0, va_rf y0), (1, .int y1)] → f_M_work_b174 N  y0 y1 t0 t1 t2 E = some res → W p l e rm_M_work s m args below meth c H locs 0 0 (MQ below (va_Qi (fun r w => r = res.1 ∧ w = (res.2, nx)) (hJ D kA S g n0) (fun q => n0 ≤ q)) args s 0 0 (fun q => n0 ≤ q)) (F0 m 174 ls [.int t2, .int t1, va_rf t0]) := by
  intro y0 y1 t0 t1 t2 E H locs ls M hl hf
  unfold f_M_work_b174 at hf
  refine w_aload_n C.x C.b dM_work_174 rfl (lv_at hl 0 rfl) ?_
  refine lv_iload_n C.x C.b dM_work_175 rfl (lv_at hl 1 rfl) ?_
  refine lv_iconst (v := 1) C.x C.b dM_work_176 (by decide) ?_
  obtain ⟨o177, g177, hf⟩ := Option.bind_eq_some_iff.mp hf
  obtain ⟨v177, h177, hf⟩ := Option.bind_eq_some_iff.mp hf
  refine w_ci M (w_runV C M g177 rfl (c_M_value h177) (cwV 2 C.ts (hgV wm_965 wm_967 sel_M_value wm_6 wm_968) rfl rfl rfl (by decide +kernel) ⟨Nat.le_of_ble_eq_true rfl, Nat.le_of_ble_eq_true rfl⟩) rfl hl.1 rfl (by simp [va_rf_cat, cat_i, cat_l, cat_n]) dM_work_177 ⟨Nat.le_refl _, Nat.le_refl _⟩) (fun H locs M => ?_)
  refine lv_sipush (v := 255) C.x C.b dM_work_180 (by decide) ?_
  refine lv_iand C.x C.b dM_work_183 ?_
  obtain ⟨o184, g184, hf⟩ := Option.bind_eq_some_iff.mp hf
  obtain ⟨v184, h184, hf⟩ := Option.bind_eq_some_iff.mp hf
  refine w_ci M (w_runV C M g184 rfl (c_M_says h184) (cwV 3 C.ts (hgV wm_1005 wm_1007 sel_M_says wm_6 wm_1008) rfl rfl rfl (by decide +kernel) ⟨Nat.le_of_ble_eq_true rfl, Nat.le_of_ble_eq_true rfl⟩) rfl hl.1 rfl (Nat.zero_le _) dM_work_184 ⟨Nat.le_refl _, Nat.le_refl _⟩) (fun H locs M => ?_)
  cases hf
  exact w_iret C M hr hlk rfl (Nat.le_refl _) (Nat.le_refl _) dM_work_187 rfl rfl
def f_M_work_b159 (N : Nat) (y0 : Option Nat) (y1 : Int32) (y2 : Int64) (E : hE) : Option (Int32 × hE) := (
  if (lg_cmp y2 7304564) = 0 then (
  f_M_work_b174 N y0 y1 y0 y1 1 E
  ) else (
  f_M_work_b174 N y0 y1 y0 y1 0 E
  ))
set_option maxHeartbeats 4000000 in
set_option maxRecDepth 100000 in
theorem b_M_work_159 {p : Program} {l : Launch} {e : Env} {s : State} {m : MethodId} {args : Array Value} {below : List Frame} {meth : Method} {c : Code} {D : va_G} {kA : Nat → ClassId} {S : hE} {g : Nat → Nat} {n0 nx : Nat} {N : Nat} {res : Int32 × hE} (C : hX p s m args c prog_11_method_33_code 4 R_M ws_M_work D kA S g n0) (hr : meth.sig.returnType = (some .int)) (hlk : meth.locks = false) (hnm : meth.name = "work") : ∀ (y0 : Option Nat) (y1 : Int32) (y2 : Int64) (E : hE) (H : Heap) (locs : List Loc) (ls : Array Slot), hY D kA n0 s E nx H locs → lv_has ls 4 [(0, va_rf y0), (1, .int y1), (2, .long y2)] → f_M_work_b159 N  y0 y1 y2 E = some res → W p l e rm_M_work s m args below meth c H locs 0 0 (MQ below (va_Qi (fun r w => r = res.1 ∧ w = (res.2, nx)) (hJ D kA S g n0) (fun q => n0 ≤ q)) args s 0 0 (fun q => n0 ≤ q)) (F0 m 159 ls []) := by
  intro y0 y1 y2 E H locs ls M hl hf
  unfold f_M_work_b159 at hf
  refine w_aload_n C.x C.b dM_work_159 rfl (lv_at hl 0 rfl) ?_
  refine lv_iload_n C.x C.b dM_work_160 rfl (lv_at hl 1 rfl) ?_
  refine lv_lload_n C.x C.b dM_work_161 rfl (lv_at hl 2 rfl) ?_
  refine lv_ldc2 (v := 7304564) C.x C.b C.ow (C.ts (.constantLong R_M 172 7304564) (List.mem_cons_of_mem _ wm_898)) dM_work_162 ?_
  refine W.lcmp C.x C.b dM_work_165 ?_
  refine lv_if_ne (tgt := 173) C.x C.b dM_work_166 (by decide) (fun c166 => ?_) (fun c166 => ?_)
  · rw [if_neg c166] at hf
    refine lv_iconst (v := 0) C.x C.b dM_work_173 (by decide) ?_
    exact b_M_work_174 C hr hlk hnm _ _ _ _ _ _ _ _ _ M (lv_sub hl [0, 1] rfl) hf
  · rw [if_pos c166] at hf
    refine lv_iconst (v := 1) C.x C.b dM_work_169 (by decide) ?_
    refine lv_goto (tgt := 174) C.x C.b dM_work_170 (by decide) ?_
    exact b_M_work_174 C hr hlk hnm _ _ _ _ _ _ _ _ _ M (lv_sub hl [0, 1] rfl) hf
def f_M_work_b137 (N : Nat) (y0 : Option Nat) (y1 : Int32) (E : hE) : Option (Int32 × hE) := (
  (gO E y0 7).bind fun o139 =>
  (f_M_withFiles N o139.1 y1 E).bind fun v139 =>
  some (v139.1, v139.2))
set_option maxHeartbeats 4000000 in
set_option maxRecDepth 100000 in
theorem b_M_work_137 {p : Program} {l : Launch} {e : Env} {s : State} {m : MethodId} {args : Array Value} {below : List Frame} {meth : Method} {c : Code} {D : va_G} {kA : Nat → ClassId} {S : hE} {g : Nat → Nat} {n0 nx : Nat} {N : Nat} {res : Int32 × hE} (C : hX p s m args c prog_11_method_33_code 4 R_M ws_M_work D kA S g n0) (hr : meth.sig.returnType = (some .int)) (hlk : meth.locks = false) (hnm : meth.name = "work") : ∀ (y0 : Option Nat) (y1 : Int32) (E : hE) (H : Heap) (locs : List Loc) (ls : Array Slot), hY D kA n0 s E nx H locs → lv_has ls 4 [(0, va_rf y0), (1, .int y1)] → f_M_work_b137 N  y0 y1 E = some res → W p l e rm_M_work s m args below meth c H locs 0 0 (MQ below (va_Qi (fun r w => r = res.1 ∧ w = (res.2, nx)) (hJ D kA S g n0) (fun q => n0 ≤ q)) args s 0 0 (fun q => n0 ≤ q)) (F0 m 137 ls []) := by
  intro y0 y1 E H locs ls M hl hf
  unfold f_M_work_b137 at hf
  refine w_aload_n C.x C.b dM_work_137 rfl (lv_at hl 0 rfl) ?_
  refine lv_iload_n C.x C.b dM_work_138 rfl (lv_at hl 1 rfl) ?_
  obtain ⟨o139, g139, hf⟩ := Option.bind_eq_some_iff.mp hf
  obtain ⟨v139, h139, hf⟩ := Option.bind_eq_some_iff.mp hf
  refine w_ci M (w_runV C M g139 rfl (c_M_withFiles h139) (cwV 1 C.ts (hgV wm_989 wm_991 sel_M_withFiles wm_6 wm_992) rfl rfl rfl (by decide +kernel) ⟨Nat.le_of_ble_eq_true rfl, Nat.le_of_ble_eq_true rfl⟩) rfl hl.1 rfl (Nat.zero_le _) dM_work_139 ⟨Nat.le_refl _, Nat.le_refl _⟩) (fun H locs M => ?_)
  cases hf
  exact w_iret C M hr hlk rfl (Nat.le_refl _) (Nat.le_refl _) dM_work_142 rfl rfl
def f_M_work_b70 (N : Nat) (t0 : Int32) (E : hE) : Option (Int32 × hE) := (
  some (t0, E))
set_option maxHeartbeats 4000000 in
set_option maxRecDepth 100000 in
theorem b_M_work_70 {p : Program} {l : Launch} {e : Env} {s : State} {m : MethodId} {args : Array Value} {below : List Frame} {meth : Method} {c : Code} {D : va_G} {kA : Nat → ClassId} {S : hE} {g : Nat → Nat} {n0 nx : Nat} {N : Nat} {res : Int32 × hE} (C : hX p s m args c prog_11_method_33_code 4 R_M ws_M_work D kA S g n0) (hr : meth.sig.returnType = (some .int)) (hlk : meth.locks = false) (hnm : meth.name = "work") : ∀ (t0 : Int32) (E : hE) (H : Heap) (locs : List Loc) (ls : Array Slot), hY D kA n0 s E nx H locs → lv_has ls 4 [] → f_M_work_b70 N  t0 E = some res → W p l e rm_M_work s m args below meth c H locs 0 0 (MQ below (va_Qi (fun r w => r = res.1 ∧ w = (res.2, nx)) (hJ D kA S g n0) (fun q => n0 ≤ q)) args s 0 0 (fun q => n0 ≤ q)) (F0 m 70 ls [.int t0]) := by
  intro t0 E H locs ls M hl hf
  unfold f_M_work_b70 at hf
  cases hf
  exact w_iret C M hr hlk rfl (Nat.le_refl _) (Nat.le_refl _) dM_work_70 rfl rfl
def f_M_work (N : Nat) (x0 : Nat) (x1 : Int32) (E : hE) : Option (Int32 × hE) := (
  (gR E (some x0) 7 9).bind fun v1 =>
  (aJ E v1 2 0).bind fun v5 =>
  if (lg_cmp v5 7103860) = 0 then (
  (gO E (some x0) 7).bind fun o17 =>
  (f_M_let N o17.1 x1 E).bind fun v17 =>
  some (v17.1, v17.2)
  ) else (
  if (lg_cmp v5 6776180) = 0 then (
  (gO E (some x0) 7).bind fun o32 =>
  (f_M_value N E o32.1 x1 2).bind fun v32 =>
  (f_M_in E v32 0 31).bind fun v38 =>
  if v38 = 0 then (
  f_M_work_b70 N 102 E
  ) else (
  (gR E (some x0) 7 30).bind fun v47 =>
  (gO E (some x0) 7).bind fun o57 =>
  (f_M_value N E o57.1 x1 2).bind fun v57 =>
  (aI E v47 0 ((32 * x1) + v57)).bind fun v61 =>
  (gO E (some x0) 7).bind fun o62 =>
  (f_M_gives o62.1 x1 v61 E).bind fun v62 =>
  f_M_work_b70 N v62.1 v62.2
  )
  ) else (
  if (lg_cmp v5 7370100) = 0 then (
  (gO E (some x0) 7).bind fun o84 =>
  (f_M_value N E o84.1 x1 1).bind fun v84 =>
  (gO E (some x0) 7).bind fun o90 =>
  (f_M_value N E o90.1 x1 2).bind fun v90 =>
  (gO E (some x0) 7).bind fun o93 =>
  (f_M_put o93.1 x1 v84 v90 E).bind fun v93 =>
  some (v93.1, v93.2)
  ) else (
  if (lg_cmp v5 1936292453) = 0 then (
  f_M_work_b137 N (some x0) x1 E
  ) else (
  if (lg_cmp v5 1919246692) = 0 then (
  f_M_work_b137 N (some x0) x1 E
  ) else (
  if (lg_cmp v5 513020621925) = 0 then (
  f_M_work_b137 N (some x0) x1 E
  ) else (
  if (lg_cmp v5 1685221232) = 0 then (
  f_M_work_b137 N (some x0) x1 E
  ) else (
  if (lg_cmp v5 1668247673) = 0 then (
  f_M_work_b137 N (some x0) x1 E
  ) else (
  if (lg_cmp v5 7304564) = 0 then (
  f_M_work_b159 N (some x0) x1 v5 E
  ) else (
  if (lg_cmp v5 6648434) = 0 then (
  f_M_work_b159 N (some x0) x1 v5 E
  ) else (
  if (lg_cmp v5 26479) = 0 then (
  (gO E (some x0) 7).bind fun o199 =>
  (f_M_goesTo o199.1 x1 1 E).bind fun v199 =>
  some (v199.1, v199.2)
  ) else (
  if (lg_cmp v5 26982) = 0 then (
  (gO E (some x0) 7).bind fun o214 =>
  (f_M_value N E o214.1 x1 1).bind fun v214 =>
  (gR E (some x0) 7 9).bind fun v218 =>
  (aJ E v218 2 2).bind fun v222 =>
  (gO E (some x0) 7).bind fun o227 =>
  (f_M_value N E o227.1 x1 3).bind fun v227 =>
  (f_M_isSo E v214 v222.toInt32 v227).bind fun v230 =>
  if v230 = 0 then (
  (gO E (some x0) 7).bind fun o247 =>
  (f_M_goesOn o247.1 x1 E).bind fun v247 =>
  f_M_work_b250 N v247.1 v247.2
  ) else (
  (gO E (some x0) 7).bind fun o239 =>
  (f_M_goesTo o239.1 x1 5 E).bind fun v239 =>
  f_M_work_b250 N v239.1 v239.2
  )
  ) else (
  if (lg_cmp v5 1667329132) = 0 then (
  f_M_work_b267 N (some x0) x1 v5 E
  ) else (
  if (lg_cmp v5 1650549611) = 0 then (
  f_M_work_b267 N (some x0) x1 v5 E
  ) else (
  if (lg_cmp v5 7501166) = 0 then (
  (gO E (some x0) 7).bind fun o302 =>
  (f_M_value N E o302.1 x1 2).bind fun v302 =>
  (gO E (some x0) 7).bind fun o308 =>
  (f_M_value N E o308.1 x1 3).bind fun v308 =>
  (gO E (some x0) 7).bind fun o311 =>
  (f_M_child N o311.1 x1 v302 v308 E).bind fun v311 =>
  some (v311.1, v311.2)
  ) else (
  if (lg_cmp v5 6386539) = 0 then (
  (gO E (some x0) 7).bind fun o328 =>
  (f_M_value N E o328.1 x1 2).bind fun v328 =>
  (gO E (some x0) 7).bind fun o331 =>
  (f_M_ask o331.1 x1 v328 E).bind fun v331 =>
  some (v331.1, v331.2)
  ) else (
  (gO E (some x0) 7).bind fun o338 =>
  (f_M_value N E o338.1 x1 1).bind fun v338 =>
  some (v338 &&& 63, E)
  )
  )
  )
  )
  )
  )
  )
  )
  )
  )
  )
  )
  )
  )
  )
  ))
set_option maxHeartbeats 4000000 in
set_option maxRecDepth 100000 in
theorem c_M_work {l : Launch} {D : va_G} {kA : Nat → ClassId} {S : hE} {g : Nat → Nat} {n0 nx : Nat} {N : Nat} {x0 : Nat} {x1 : Int32} {E : hE} {res : Int32 × hE} (hf : f_M_work N x0 x1 E = some res) : Met l y_M_work ws_M_work rm_M_work (va_Pc [va_rf (some x0), .int x1] (hJ D kA S g n0 (E, nx))) (va_Qi (fun r w => r = res.1 ∧ w = (res.2, nx)) (hJ D kA S g n0) (fun q => n0 ≤ q)) 0 0 (fun q => n0 ≤ q) := by
  refine h_met (cc := prog_11_method_33_code) (maxL := 4) (ret := (some .int)) (lvs := [(0, va_rf (some x0)), (1, .int x1)]) zZ_k (by decide) rfl (by simp [lg_sl, va_rf_cat, cat_i, cat_l, cat_n]) (by simp [lv_args, va_rf_cat, cat_i, cat_l, cat_n]) ?_
  intro p e s m below meth c ls C M hr hlk hnm hl
  unfold f_M_work at hf
  refine w_aload_n C.x C.b dM_work_0 rfl (lv_at hl 0 rfl) ?_
  obtain ⟨v1, h1, hf⟩ := Option.bind_eq_some_iff.mp hf
  refine w_getR C M h1 rfl (hm_in in_M) (by decide) (List.mem_cons_of_mem _ wm_732) rfl dM_work_1 ?_
  refine lv_iconst (v := 0) C.x C.b dM_work_4 (by decide) ?_
  obtain ⟨v5, h5, hf⟩ := Option.bind_eq_some_iff.mp hf
  refine w_lald C M h5 rfl dM_work_5 ?_
  refine lv_lstore_n (lv' := [(2, .long v5), (0, va_rf (some x0)), (1, .int x1)]) C.x C.b dM_work_6 rfl hl (by decide) rfl (fun ls hl => ?_)
  refine lv_lload_n C.x C.b dM_work_7 rfl (lv_at hl 0 rfl) ?_
  refine lv_ldc2 (v := 7103860) C.x C.b C.ow (C.ts (.constantLong R_M 146 7103860) (List.mem_cons_of_mem _ wm_860)) dM_work_8 ?_
  refine W.lcmp C.x C.b dM_work_11 ?_
  refine lv_if_ne (tgt := 21) C.x C.b dM_work_12 (by decide) (fun c12 => ?_) (fun c12 => ?_)
  · rw [if_neg c12] at hf
    refine lv_lload_n C.x C.b dM_work_21 rfl (lv_at hl 0 rfl) ?_
    refine lv_ldc2 (v := 6776180) C.x C.b C.ow (C.ts (.constantLong R_M 154 6776180) (List.mem_cons_of_mem _ wm_889)) dM_work_22 ?_
    refine W.lcmp C.x C.b dM_work_25 ?_
    refine lv_if_ne (tgt := 71) C.x C.b dM_work_26 (by decide) (fun c26 => ?_) (fun c26 => ?_)
    · rw [if_neg c26] at hf
      refine lv_lload_n C.x C.b dM_work_71 rfl (lv_at hl 0 rfl) ?_
      refine lv_ldc2 (v := 7370100) C.x C.b C.ow (C.ts (.constantLong R_M 160 7370100) (List.mem_cons_of_mem _ wm_892)) dM_work_72 ?_
      refine W.lcmp C.x C.b dM_work_75 ?_
      refine lv_if_ne (tgt := 97) C.x C.b dM_work_76 (by decide) (fun c76 => ?_) (fun c76 => ?_)
      · rw [if_neg c76] at hf
        refine lv_lload_n C.x C.b dM_work_97 rfl (lv_at hl 0 rfl) ?_
        refine lv_ldc2 (v := 1936292453) C.x C.b C.ow (C.ts (.constantLong R_M 156 1936292453) (List.mem_cons_of_mem _ wm_890)) dM_work_98 ?_
        refine W.lcmp C.x C.b dM_work_101 ?_
        refine lv_if_eq (tgt := 137) C.x C.b dM_work_102 (by decide) (fun c102 => ?_) (fun c102 => ?_)
        · rw [if_pos c102] at hf
          exact b_M_work_137 C hr hlk hnm _ _ _ _ _ _ M (lv_sub hl [1, 2] rfl) hf
        · rw [if_neg c102] at hf
          refine lv_lload_n C.x C.b dM_work_105 rfl (lv_at hl 0 rfl) ?_
          refine lv_ldc2 (v := 1919246692) C.x C.b C.ow (C.ts (.constantLong R_M 166 1919246692) (List.mem_cons_of_mem _ wm_895)) dM_work_106 ?_
          refine W.lcmp C.x C.b dM_work_109 ?_
          refine lv_if_eq (tgt := 137) C.x C.b dM_work_110 (by decide) (fun c110 => ?_) (fun c110 => ?_)
          · rw [if_pos c110] at hf
            exact b_M_work_137 C hr hlk hnm _ _ _ _ _ _ M (lv_sub hl [1, 2] rfl) hf
          · rw [if_neg c110] at hf
            refine lv_lload_n C.x C.b dM_work_113 rfl (lv_at hl 0 rfl) ?_
            refine lv_ldc2 (v := 513020621925) C.x C.b C.ow (C.ts (.constantLong R_M 162 513020621925) (List.mem_cons_of_mem _ wm_893)) dM_work_114 ?_
            refine W.lcmp C.x C.b dM_work_117 ?_
            refine lv_if_eq (tgt := 137) C.x C.b dM_work_118 (by decide) (fun c118 => ?_) (fun c118 => ?_)
            · rw [if_pos c118] at hf
              exact b_M_work_137 C hr hlk hnm _ _ _ _ _ _ M (lv_sub hl [1, 2] rfl) hf
            · rw [if_neg c118] at hf
              refine lv_lload_n C.x C.b dM_work_121 rfl (lv_at hl 0 rfl) ?_
              refine lv_ldc2 (v := 1685221232) C.x C.b C.ow (C.ts (.constantLong R_M 170 1685221232) (List.mem_cons_of_mem _ wm_897)) dM_work_122 ?_
              refine W.lcmp C.x C.b dM_work_125 ?_
              refine lv_if_eq (tgt := 137) C.x C.b dM_work_126 (by decide) (fun c126 => ?_) (fun c126 => ?_)
              · rw [if_pos c126] at hf
                exact b_M_work_137 C hr hlk hnm _ _ _ _ _ _ M (lv_sub hl [1, 2] rfl) hf
              · rw [if_neg c126] at hf
                refine lv_lload_n C.x C.b dM_work_129 rfl (lv_at hl 0 rfl) ?_
                refine lv_ldc2 (v := 1668247673) C.x C.b C.ow (C.ts (.constantLong R_M 164 1668247673) (List.mem_cons_of_mem _ wm_894)) dM_work_130 ?_
                refine W.lcmp C.x C.b dM_work_133 ?_
                refine lv_if_ne (tgt := 143) C.x C.b dM_work_134 (by decide) (fun c134 => ?_) (fun c134 => ?_)
                · rw [if_neg c134] at hf
                  refine lv_lload_n C.x C.b dM_work_143 rfl (lv_at hl 0 rfl) ?_
                  refine lv_ldc2 (v := 7304564) C.x C.b C.ow (C.ts (.constantLong R_M 172 7304564) (List.mem_cons_of_mem _ wm_898)) dM_work_144 ?_
                  refine W.lcmp C.x C.b dM_work_147 ?_
                  refine lv_if_eq (tgt := 159) C.x C.b dM_work_148 (by decide) (fun c148 => ?_) (fun c148 => ?_)
                  · rw [if_pos c148] at hf
                    exact b_M_work_159 C hr hlk hnm _ _ _ _ _ _ _ M (lv_sub hl [1, 2, 0] rfl) hf
                  · rw [if_neg c148] at hf
                    refine lv_lload_n C.x C.b dM_work_151 rfl (lv_at hl 0 rfl) ?_
                    refine lv_ldc2 (v := 6648434) C.x C.b C.ow (C.ts (.constantLong R_M 174 6648434) (List.mem_cons_of_mem _ wm_899)) dM_work_152 ?_
                    refine W.lcmp C.x C.b dM_work_155 ?_
                    refine lv_if_ne (tgt := 188) C.x C.b dM_work_156 (by decide) (fun c156 => ?_) (fun c156 => ?_)
                    · rw [if_neg c156] at hf
                      refine lv_lload_n C.x C.b dM_work_188 rfl (lv_at hl 0 rfl) ?_
                      refine lv_ldc2 (v := 26479) C.x C.b C.ow (C.ts (.constantLong R_M 178 26479) (List.mem_cons_of_mem _ wm_901)) dM_work_189 ?_
                      refine W.lcmp C.x C.b dM_work_192 ?_
                      refine lv_if_ne (tgt := 203) C.x C.b dM_work_193 (by decide) (fun c193 => ?_) (fun c193 => ?_)
                      · rw [if_neg c193] at hf
                        refine lv_lload_n C.x C.b dM_work_203 rfl (lv_at hl 0 rfl) ?_
                        refine lv_ldc2 (v := 26982) C.x C.b C.ow (C.ts (.constantLong R_M 185 26982) (List.mem_cons_of_mem _ wm_907)) dM_work_204 ?_
                        refine W.lcmp C.x C.b dM_work_207 ?_
                        refine lv_if_ne (tgt := 251) C.x C.b dM_work_208 (by decide) (fun c208 => ?_) (fun c208 => ?_)
                        · rw [if_neg c208] at hf
                          refine lv_lload_n C.x C.b dM_work_251 rfl (lv_at hl 0 rfl) ?_
                          refine lv_ldc2 (v := 1667329132) C.x C.b C.ow (C.ts (.constantLong R_M 180 1667329132) (List.mem_cons_of_mem _ wm_902)) dM_work_252 ?_
                          refine W.lcmp C.x C.b dM_work_255 ?_
                          refine lv_if_eq (tgt := 267) C.x C.b dM_work_256 (by decide) (fun c256 => ?_) (fun c256 => ?_)
                          · rw [if_pos c256] at hf
                            exact b_M_work_267 C hr hlk hnm _ _ _ _ _ _ _ M (lv_sub hl [1, 2, 0] rfl) hf
                          · rw [if_neg c256] at hf
                            refine lv_lload_n C.x C.b dM_work_259 rfl (lv_at hl 0 rfl) ?_
                            refine lv_ldc2 (v := 1650549611) C.x C.b C.ow (C.ts (.constantLong R_M 190 1650549611) (List.mem_cons_of_mem _ wm_913)) dM_work_260 ?_
                            refine W.lcmp C.x C.b dM_work_263 ?_
                            refine lv_if_ne (tgt := 289) C.x C.b dM_work_264 (by decide) (fun c264 => ?_) (fun c264 => ?_)
                            · rw [if_neg c264] at hf
                              refine lv_lload_n C.x C.b dM_work_289 rfl (lv_at hl 0 rfl) ?_
                              refine lv_ldc2 (v := 7501166) C.x C.b C.ow (C.ts (.constantLong R_M 168 7501166) (List.mem_cons_of_mem _ wm_896)) dM_work_290 ?_
                              refine W.lcmp C.x C.b dM_work_293 ?_
                              refine lv_if_ne (tgt := 315) C.x C.b dM_work_294 (by decide) (fun c294 => ?_) (fun c294 => ?_)
                              · rw [if_neg c294] at hf
                                refine lv_lload_n C.x C.b dM_work_315 rfl (lv_at hl 0 rfl) ?_
                                refine lv_ldc2 (v := 6386539) C.x C.b C.ow (C.ts (.constantLong R_M 158 6386539) (List.mem_cons_of_mem _ wm_891)) dM_work_316 ?_
                                refine W.lcmp C.x C.b dM_work_319 ?_
                                refine lv_if_ne (tgt := 335) C.x C.b dM_work_320 (by decide) (fun c320 => ?_) (fun c320 => ?_)
                                · rw [if_neg c320] at hf
                                  refine w_aload_n C.x C.b dM_work_335 rfl (lv_at hl 1 rfl) ?_
                                  refine lv_iload_n C.x C.b dM_work_336 rfl (lv_at hl 2 rfl) ?_
                                  refine lv_iconst (v := 1) C.x C.b dM_work_337 (by decide) ?_
                                  obtain ⟨o338, g338, hf⟩ := Option.bind_eq_some_iff.mp hf
                                  obtain ⟨v338, h338, hf⟩ := Option.bind_eq_some_iff.mp hf
                                  refine w_ci M (w_runV C M g338 rfl (c_M_value h338) (cwV 2 C.ts (hgV wm_965 wm_967 sel_M_value wm_6 wm_968) rfl rfl rfl (by decide +kernel) ⟨Nat.le_of_ble_eq_true rfl, Nat.le_of_ble_eq_true rfl⟩) rfl hl.1 rfl (Nat.zero_le _) dM_work_338 ⟨Nat.le_refl _, Nat.le_refl _⟩) (fun H locs M => ?_)
                                  refine lv_bipush (v := 63) C.x C.b dM_work_341 (by decide) ?_
                                  refine lv_iand C.x C.b dM_work_343 ?_
                                  cases hf
                                  exact w_iret C M hr hlk rfl (Nat.le_refl _) (Nat.le_refl _) dM_work_344 rfl rfl
                                · rw [if_pos c320] at hf
                                  refine w_aload_n C.x C.b dM_work_323 rfl (lv_at hl 1 rfl) ?_
                                  refine lv_iload_n C.x C.b dM_work_324 rfl (lv_at hl 2 rfl) ?_
                                  refine w_aload_n C.x C.b dM_work_325 rfl (lv_at hl 1 rfl) ?_
                                  refine lv_iload_n C.x C.b dM_work_326 rfl (lv_at hl 2 rfl) ?_
                                  refine lv_iconst (v := 2) C.x C.b dM_work_327 (by decide) ?_
                                  obtain ⟨o328, g328, hf⟩ := Option.bind_eq_some_iff.mp hf
                                  obtain ⟨v328, h328, hf⟩ := Option.bind_eq_some_iff.mp hf
                                  refine w_ci M (w_runV C M g328 rfl (c_M_value h328) (cwV 2 C.ts (hgV wm_965 wm_967 sel_M_value wm_6 wm_968) rfl rfl rfl (by decide +kernel) ⟨Nat.le_of_ble_eq_true rfl, Nat.le_of_ble_eq_true rfl⟩) rfl hl.1 rfl (by simp [va_rf_cat, cat_i, cat_l, cat_n]) dM_work_328 ⟨Nat.le_refl _, Nat.le_refl _⟩) (fun H locs M => ?_)
                                  obtain ⟨o331, g331, hf⟩ := Option.bind_eq_some_iff.mp hf
                                  obtain ⟨v331, h331, hf⟩ := Option.bind_eq_some_iff.mp hf
                                  refine w_ci M (w_runV C M g331 rfl (c_M_ask h331) (cwV 2 C.ts (hgV wm_1028 wm_1030 sel_M_ask wm_6 wm_1031) rfl rfl rfl (by decide +kernel) ⟨Nat.le_of_ble_eq_true rfl, Nat.le_of_ble_eq_true rfl⟩) rfl hl.1 rfl (Nat.zero_le _) dM_work_331 ⟨Nat.le_refl _, Nat.le_refl _⟩) (fun H locs M => ?_)
                                  cases hf
                                  exact w_iret C M hr hlk rfl (Nat.le_refl _) (Nat.le_refl _) dM_work_334 rfl rfl
                              · rw [if_pos c294] at hf
                                refine w_aload_n C.x C.b dM_work_297 rfl (lv_at hl 1 rfl) ?_
                                refine lv_iload_n C.x C.b dM_work_298 rfl (lv_at hl 2 rfl) ?_
                                refine w_aload_n C.x C.b dM_work_299 rfl (lv_at hl 1 rfl) ?_
                                refine lv_iload_n C.x C.b dM_work_300 rfl (lv_at hl 2 rfl) ?_
                                refine lv_iconst (v := 2) C.x C.b dM_work_301 (by decide) ?_
                                obtain ⟨o302, g302, hf⟩ := Option.bind_eq_some_iff.mp hf
                                obtain ⟨v302, h302, hf⟩ := Option.bind_eq_some_iff.mp hf
                                refine w_ci M (w_runV C M g302 rfl (c_M_value h302) (cwV 2 C.ts (hgV wm_965 wm_967 sel_M_value wm_6 wm_968) rfl rfl rfl (by decide +kernel) ⟨Nat.le_of_ble_eq_true rfl, Nat.le_of_ble_eq_true rfl⟩) rfl hl.1 rfl (by simp [va_rf_cat, cat_i, cat_l, cat_n]) dM_work_302 ⟨Nat.le_refl _, Nat.le_refl _⟩) (fun H locs M => ?_)
                                refine w_aload_n C.x C.b dM_work_305 rfl (lv_at hl 1 rfl) ?_
                                refine lv_iload_n C.x C.b dM_work_306 rfl (lv_at hl 2 rfl) ?_
                                refine lv_iconst (v := 3) C.x C.b dM_work_307 (by decide) ?_
                                obtain ⟨o308, g308, hf⟩ := Option.bind_eq_some_iff.mp hf
                                obtain ⟨v308, h308, hf⟩ := Option.bind_eq_some_iff.mp hf
                                refine w_ci M (w_runV C M g308 rfl (c_M_value h308) (cwV 2 C.ts (hgV wm_965 wm_967 sel_M_value wm_6 wm_968) rfl rfl rfl (by decide +kernel) ⟨Nat.le_of_ble_eq_true rfl, Nat.le_of_ble_eq_true rfl⟩) rfl hl.1 rfl (by simp [va_rf_cat, cat_i, cat_l, cat_n]) dM_work_308 ⟨Nat.le_refl _, Nat.le_refl _⟩) (fun H locs M => ?_)
                                obtain ⟨o311, g311, hf⟩ := Option.bind_eq_some_iff.mp hf
                                obtain ⟨v311, h311, hf⟩ := Option.bind_eq_some_iff.mp hf
                                refine w_ci M (w_runV C M g311 rfl (c_M_child h311) (cwV 3 C.ts (hgV wm_1024 wm_1026 sel_M_child wm_6 wm_1027) rfl rfl rfl (by decide +kernel) ⟨Nat.le_of_ble_eq_true rfl, Nat.le_of_ble_eq_true rfl⟩) rfl hl.1 rfl (Nat.zero_le _) dM_work_311 ⟨Nat.le_refl _, Nat.le_refl _⟩) (fun H locs M => ?_)
                                cases hf
                                exact w_iret C M hr hlk rfl (Nat.le_refl _) (Nat.le_refl _) dM_work_314 rfl rfl
                            · rw [if_pos c264] at hf
                              exact b_M_work_267 C hr hlk hnm _ _ _ _ _ _ _ M (lv_sub hl [1, 2, 0] rfl) hf
                        · rw [if_pos c208] at hf
                          refine w_aload_n C.x C.b dM_work_211 rfl (lv_at hl 1 rfl) ?_
                          refine lv_iload_n C.x C.b dM_work_212 rfl (lv_at hl 2 rfl) ?_
                          refine lv_iconst (v := 1) C.x C.b dM_work_213 (by decide) ?_
                          obtain ⟨o214, g214, hf⟩ := Option.bind_eq_some_iff.mp hf
                          obtain ⟨v214, h214, hf⟩ := Option.bind_eq_some_iff.mp hf
                          refine w_ci M (w_runV C M g214 rfl (c_M_value h214) (cwV 2 C.ts (hgV wm_965 wm_967 sel_M_value wm_6 wm_968) rfl rfl rfl (by decide +kernel) ⟨Nat.le_of_ble_eq_true rfl, Nat.le_of_ble_eq_true rfl⟩) rfl hl.1 rfl (Nat.zero_le _) dM_work_214 ⟨Nat.le_refl _, Nat.le_refl _⟩) (fun H locs M => ?_)
                          refine w_aload_n C.x C.b dM_work_217 rfl (lv_at hl 1 rfl) ?_
                          obtain ⟨v218, h218, hf⟩ := Option.bind_eq_some_iff.mp hf
                          refine w_getR C M h218 rfl (hm_in in_M) (by decide) (List.mem_cons_of_mem _ wm_732) rfl dM_work_218 ?_
                          refine lv_iconst (v := 2) C.x C.b dM_work_221 (by decide) ?_
                          obtain ⟨v222, h222, hf⟩ := Option.bind_eq_some_iff.mp hf
                          refine w_lald C M h222 rfl dM_work_222 ?_
                          refine lv_l2i C.x C.b dM_work_223 rfl ?_
                          refine w_aload_n C.x C.b dM_work_224 rfl (lv_at hl 1 rfl) ?_
                          refine lv_iload_n C.x C.b dM_work_225 rfl (lv_at hl 2 rfl) ?_
                          refine lv_iconst (v := 3) C.x C.b dM_work_226 (by decide) ?_
                          obtain ⟨o227, g227, hf⟩ := Option.bind_eq_some_iff.mp hf
                          obtain ⟨v227, h227, hf⟩ := Option.bind_eq_some_iff.mp hf
                          refine w_ci M (w_runV C M g227 rfl (c_M_value h227) (cwV 2 C.ts (hgV wm_965 wm_967 sel_M_value wm_6 wm_968) rfl rfl rfl (by decide +kernel) ⟨Nat.le_of_ble_eq_true rfl, Nat.le_of_ble_eq_true rfl⟩) rfl hl.1 rfl (by simp [va_rf_cat, cat_i, cat_l, cat_n]) dM_work_227 ⟨Nat.le_refl _, Nat.le_refl _⟩) (fun H locs M => ?_)
                          obtain ⟨v230, h230, hf⟩ := Option.bind_eq_some_iff.mp hf
                          refine w_ci M (w_runS C M (c_M_isSo h230) (cwS 3 C.ts (hgS wm_1013 wm_1014 wm_6 wm_1015) rfl rfl rfl (by decide +kernel) ⟨Nat.le_of_ble_eq_true rfl, Nat.le_of_ble_eq_true rfl⟩) rfl hl.1 rfl (Nat.zero_le _) dM_work_230 ⟨Nat.le_refl _, Nat.le_refl _⟩) (fun H locs M => ?_)
                          refine lv_if_eq (tgt := 245) C.x C.b dM_work_233 (by decide) (fun c233 => ?_) (fun c233 => ?_)
                          · rw [if_pos c233] at hf
                            refine w_aload_n C.x C.b dM_work_245 rfl (lv_at hl 1 rfl) ?_
                            refine lv_iload_n C.x C.b dM_work_246 rfl (lv_at hl 2 rfl) ?_
                            obtain ⟨o247, g247, hf⟩ := Option.bind_eq_some_iff.mp hf
                            obtain ⟨v247, h247, hf⟩ := Option.bind_eq_some_iff.mp hf
                            refine w_ci M (w_runV C M g247 rfl (c_M_goesOn h247) (cwV 1 C.ts (hgV wm_981 wm_983 sel_M_goesOn wm_6 wm_984) rfl rfl rfl (by decide +kernel) ⟨Nat.le_of_ble_eq_true rfl, Nat.le_of_ble_eq_true rfl⟩) rfl hl.1 rfl (Nat.zero_le _) dM_work_247 ⟨Nat.le_refl _, Nat.le_refl _⟩) (fun H locs M => ?_)
                            exact b_M_work_250 C hr hlk hnm _ _ _ _ _ M (lv_sub hl [] rfl) hf
                          · rw [if_neg c233] at hf
                            refine w_aload_n C.x C.b dM_work_236 rfl (lv_at hl 1 rfl) ?_
                            refine lv_iload_n C.x C.b dM_work_237 rfl (lv_at hl 2 rfl) ?_
                            refine lv_iconst (v := 5) C.x C.b dM_work_238 (by decide) ?_
                            obtain ⟨o239, g239, hf⟩ := Option.bind_eq_some_iff.mp hf
                            obtain ⟨v239, h239, hf⟩ := Option.bind_eq_some_iff.mp hf
                            refine w_ci M (w_runV C M g239 rfl (c_M_goesTo h239) (cwV 2 C.ts (hgV wm_1009 wm_1011 sel_M_goesTo wm_6 wm_1012) rfl rfl rfl (by decide +kernel) ⟨Nat.le_of_ble_eq_true rfl, Nat.le_of_ble_eq_true rfl⟩) rfl hl.1 rfl (Nat.zero_le _) dM_work_239 ⟨Nat.le_refl _, Nat.le_refl _⟩) (fun H locs M => ?_)
                            refine lv_goto (tgt := 250) C.x C.b dM_work_242 (by decide) ?_
                            exact b_M_work_250 C hr hlk hnm _ _ _ _ _ M (lv_sub hl [] rfl) hf
                      · rw [if_pos c193] at hf
                        refine w_aload_n C.x C.b dM_work_196 rfl (lv_at hl 1 rfl) ?_
                        refine lv_iload_n C.x C.b dM_work_197 rfl (lv_at hl 2 rfl) ?_
                        refine lv_iconst (v := 1) C.x C.b dM_work_198 (by decide) ?_
                        obtain ⟨o199, g199, hf⟩ := Option.bind_eq_some_iff.mp hf
                        obtain ⟨v199, h199, hf⟩ := Option.bind_eq_some_iff.mp hf
                        refine w_ci M (w_runV C M g199 rfl (c_M_goesTo h199) (cwV 2 C.ts (hgV wm_1009 wm_1011 sel_M_goesTo wm_6 wm_1012) rfl rfl rfl (by decide +kernel) ⟨Nat.le_of_ble_eq_true rfl, Nat.le_of_ble_eq_true rfl⟩) rfl hl.1 rfl (Nat.zero_le _) dM_work_199 ⟨Nat.le_refl _, Nat.le_refl _⟩) (fun H locs M => ?_)
                        cases hf
                        exact w_iret C M hr hlk rfl (Nat.le_refl _) (Nat.le_refl _) dM_work_202 rfl rfl
                    · rw [if_pos c156] at hf
                      exact b_M_work_159 C hr hlk hnm _ _ _ _ _ _ _ M (lv_sub hl [1, 2, 0] rfl) hf
                · rw [if_pos c134] at hf
                  exact b_M_work_137 C hr hlk hnm _ _ _ _ _ _ M (lv_sub hl [1, 2] rfl) hf
      · rw [if_pos c76] at hf
        refine w_aload_n C.x C.b dM_work_79 rfl (lv_at hl 1 rfl) ?_
        refine lv_iload_n C.x C.b dM_work_80 rfl (lv_at hl 2 rfl) ?_
        refine w_aload_n C.x C.b dM_work_81 rfl (lv_at hl 1 rfl) ?_
        refine lv_iload_n C.x C.b dM_work_82 rfl (lv_at hl 2 rfl) ?_
        refine lv_iconst (v := 1) C.x C.b dM_work_83 (by decide) ?_
        obtain ⟨o84, g84, hf⟩ := Option.bind_eq_some_iff.mp hf
        obtain ⟨v84, h84, hf⟩ := Option.bind_eq_some_iff.mp hf
        refine w_ci M (w_runV C M g84 rfl (c_M_value h84) (cwV 2 C.ts (hgV wm_965 wm_967 sel_M_value wm_6 wm_968) rfl rfl rfl (by decide +kernel) ⟨Nat.le_of_ble_eq_true rfl, Nat.le_of_ble_eq_true rfl⟩) rfl hl.1 rfl (by simp [va_rf_cat, cat_i, cat_l, cat_n]) dM_work_84 ⟨Nat.le_refl _, Nat.le_refl _⟩) (fun H locs M => ?_)
        refine w_aload_n C.x C.b dM_work_87 rfl (lv_at hl 1 rfl) ?_
        refine lv_iload_n C.x C.b dM_work_88 rfl (lv_at hl 2 rfl) ?_
        refine lv_iconst (v := 2) C.x C.b dM_work_89 (by decide) ?_
        obtain ⟨o90, g90, hf⟩ := Option.bind_eq_some_iff.mp hf
        obtain ⟨v90, h90, hf⟩ := Option.bind_eq_some_iff.mp hf
        refine w_ci M (w_runV C M g90 rfl (c_M_value h90) (cwV 2 C.ts (hgV wm_965 wm_967 sel_M_value wm_6 wm_968) rfl rfl rfl (by decide +kernel) ⟨Nat.le_of_ble_eq_true rfl, Nat.le_of_ble_eq_true rfl⟩) rfl hl.1 rfl (by simp [va_rf_cat, cat_i, cat_l, cat_n]) dM_work_90 ⟨Nat.le_refl _, Nat.le_refl _⟩) (fun H locs M => ?_)
        obtain ⟨o93, g93, hf⟩ := Option.bind_eq_some_iff.mp hf
        obtain ⟨v93, h93, hf⟩ := Option.bind_eq_some_iff.mp hf
        refine w_ci M (w_runV C M g93 rfl (c_M_put h93) (cwV 3 C.ts (hgV wm_985 wm_987 sel_M_put wm_6 wm_988) rfl rfl rfl (by decide +kernel) ⟨Nat.le_of_ble_eq_true rfl, Nat.le_of_ble_eq_true rfl⟩) rfl hl.1 rfl (Nat.zero_le _) dM_work_93 ⟨Nat.le_refl _, Nat.le_refl _⟩) (fun H locs M => ?_)
        cases hf
        exact w_iret C M hr hlk rfl (Nat.le_refl _) (Nat.le_refl _) dM_work_96 rfl rfl
    · rw [if_pos c26] at hf
      refine w_aload_n C.x C.b dM_work_29 rfl (lv_at hl 1 rfl) ?_
      refine lv_iload_n C.x C.b dM_work_30 rfl (lv_at hl 2 rfl) ?_
      refine lv_iconst (v := 2) C.x C.b dM_work_31 (by decide) ?_
      obtain ⟨o32, g32, hf⟩ := Option.bind_eq_some_iff.mp hf
      obtain ⟨v32, h32, hf⟩ := Option.bind_eq_some_iff.mp hf
      refine w_ci M (w_runV C M g32 rfl (c_M_value h32) (cwV 2 C.ts (hgV wm_965 wm_967 sel_M_value wm_6 wm_968) rfl rfl rfl (by decide +kernel) ⟨Nat.le_of_ble_eq_true rfl, Nat.le_of_ble_eq_true rfl⟩) rfl hl.1 rfl (Nat.zero_le _) dM_work_32 ⟨Nat.le_refl _, Nat.le_refl _⟩) (fun H locs M => ?_)
      refine lv_iconst (v := 0) C.x C.b dM_work_35 (by decide) ?_
      refine lv_bipush (v := 31) C.x C.b dM_work_36 (by decide) ?_
      obtain ⟨v38, h38, hf⟩ := Option.bind_eq_some_iff.mp hf
      refine w_ci M (w_runS C M (c_M_in h38) (cwS 3 C.ts (hgS wm_829 wm_830 wm_6 wm_831) rfl rfl rfl (by decide +kernel) ⟨Nat.le_of_ble_eq_true rfl, Nat.le_of_ble_eq_true rfl⟩) rfl hl.1 rfl (Nat.zero_le _) dM_work_38 ⟨Nat.le_refl _, Nat.le_refl _⟩) (fun H locs M => ?_)
      refine lv_if_eq (tgt := 68) C.x C.b dM_work_41 (by decide) (fun c41 => ?_) (fun c41 => ?_)
      · rw [if_pos c41] at hf
        refine lv_bipush (v := 102) C.x C.b dM_work_68 (by decide) ?_
        exact b_M_work_70 C hr hlk hnm _ _ _ _ _ M (lv_sub hl [] rfl) hf
      · rw [if_neg c41] at hf
        refine w_aload_n C.x C.b dM_work_44 rfl (lv_at hl 1 rfl) ?_
        refine lv_iload_n C.x C.b dM_work_45 rfl (lv_at hl 2 rfl) ?_
        refine w_aload_n C.x C.b dM_work_46 rfl (lv_at hl 1 rfl) ?_
        obtain ⟨v47, h47, hf⟩ := Option.bind_eq_some_iff.mp hf
        refine w_getR C M h47 rfl (hm_in in_M) (by decide) (List.mem_cons_of_mem _ wm_753) rfl dM_work_47 ?_
        refine lv_bipush (v := 32) C.x C.b dM_work_50 (by decide) ?_
        refine lv_iload_n C.x C.b dM_work_52 rfl (lv_at hl 2 rfl) ?_
        refine lv_imul C.x C.b dM_work_53 ?_
        refine w_aload_n C.x C.b dM_work_54 rfl (lv_at hl 1 rfl) ?_
        refine lv_iload_n C.x C.b dM_work_55 rfl (lv_at hl 2 rfl) ?_
        refine lv_iconst (v := 2) C.x C.b dM_work_56 (by decide) ?_
        obtain ⟨o57, g57, hf⟩ := Option.bind_eq_some_iff.mp hf
        obtain ⟨v57, h57, hf⟩ := Option.bind_eq_some_iff.mp hf
        refine w_ci M (w_runV C M g57 rfl (c_M_value h57) (cwV 2 C.ts (hgV wm_965 wm_967 sel_M_value wm_6 wm_968) rfl rfl rfl (by decide +kernel) ⟨Nat.le_of_ble_eq_true rfl, Nat.le_of_ble_eq_true rfl⟩) rfl hl.1 rfl (by simp [va_rf_cat, cat_i, cat_l, cat_n]) dM_work_57 ⟨Nat.le_refl _, Nat.le_refl _⟩) (fun H locs M => ?_)
        refine lv_iadd C.x C.b dM_work_60 ?_
        obtain ⟨v61, h61, hf⟩ := Option.bind_eq_some_iff.mp hf
        refine w_iald C M h61 rfl dM_work_61 ?_
        obtain ⟨o62, g62, hf⟩ := Option.bind_eq_some_iff.mp hf
        obtain ⟨v62, h62, hf⟩ := Option.bind_eq_some_iff.mp hf
        refine w_ci M (w_runV C M g62 rfl (c_M_gives h62) (cwV 2 C.ts (hgV wm_973 wm_975 sel_M_gives wm_6 wm_976) rfl rfl rfl (by decide +kernel) ⟨Nat.le_of_ble_eq_true rfl, Nat.le_of_ble_eq_true rfl⟩) rfl hl.1 rfl (Nat.zero_le _) dM_work_62 ⟨Nat.le_refl _, Nat.le_refl _⟩) (fun H locs M => ?_)
        refine lv_goto (tgt := 70) C.x C.b dM_work_65 (by decide) ?_
        exact b_M_work_70 C hr hlk hnm _ _ _ _ _ M (lv_sub hl [] rfl) hf
  · rw [if_pos c12] at hf
    refine w_aload_n C.x C.b dM_work_15 rfl (lv_at hl 1 rfl) ?_
    refine lv_iload_n C.x C.b dM_work_16 rfl (lv_at hl 2 rfl) ?_
    obtain ⟨o17, g17, hf⟩ := Option.bind_eq_some_iff.mp hf
    obtain ⟨v17, h17, hf⟩ := Option.bind_eq_some_iff.mp hf
    refine w_ci M (w_runV C M g17 rfl (c_M_let h17) (cwV 1 C.ts (hgV wm_961 wm_963 sel_M_let wm_6 wm_964) rfl rfl rfl (by decide +kernel) ⟨Nat.le_of_ble_eq_true rfl, Nat.le_of_ble_eq_true rfl⟩) rfl hl.1 rfl (Nat.zero_le _) dM_work_17 ⟨Nat.le_refl _, Nat.le_refl _⟩) (fun H locs M => ?_)
    cases hf
    exact w_iret C M hr hlk rfl (Nat.le_refl _) (Nat.le_refl _) dM_work_20 rfl rfl
theorem dM_run_0 : decode prog_11_method_24_code 0 = .ok (.aload_n 0, 1) := by decide +kernel
theorem dM_run_1 : decode prog_11_method_24_code 1 = .ok (.iload_n 1, 1) := by decide +kernel
theorem dM_run_2 : decode prog_11_method_24_code 2 = .ok (.invokevirtual 212, 3) := by decide +kernel
theorem dM_run_5 : decode prog_11_method_24_code 5 = .ok (.ifCond .eq 14, 3) := by decide +kernel
theorem dM_run_8 : decode prog_11_method_24_code 8 = .ok (.iload_n 3, 1) := by decide +kernel
theorem dM_run_9 : decode prog_11_method_24_code 9 = .ok (.iconst 1, 1) := by decide +kernel
theorem dM_run_10 : decode prog_11_method_24_code 10 = .ok (.sipush 2000, 3) := by decide +kernel
theorem dM_run_13 : decode prog_11_method_24_code 13 = .ok (.invokestatic 83, 3) := by decide +kernel
theorem dM_run_16 : decode prog_11_method_24_code 16 = .ok (.ifCond .ne 5, 3) := by decide +kernel
theorem dM_run_19 : decode prog_11_method_24_code 19 = .ok (.iconst (-1), 1) := by decide +kernel
theorem dM_run_20 : decode prog_11_method_24_code 20 = .ok (.ireturn, 1) := by decide +kernel
theorem dM_run_21 : decode prog_11_method_24_code 21 = .ok (.aload_n 0, 1) := by decide +kernel
theorem dM_run_22 : decode prog_11_method_24_code 22 = .ok (.iconst 1, 1) := by decide +kernel
theorem dM_run_23 : decode prog_11_method_24_code 23 = .ok (.putfield 215, 3) := by decide +kernel
theorem dM_run_26 : decode prog_11_method_24_code 26 = .ok (.aload_n 0, 1) := by decide +kernel
theorem dM_run_27 : decode prog_11_method_24_code 27 = .ok (.iconst 0, 1) := by decide +kernel
theorem dM_run_28 : decode prog_11_method_24_code 28 = .ok (.putfield 219, 3) := by decide +kernel
theorem dM_run_31 : decode prog_11_method_24_code 31 = .ok (.aload_n 0, 1) := by decide +kernel
theorem dM_run_32 : decode prog_11_method_24_code 32 = .ok (.iconst 0, 1) := by decide +kernel
theorem dM_run_33 : decode prog_11_method_24_code 33 = .ok (.putfield 222, 3) := by decide +kernel
theorem dM_run_36 : decode prog_11_method_24_code 36 = .ok (.aload_n 0, 1) := by decide +kernel
theorem dM_run_37 : decode prog_11_method_24_code 37 = .ok (.iconst 0, 1) := by decide +kernel
theorem dM_run_38 : decode prog_11_method_24_code 38 = .ok (.putfield 225, 3) := by decide +kernel
theorem dM_run_41 : decode prog_11_method_24_code 41 = .ok (.aload_n 0, 1) := by decide +kernel
theorem dM_run_42 : decode prog_11_method_24_code 42 = .ok (.iconst 0, 1) := by decide +kernel
theorem dM_run_43 : decode prog_11_method_24_code 43 = .ok (.putfield 228, 3) := by decide +kernel
theorem dM_run_46 : decode prog_11_method_24_code 46 = .ok (.aload_n 0, 1) := by decide +kernel
theorem dM_run_47 : decode prog_11_method_24_code 47 = .ok (.iconst 0, 1) := by decide +kernel
theorem dM_run_48 : decode prog_11_method_24_code 48 = .ok (.putfield 231, 3) := by decide +kernel
theorem dM_run_51 : decode prog_11_method_24_code 51 = .ok (.aload_n 0, 1) := by decide +kernel
theorem dM_run_52 : decode prog_11_method_24_code 52 = .ok (.iconst 0, 1) := by decide +kernel
theorem dM_run_53 : decode prog_11_method_24_code 53 = .ok (.iload_n 1, 1) := by decide +kernel
theorem dM_run_54 : decode prog_11_method_24_code 54 = .ok (.iload_n 2, 1) := by decide +kernel
theorem dM_run_55 : decode prog_11_method_24_code 55 = .ok (.invokevirtual 234, 3) := by decide +kernel
theorem dM_run_58 : decode prog_11_method_24_code 58 = .ok (.iconst (-1), 1) := by decide +kernel
theorem dM_run_59 : decode prog_11_method_24_code 59 = .ok (.istore 4, 2) := by decide +kernel
theorem dM_run_61 : decode prog_11_method_24_code 61 = .ok (.iload 4, 2) := by decide +kernel
theorem dM_run_63 : decode prog_11_method_24_code 63 = .ok (.iconst (-1), 1) := by decide +kernel
theorem dM_run_64 : decode prog_11_method_24_code 64 = .ok (.if_icmp .ne 116, 3) := by decide +kernel
theorem dM_run_67 : decode prog_11_method_24_code 67 = .ok (.aload_n 0, 1) := by decide +kernel
theorem dM_run_68 : decode prog_11_method_24_code 68 = .ok (.getfield 238, 3) := by decide +kernel
theorem dM_run_71 : decode prog_11_method_24_code 71 = .ok (.istore 5, 2) := by decide +kernel
theorem dM_run_73 : decode prog_11_method_24_code 73 = .ok (.iconst 0, 1) := by decide +kernel
theorem dM_run_74 : decode prog_11_method_24_code 74 = .ok (.istore 6, 2) := by decide +kernel
theorem dM_run_76 : decode prog_11_method_24_code 76 = .ok (.aload_n 0, 1) := by decide +kernel
theorem dM_run_77 : decode prog_11_method_24_code 77 = .ok (.invokevirtual 241, 3) := by decide +kernel
theorem dM_run_80 : decode prog_11_method_24_code 80 = .ok (.ifCond .eq 36, 3) := by decide +kernel
theorem dM_run_83 : decode prog_11_method_24_code 83 = .ok (.aload_n 0, 1) := by decide +kernel
theorem dM_run_84 : decode prog_11_method_24_code 84 = .ok (.getfield 219, 3) := by decide +kernel
theorem dM_run_87 : decode prog_11_method_24_code 87 = .ok (.iload_n 3, 1) := by decide +kernel
theorem dM_run_88 : decode prog_11_method_24_code 88 = .ok (.if_icmp .ne 10, 3) := by decide +kernel
theorem dM_run_91 : decode prog_11_method_24_code 91 = .ok (.bipush 107, 2) := by decide +kernel
theorem dM_run_93 : decode prog_11_method_24_code 93 = .ok (.istore 4, 2) := by decide +kernel
theorem dM_run_95 : decode prog_11_method_24_code 95 = .ok (.goto (-34), 3) := by decide +kernel
theorem dM_run_98 : decode prog_11_method_24_code 98 = .ok (.aload_n 0, 1) := by decide +kernel
theorem dM_run_99 : decode prog_11_method_24_code 99 = .ok (.dup, 1) := by decide +kernel
theorem dM_run_100 : decode prog_11_method_24_code 100 = .ok (.getfield 219, 3) := by decide +kernel
theorem dM_run_103 : decode prog_11_method_24_code 103 = .ok (.iconst 1, 1) := by decide +kernel
theorem dM_run_104 : decode prog_11_method_24_code 104 = .ok (.iadd, 1) := by decide +kernel
theorem dM_run_105 : decode prog_11_method_24_code 105 = .ok (.putfield 219, 3) := by decide +kernel
theorem dM_run_108 : decode prog_11_method_24_code 108 = .ok (.aload_n 0, 1) := by decide +kernel
theorem dM_run_109 : decode prog_11_method_24_code 109 = .ok (.iload 5, 2) := by decide +kernel
theorem dM_run_111 : decode prog_11_method_24_code 111 = .ok (.invokevirtual 244, 3) := by decide +kernel
theorem dM_run_114 : decode prog_11_method_24_code 114 = .ok (.istore 6, 2) := by decide +kernel
theorem dM_run_116 : decode prog_11_method_24_code 116 = .ok (.iload 6, 2) := by decide +kernel
theorem dM_run_118 : decode prog_11_method_24_code 118 = .ok (.iconst (-1), 1) := by decide +kernel
theorem dM_run_119 : decode prog_11_method_24_code 119 = .ok (.if_icmp .ne 6, 3) := by decide +kernel
theorem dM_run_122 : decode prog_11_method_24_code 122 = .ok (.goto (-61), 3) := by decide +kernel
theorem dM_run_125 : decode prog_11_method_24_code 125 = .ok (.iload 5, 2) := by decide +kernel
theorem dM_run_127 : decode prog_11_method_24_code 127 = .ok (.ifCond .ne 10, 3) := by decide +kernel
theorem dM_run_130 : decode prog_11_method_24_code 130 = .ok (.iload 6, 2) := by decide +kernel
theorem dM_run_132 : decode prog_11_method_24_code 132 = .ok (.istore 4, 2) := by decide +kernel
theorem dM_run_134 : decode prog_11_method_24_code 134 = .ok (.goto 43, 3) := by decide +kernel
theorem dM_run_137 : decode prog_11_method_24_code 137 = .ok (.aload_n 0, 1) := by decide +kernel
theorem dM_run_138 : decode prog_11_method_24_code 138 = .ok (.iload 5, 2) := by decide +kernel
theorem dM_run_140 : decode prog_11_method_24_code 140 = .ok (.iconst 1, 1) := by decide +kernel
theorem dM_run_141 : decode prog_11_method_24_code 141 = .ok (.isub, 1) := by decide +kernel
theorem dM_run_142 : decode prog_11_method_24_code 142 = .ok (.putfield 238, 3) := by decide +kernel
theorem dM_run_145 : decode prog_11_method_24_code 145 = .ok (.aload_n 0, 1) := by decide +kernel
theorem dM_run_146 : decode prog_11_method_24_code 146 = .ok (.iload 5, 2) := by decide +kernel
theorem dM_run_148 : decode prog_11_method_24_code 148 = .ok (.iconst 1, 1) := by decide +kernel
theorem dM_run_149 : decode prog_11_method_24_code 149 = .ok (.isub, 1) := by decide +kernel
theorem dM_run_150 : decode prog_11_method_24_code 150 = .ok (.aload_n 0, 1) := by decide +kernel
theorem dM_run_151 : decode prog_11_method_24_code 151 = .ok (.getfield 66, 3) := by decide +kernel
theorem dM_run_154 : decode prog_11_method_24_code 154 = .ok (.iload 5, 2) := by decide +kernel
theorem dM_run_156 : decode prog_11_method_24_code 156 = .ok (.iconst 1, 1) := by decide +kernel
theorem dM_run_157 : decode prog_11_method_24_code 157 = .ok (.isub, 1) := by decide +kernel
theorem dM_run_158 : decode prog_11_method_24_code 158 = .ok (.iaload, 1) := by decide +kernel
theorem dM_run_159 : decode prog_11_method_24_code 159 = .ok (.iload 6, 2) := by decide +kernel
theorem dM_run_161 : decode prog_11_method_24_code 161 = .ok (.invokevirtual 248, 3) := by decide +kernel
theorem dM_run_164 : decode prog_11_method_24_code 164 = .ok (.aload_n 0, 1) := by decide +kernel
theorem dM_run_165 : decode prog_11_method_24_code 165 = .ok (.getfield 63, 3) := by decide +kernel
theorem dM_run_168 : decode prog_11_method_24_code 168 = .ok (.iload 5, 2) := by decide +kernel
theorem dM_run_170 : decode prog_11_method_24_code 170 = .ok (.iconst 1, 1) := by decide +kernel
theorem dM_run_171 : decode prog_11_method_24_code 171 = .ok (.isub, 1) := by decide +kernel
theorem dM_run_172 : decode prog_11_method_24_code 172 = .ok (.dup2, 1) := by decide +kernel
theorem dM_run_173 : decode prog_11_method_24_code 173 = .ok (.iaload, 1) := by decide +kernel
theorem dM_run_174 : decode prog_11_method_24_code 174 = .ok (.iconst 1, 1) := by decide +kernel
theorem dM_run_175 : decode prog_11_method_24_code 175 = .ok (.iadd, 1) := by decide +kernel
theorem dM_run_176 : decode prog_11_method_24_code 176 = .ok (.iastore, 1) := by decide +kernel
theorem dM_run_177 : decode prog_11_method_24_code 177 = .ok (.goto (-116), 3) := by decide +kernel
theorem dM_run_180 : decode prog_11_method_24_code 180 = .ok (.aload_n 0, 1) := by decide +kernel
theorem dM_run_181 : decode prog_11_method_24_code 181 = .ok (.aload_n 0, 1) := by decide +kernel
theorem dM_run_182 : decode prog_11_method_24_code 182 = .ok (.getfield 63, 3) := by decide +kernel
theorem dM_run_185 : decode prog_11_method_24_code 185 = .ok (.iconst 0, 1) := by decide +kernel
theorem dM_run_186 : decode prog_11_method_24_code 186 = .ok (.iaload, 1) := by decide +kernel
theorem dM_run_187 : decode prog_11_method_24_code 187 = .ok (.putfield 251, 3) := by decide +kernel
theorem dM_run_190 : decode prog_11_method_24_code 190 = .ok (.iload 4, 2) := by decide +kernel
theorem dM_run_192 : decode prog_11_method_24_code 192 = .ok (.ireturn, 1) := by decide +kernel
abbrev rm_M_run : Room := { frames := 5, cells := 0, slots := 0, locals := 115 }
def f_M_run_b177 (N : Nat) (k61 : Option Nat → Int32 → Int32 → hE → Option (Int32 × hE)) (y0 : Option Nat) (y3 : Int32) (y4 : Int32) (E : hE) : Option (Int32 × hE) := (
  k61 y0 y3 y4 E)
set_option maxHeartbeats 4000000 in
set_option maxRecDepth 100000 in
theorem b_M_run_177 {p : Program} {l : Launch} {e : Env} {s : State} {m : MethodId} {args : Array Value} {below : List Frame} {meth : Method} {c : Code} {D : va_G} {kA : Nat → ClassId} {S : hE} {g : Nat → Nat} {n0 nx : Nat} {N : Nat} {res : Int32 × hE} (C : hX p s m args c prog_11_method_24_code 7 R_M ws_M_run D kA S g n0) (hr : meth.sig.returnType = (some .int)) (hlk : meth.locks = false) (hnm : meth.name = "run") (k61 : Option Nat → Int32 → Int32 → hE → Option (Int32 × hE)) (hk61 : ∀ (y0 : Option Nat) (y3 : Int32) (y4 : Int32) (E : hE) (H : Heap) (locs : List Loc) (ls : Array Slot), hY D kA n0 s E nx H locs → lv_has ls 7 [(0, va_rf y0), (3, .int y3), (4, .int y4)] → k61 y0 y3 y4 E = some res → W p l e rm_M_run s m args below meth c H locs 0 0 (MQ below (va_Qi (fun r w => r = res.1 ∧ w = (res.2, nx)) (hJ D kA S g n0) (fun q => n0 ≤ q)) args s 0 0 (fun q => n0 ≤ q)) (F0 m 61 ls [])) : ∀ (y0 : Option Nat) (y3 : Int32) (y4 : Int32) (E : hE) (H : Heap) (locs : List Loc) (ls : Array Slot), hY D kA n0 s E nx H locs → lv_has ls 7 [(0, va_rf y0), (3, .int y3), (4, .int y4)] → f_M_run_b177 N k61 y0 y3 y4 E = some res → W p l e rm_M_run s m args below meth c H locs 0 0 (MQ below (va_Qi (fun r w => r = res.1 ∧ w = (res.2, nx)) (hJ D kA S g n0) (fun q => n0 ≤ q)) args s 0 0 (fun q => n0 ≤ q)) (F0 m 177 ls []) := by
  intro y0 y3 y4 E H locs ls M hl hf
  unfold f_M_run_b177 at hf
  refine lv_goto (tgt := 61) C.x C.b dM_run_177 (by decide) ?_
  exact hk61 _ _ _ _ _ _ _ M (lv_sub hl [0, 1, 2] rfl) hf
def f_M_run_b116 (N : Nat) (k61 : Option Nat → Int32 → Int32 → hE → Option (Int32 × hE)) (y0 : Option Nat) (y3 : Int32) (y4 : Int32) (y5 : Int32) (y6 : Int32) (E : hE) : Option (Int32 × hE) := (
  if y6 = (-1) then (
  k61 y0 y3 y4 E
  ) else (
  if y5 = 0 then (
  f_M_run_b177 N k61 y0 y3 y6 E
  ) else (
  (sI E y0 7 25 (y5 - 1)).bind fun E142 =>
  (gR E142 y0 7 28).bind fun v151 =>
  (aI E142 v151 0 (y5 - 1)).bind fun v158 =>
  (gO E142 y0 7).bind fun o161 =>
  (f_M_set o161.1 (y5 - 1) v158 y6 E142).bind fun v161 =>
  (gR v161 y0 7 27).bind fun v165 =>
  (aI v161 v165 0 (y5 - 1)).bind fun v173 =>
  (tI v161 v165 0 (y5 - 1) (v173 + 1)).bind fun E176 =>
  f_M_run_b177 N k61 y0 y3 y4 E176
  )
  ))
set_option maxHeartbeats 4000000 in
set_option maxRecDepth 100000 in
theorem b_M_run_116 {p : Program} {l : Launch} {e : Env} {s : State} {m : MethodId} {args : Array Value} {below : List Frame} {meth : Method} {c : Code} {D : va_G} {kA : Nat → ClassId} {S : hE} {g : Nat → Nat} {n0 nx : Nat} {N : Nat} {res : Int32 × hE} (C : hX p s m args c prog_11_method_24_code 7 R_M ws_M_run D kA S g n0) (hr : meth.sig.returnType = (some .int)) (hlk : meth.locks = false) (hnm : meth.name = "run") (k61 : Option Nat → Int32 → Int32 → hE → Option (Int32 × hE)) (hk61 : ∀ (y0 : Option Nat) (y3 : Int32) (y4 : Int32) (E : hE) (H : Heap) (locs : List Loc) (ls : Array Slot), hY D kA n0 s E nx H locs → lv_has ls 7 [(0, va_rf y0), (3, .int y3), (4, .int y4)] → k61 y0 y3 y4 E = some res → W p l e rm_M_run s m args below meth c H locs 0 0 (MQ below (va_Qi (fun r w => r = res.1 ∧ w = (res.2, nx)) (hJ D kA S g n0) (fun q => n0 ≤ q)) args s 0 0 (fun q => n0 ≤ q)) (F0 m 61 ls [])) : ∀ (y0 : Option Nat) (y3 : Int32) (y4 : Int32) (y5 : Int32) (y6 : Int32) (E : hE) (H : Heap) (locs : List Loc) (ls : Array Slot), hY D kA n0 s E nx H locs → lv_has ls 7 [(0, va_rf y0), (3, .int y3), (4, .int y4), (5, .int y5), (6, .int y6)] → f_M_run_b116 N k61 y0 y3 y4 y5 y6 E = some res → W p l e rm_M_run s m args below meth c H locs 0 0 (MQ below (va_Qi (fun r w => r = res.1 ∧ w = (res.2, nx)) (hJ D kA S g n0) (fun q => n0 ≤ q)) args s 0 0 (fun q => n0 ≤ q)) (F0 m 116 ls []) := by
  intro y0 y3 y4 y5 y6 E H locs ls M hl hf
  unfold f_M_run_b116 at hf
  refine lv_iload C.x C.b dM_run_116 (lv_at hl 4 rfl) ?_
  refine lv_iconst (v := (-1)) C.x C.b dM_run_118 (by decide) ?_
  refine lv_icmp_ne (tgt := 125) C.x C.b dM_run_119 (by decide) (fun c119 => ?_) (fun c119 => ?_)
  · rw [if_neg c119] at hf
    refine lv_iload C.x C.b dM_run_125 (lv_at hl 3 rfl) ?_
    refine lv_if_ne (tgt := 137) C.x C.b dM_run_127 (by decide) (fun c127 => ?_) (fun c127 => ?_)
    · rw [if_neg c127] at hf
      refine w_aload_n C.x C.b dM_run_137 rfl (lv_at hl 0 rfl) ?_
      refine lv_iload C.x C.b dM_run_138 (lv_at hl 3 rfl) ?_
      refine lv_iconst (v := 1) C.x C.b dM_run_140 (by decide) ?_
      refine lv_isub C.x C.b dM_run_141 ?_
      obtain ⟨E142, h142, hf⟩ := Option.bind_eq_some_iff.mp hf
      refine w_putV (ty := .int) C M ty_M h142 rfl (hm_in in_M) tyok_M nm_M (by decide) (List.mem_cons_of_mem _ wm_748) rfl rfl (by decide +kernel) rfl rfl dM_run_142 (fun H locs M => ?_)
      refine w_aload_n C.x C.b dM_run_145 rfl (lv_at hl 0 rfl) ?_
      refine lv_iload C.x C.b dM_run_146 (lv_at hl 3 rfl) ?_
      refine lv_iconst (v := 1) C.x C.b dM_run_148 (by decide) ?_
      refine lv_isub C.x C.b dM_run_149 ?_
      refine w_aload_n C.x C.b dM_run_150 rfl (lv_at hl 0 rfl) ?_
      obtain ⟨v151, h151, hf⟩ := Option.bind_eq_some_iff.mp hf
      refine w_getR C M h151 rfl (hm_in in_M) (by decide) (List.mem_cons_of_mem _ wm_751) rfl dM_run_151 ?_
      refine lv_iload C.x C.b dM_run_154 (lv_at hl 3 rfl) ?_
      refine lv_iconst (v := 1) C.x C.b dM_run_156 (by decide) ?_
      refine lv_isub C.x C.b dM_run_157 ?_
      obtain ⟨v158, h158, hf⟩ := Option.bind_eq_some_iff.mp hf
      refine w_iald C M h158 rfl dM_run_158 ?_
      refine lv_iload C.x C.b dM_run_159 (lv_at hl 4 rfl) ?_
      obtain ⟨o161, g161, hf⟩ := Option.bind_eq_some_iff.mp hf
      obtain ⟨v161, h161, hf⟩ := Option.bind_eq_some_iff.mp hf
      refine w_cv M (w_runV C M g161 rfl (c_M_set h161) (cwV 3 C.ts (hgV wm_977 wm_979 sel_M_set wm_6 wm_980) rfl rfl rfl (by decide +kernel) ⟨Nat.le_of_ble_eq_true rfl, Nat.le_of_ble_eq_true rfl⟩) rfl hl.1 rfl (Nat.zero_le _) dM_run_161 ⟨Nat.le_refl _, Nat.le_refl _⟩) (fun H locs M => ?_)
      refine w_aload_n C.x C.b dM_run_164 rfl (lv_at hl 0 rfl) ?_
      obtain ⟨v165, h165, hf⟩ := Option.bind_eq_some_iff.mp hf
      refine w_getR C M h165 rfl (hm_in in_M) (by decide) (List.mem_cons_of_mem _ wm_750) rfl dM_run_165 ?_
      refine lv_iload C.x C.b dM_run_168 (lv_at hl 3 rfl) ?_
      refine lv_iconst (v := 1) C.x C.b dM_run_170 (by decide) ?_
      refine lv_isub C.x C.b dM_run_171 ?_
      refine lv_dup2_11 C.x C.b dM_run_172 rfl (va_rf_cat _) ?_
      obtain ⟨v173, h173, hf⟩ := Option.bind_eq_some_iff.mp hf
      refine w_iald C M h173 rfl dM_run_173 ?_
      refine lv_iconst (v := 1) C.x C.b dM_run_174 (by decide) ?_
      refine lv_iadd C.x C.b dM_run_175 ?_
      obtain ⟨E176, h176, hf⟩ := Option.bind_eq_some_iff.mp hf
      refine w_iast C M h176 rfl dM_run_176 (fun H locs M => ?_)
      exact b_M_run_177 C hr hlk hnm k61 hk61 _ _ _ _ _ _ _ M (lv_sub hl [0, 1, 2] rfl) hf
    · rw [if_pos c127] at hf
      refine lv_iload C.x C.b dM_run_130 (lv_at hl 4 rfl) ?_
      refine lv_istore (lv' := [(4, .int y6), (0, va_rf y0), (3, .int y3), (5, .int y5), (6, .int y6)]) C.x C.b dM_run_132 hl (by decide) rfl (fun ls hl => ?_)
      refine lv_goto (tgt := 177) C.x C.b dM_run_134 (by decide) ?_
      exact b_M_run_177 C hr hlk hnm k61 hk61 _ _ _ _ _ _ _ M (lv_sub hl [1, 2, 0] rfl) hf
  · rw [if_pos c119] at hf
    refine lv_goto (tgt := 61) C.x C.b dM_run_122 (by decide) ?_
    exact hk61 _ _ _ _ _ _ _ M (lv_sub hl [0, 1, 2] rfl) hf
def f_M_run_b61 (N : Nat) : Nat → Option Nat → Int32 → Int32 → hE → Option (Int32 × hE)
  | 0, _, _, _, _ => none
  | n + 1, y0, y3, y4, E => (
  if y4 = (-1) then (
  (gI E y0 7 25).bind fun v68 =>
  (gO E y0 7).bind fun o77 =>
  (f_M_comesToStatement N o77.1 E).bind fun v77 =>
  if v77.1 = 0 then (
  f_M_run_b116 N (f_M_run_b61 N n) y0 y3 y4 v68 0 v77.2
  ) else (
  (gI v77.2 y0 7 17).bind fun v84 =>
  if v84 = y3 then (
  f_M_run_b61 N n y0 y3 107 v77.2
  ) else (
  (gI v77.2 y0 7 17).bind fun v100 =>
  (sI v77.2 y0 7 17 (v100 + 1)).bind fun E105 =>
  (gO E105 y0 7).bind fun o111 =>
  (f_M_work N o111.1 v68 E105).bind fun v111 =>
  f_M_run_b116 N (f_M_run_b61 N n) y0 y3 y4 v68 v111.1 v111.2
  )
  )
  ) else (
  (gR E y0 7 27).bind fun v182 =>
  (aI E v182 0 0).bind fun v186 =>
  (sI E y0 7 20 v186).bind fun E187 =>
  some (y4, E187)
  ))
set_option maxHeartbeats 4000000 in
set_option maxRecDepth 100000 in
theorem b_M_run_61 {p : Program} {l : Launch} {e : Env} {s : State} {m : MethodId} {args : Array Value} {below : List Frame} {meth : Method} {c : Code} {D : va_G} {kA : Nat → ClassId} {S : hE} {g : Nat → Nat} {n0 nx : Nat} {N : Nat} {res : Int32 × hE} (C : hX p s m args c prog_11_method_24_code 7 R_M ws_M_run D kA S g n0) (hr : meth.sig.returnType = (some .int)) (hlk : meth.locks = false) (hnm : meth.name = "run") : ∀ n : Nat, ∀ (y0 : Option Nat) (y3 : Int32) (y4 : Int32) (E : hE) (H : Heap) (locs : List Loc) (ls : Array Slot), hY D kA n0 s E nx H locs → lv_has ls 7 [(0, va_rf y0), (3, .int y3), (4, .int y4)] → f_M_run_b61 N n y0 y3 y4 E = some res → W p l e rm_M_run s m args below meth c H locs 0 0 (MQ below (va_Qi (fun r w => r = res.1 ∧ w = (res.2, nx)) (hJ D kA S g n0) (fun q => n0 ≤ q)) args s 0 0 (fun q => n0 ≤ q)) (F0 m 61 ls []) := by
  intro n
  induction n with
  | zero =>
    intro y0 y3 y4 E H locs ls M hl hf
    simp [f_M_run_b61] at hf
  | succ n ih =>
    intro y0 y3 y4 E H locs ls M hl hf
    rw [f_M_run_b61] at hf
    refine lv_iload C.x C.b dM_run_61 (lv_at hl 2 rfl) ?_
    refine lv_iconst (v := (-1)) C.x C.b dM_run_63 (by decide) ?_
    refine lv_icmp_ne (tgt := 180) C.x C.b dM_run_64 (by decide) (fun c64 => ?_) (fun c64 => ?_)
    · rw [if_neg c64] at hf
      refine w_aload_n C.x C.b dM_run_180 rfl (lv_at hl 0 rfl) ?_
      refine w_aload_n C.x C.b dM_run_181 rfl (lv_at hl 0 rfl) ?_
      obtain ⟨v182, h182, hf⟩ := Option.bind_eq_some_iff.mp hf
      refine w_getR C M h182 rfl (hm_in in_M) (by decide) (List.mem_cons_of_mem _ wm_750) rfl dM_run_182 ?_
      refine lv_iconst (v := 0) C.x C.b dM_run_185 (by decide) ?_
      obtain ⟨v186, h186, hf⟩ := Option.bind_eq_some_iff.mp hf
      refine w_iald C M h186 rfl dM_run_186 ?_
      obtain ⟨E187, h187, hf⟩ := Option.bind_eq_some_iff.mp hf
      refine w_putV (ty := .int) C M ty_M h187 rfl (hm_in in_M) tyok_M nm_M (by decide) (List.mem_cons_of_mem _ wm_743) rfl rfl (by decide +kernel) rfl rfl dM_run_187 (fun H locs M => ?_)
      refine lv_iload C.x C.b dM_run_190 (lv_at hl 2 rfl) ?_
      cases hf
      exact w_iret C M hr hlk rfl (Nat.le_refl _) (Nat.le_refl _) dM_run_192 rfl rfl
    · rw [if_pos c64] at hf
      refine w_aload_n C.x C.b dM_run_67 rfl (lv_at hl 0 rfl) ?_
      obtain ⟨v68, h68, hf⟩ := Option.bind_eq_some_iff.mp hf
      refine w_getI C M h68 rfl (hm_in in_M) (by decide) (List.mem_cons_of_mem _ wm_748) rfl dM_run_68 ?_
      refine lv_istore (lv' := [(5, .int v68), (0, va_rf y0), (3, .int y3), (4, .int y4)]) C.x C.b dM_run_71 hl (by decide) rfl (fun ls hl => ?_)
      refine lv_iconst (v := 0) C.x C.b dM_run_73 (by decide) ?_
      refine lv_istore (lv' := [(6, .int 0), (5, .int v68), (0, va_rf y0), (3, .int y3), (4, .int y4)]) C.x C.b dM_run_74 hl (by decide) rfl (fun ls hl => ?_)
      refine w_aload_n C.x C.b dM_run_76 rfl (lv_at hl 2 rfl) ?_
      obtain ⟨o77, g77, hf⟩ := Option.bind_eq_some_iff.mp hf
      obtain ⟨v77, h77, hf⟩ := Option.bind_eq_some_iff.mp hf
      refine w_ci M (w_runV C M g77 rfl (c_M_comesToStatement h77) (cwV 0 C.ts (hgV wm_953 wm_955 sel_M_comesToStatement wm_6 wm_956) rfl rfl rfl (by decide +kernel) ⟨Nat.le_of_ble_eq_true rfl, Nat.le_of_ble_eq_true rfl⟩) rfl hl.1 rfl (Nat.zero_le _) dM_run_77 ⟨Nat.le_refl _, Nat.le_refl _⟩) (fun H locs M => ?_)
      refine lv_if_eq (tgt := 116) C.x C.b dM_run_80 (by decide) (fun c80 => ?_) (fun c80 => ?_)
      · rw [if_pos c80] at hf
        exact b_M_run_116 C hr hlk hnm (f_M_run_b61 N n) ih _ _ _ _ _ _ _ _ _ M (lv_sub hl [2, 3, 4, 1, 0] rfl) hf
      · rw [if_neg c80] at hf
        refine w_aload_n C.x C.b dM_run_83 rfl (lv_at hl 2 rfl) ?_
        obtain ⟨v84, h84, hf⟩ := Option.bind_eq_some_iff.mp hf
        refine w_getI C M h84 rfl (hm_in in_M) (by decide) (List.mem_cons_of_mem _ wm_740) rfl dM_run_84 ?_
        refine lv_iload_n C.x C.b dM_run_87 rfl (lv_at hl 3 rfl) ?_
        refine lv_icmp_ne (tgt := 98) C.x C.b dM_run_88 (by decide) (fun c88 => ?_) (fun c88 => ?_)
        · rw [if_neg c88] at hf
          refine w_aload_n C.x C.b dM_run_98 rfl (lv_at hl 2 rfl) ?_
          refine lv_dup C.x C.b dM_run_99 (va_rf_cat _) ?_
          obtain ⟨v100, h100, hf⟩ := Option.bind_eq_some_iff.mp hf
          refine w_getI C M h100 rfl (hm_in in_M) (by decide) (List.mem_cons_of_mem _ wm_740) rfl dM_run_100 ?_
          refine lv_iconst (v := 1) C.x C.b dM_run_103 (by decide) ?_
          refine lv_iadd C.x C.b dM_run_104 ?_
          obtain ⟨E105, h105, hf⟩ := Option.bind_eq_some_iff.mp hf
          refine w_putV (ty := .int) C M ty_M h105 rfl (hm_in in_M) tyok_M nm_M (by decide) (List.mem_cons_of_mem _ wm_740) rfl rfl (by decide +kernel) rfl rfl dM_run_105 (fun H locs M => ?_)
          refine w_aload_n C.x C.b dM_run_108 rfl (lv_at hl 2 rfl) ?_
          refine lv_iload C.x C.b dM_run_109 (lv_at hl 1 rfl) ?_
          obtain ⟨o111, g111, hf⟩ := Option.bind_eq_some_iff.mp hf
          obtain ⟨v111, h111, hf⟩ := Option.bind_eq_some_iff.mp hf
          refine w_ci M (w_runV C M g111 rfl (c_M_work h111) (cwV 1 C.ts (hgV wm_957 wm_959 sel_M_work wm_6 wm_960) rfl rfl rfl (by decide +kernel) ⟨Nat.le_of_ble_eq_true rfl, Nat.le_of_ble_eq_true rfl⟩) rfl hl.1 rfl (Nat.zero_le _) dM_run_111 ⟨Nat.le_refl _, Nat.le_refl _⟩) (fun H locs M => ?_)
          refine lv_istore (lv' := [(6, .int v111.1), (5, .int v68), (0, va_rf y0), (3, .int y3), (4, .int y4)]) C.x C.b dM_run_114 hl (by decide) rfl (fun ls hl => ?_)
          exact b_M_run_116 C hr hlk hnm (f_M_run_b61 N n) ih _ _ _ _ _ _ _ _ _ M (lv_sub hl [2, 3, 4, 1, 0] rfl) hf
        · rw [if_pos c88] at hf
          refine lv_bipush (v := 107) C.x C.b dM_run_91 (by decide) ?_
          refine lv_istore (lv' := [(4, .int 107), (6, .int 0), (5, .int v68), (0, va_rf y0), (3, .int y3)]) C.x C.b dM_run_93 hl (by decide) rfl (fun ls hl => ?_)
          refine lv_goto (tgt := 61) C.x C.b dM_run_95 (by decide) ?_
          exact ih _ _ _ _ _ _ _ M (lv_sub hl [3, 4, 0] rfl) hf
def f_M_run_b19 (N : Nat) (E : hE) : Option (Int32 × hE) := (
  some ((-1), E))
set_option maxHeartbeats 4000000 in
set_option maxRecDepth 100000 in
theorem b_M_run_19 {p : Program} {l : Launch} {e : Env} {s : State} {m : MethodId} {args : Array Value} {below : List Frame} {meth : Method} {c : Code} {D : va_G} {kA : Nat → ClassId} {S : hE} {g : Nat → Nat} {n0 nx : Nat} {N : Nat} {res : Int32 × hE} (C : hX p s m args c prog_11_method_24_code 7 R_M ws_M_run D kA S g n0) (hr : meth.sig.returnType = (some .int)) (hlk : meth.locks = false) (hnm : meth.name = "run") : ∀  (E : hE) (H : Heap) (locs : List Loc) (ls : Array Slot), hY D kA n0 s E nx H locs → lv_has ls 7 [] → f_M_run_b19 N  E = some res → W p l e rm_M_run s m args below meth c H locs 0 0 (MQ below (va_Qi (fun r w => r = res.1 ∧ w = (res.2, nx)) (hJ D kA S g n0) (fun q => n0 ≤ q)) args s 0 0 (fun q => n0 ≤ q)) (F0 m 19 ls []) := by
  intro E H locs ls M hl hf
  unfold f_M_run_b19 at hf
  refine lv_iconst (v := (-1)) C.x C.b dM_run_19 (by decide) ?_
  cases hf
  exact w_iret C M hr hlk rfl (Nat.le_refl _) (Nat.le_refl _) dM_run_20 rfl rfl
def f_M_run (N : Nat) (x0 : Nat) (x1 : Int32) (x2 : Int32) (x3 : Int32) (E : hE) : Option (Int32 × hE) := (
  (gO E (some x0) 7).bind fun o2 =>
  (f_M_isProgram E o2.1 x1).bind fun v2 =>
  if v2 = 0 then (
  f_M_run_b19 N E
  ) else (
  (f_M_in E x3 1 2000).bind fun v13 =>
  if v13 = 0 then (
  f_M_run_b19 N E
  ) else (
  (sZ E (some x0) 7 16 1).bind fun E23 =>
  (sI E23 (some x0) 7 17 0).bind fun E28 =>
  (sI E28 (some x0) 7 18 0).bind fun E33 =>
  (sI E33 (some x0) 7 19 0).bind fun E38 =>
  (sI E38 (some x0) 7 21 0).bind fun E43 =>
  (sI E43 (some x0) 7 22 0).bind fun E48 =>
  (gO E48 (some x0) 7).bind fun o55 =>
  (f_M_begin N o55.1 0 x1 x2 E48).bind fun v55 =>
  f_M_run_b61 N N (some x0) x3 (-1) v55
  )
  ))
set_option maxHeartbeats 4000000 in
set_option maxRecDepth 100000 in
theorem c_M_run {l : Launch} {D : va_G} {kA : Nat → ClassId} {S : hE} {g : Nat → Nat} {n0 nx : Nat} {N : Nat} {x0 : Nat} {x1 : Int32} {x2 : Int32} {x3 : Int32} {E : hE} {res : Int32 × hE} (hf : f_M_run N x0 x1 x2 x3 E = some res) : Met l y_M_run ws_M_run rm_M_run (va_Pc [va_rf (some x0), .int x1, .int x2, .int x3] (hJ D kA S g n0 (E, nx))) (va_Qi (fun r w => r = res.1 ∧ w = (res.2, nx)) (hJ D kA S g n0) (fun q => n0 ≤ q)) 0 0 (fun q => n0 ≤ q) := by
  refine h_met (cc := prog_11_method_24_code) (maxL := 7) (ret := (some .int)) (lvs := [(0, va_rf (some x0)), (1, .int x1), (2, .int x2), (3, .int x3)]) zZ_k (by decide) rfl (by simp [lg_sl, va_rf_cat, cat_i, cat_l, cat_n]) (by simp [lv_args, va_rf_cat, cat_i, cat_l, cat_n]) ?_
  intro p e s m below meth c ls C M hr hlk hnm hl
  unfold f_M_run at hf
  refine w_aload_n C.x C.b dM_run_0 rfl (lv_at hl 0 rfl) ?_
  refine lv_iload_n C.x C.b dM_run_1 rfl (lv_at hl 1 rfl) ?_
  obtain ⟨o2, g2, hf⟩ := Option.bind_eq_some_iff.mp hf
  obtain ⟨v2, h2, hf⟩ := Option.bind_eq_some_iff.mp hf
  refine w_ci M (w_runV C M g2 rfl (c_M_isProgram h2) (cwV 1 C.ts (hgV wm_945 wm_947 sel_M_isProgram wm_6 wm_948) rfl rfl rfl (by decide +kernel) ⟨Nat.le_of_ble_eq_true rfl, Nat.le_of_ble_eq_true rfl⟩) rfl hl.1 rfl (Nat.zero_le _) dM_run_2 ⟨Nat.le_refl _, Nat.le_refl _⟩) (fun H locs M => ?_)
  refine lv_if_eq (tgt := 19) C.x C.b dM_run_5 (by decide) (fun c5 => ?_) (fun c5 => ?_)
  · rw [if_pos c5] at hf
    exact b_M_run_19 C hr hlk hnm _ _ _ _ M (lv_sub hl [] rfl) hf
  · rw [if_neg c5] at hf
    refine lv_iload_n C.x C.b dM_run_8 rfl (lv_at hl 3 rfl) ?_
    refine lv_iconst (v := 1) C.x C.b dM_run_9 (by decide) ?_
    refine lv_sipush (v := 2000) C.x C.b dM_run_10 (by decide) ?_
    obtain ⟨v13, h13, hf⟩ := Option.bind_eq_some_iff.mp hf
    refine w_ci M (w_runS C M (c_M_in h13) (cwS 3 C.ts (hgS wm_829 wm_830 wm_6 wm_831) rfl rfl rfl (by decide +kernel) ⟨Nat.le_of_ble_eq_true rfl, Nat.le_of_ble_eq_true rfl⟩) rfl hl.1 rfl (Nat.zero_le _) dM_run_13 ⟨Nat.le_refl _, Nat.le_refl _⟩) (fun H locs M => ?_)
    refine lv_if_ne (tgt := 21) C.x C.b dM_run_16 (by decide) (fun c16 => ?_) (fun c16 => ?_)
    · rw [if_neg c16] at hf
      refine w_aload_n C.x C.b dM_run_21 rfl (lv_at hl 0 rfl) ?_
      refine lv_iconst (v := 1) C.x C.b dM_run_22 (by decide) ?_
      obtain ⟨E23, h23, hf⟩ := Option.bind_eq_some_iff.mp hf
      refine w_putV (ty := .boolean) C M ty_M (sZ_some h23).2 rfl (hm_in in_M) tyok_M nm_M (by decide) (List.mem_cons_of_mem _ wm_739) rfl rfl (by decide +kernel) (narrow_z (sZ_some h23).1) (fits_z (sZ_some h23).1) dM_run_23 (fun H locs M => ?_)
      refine w_aload_n C.x C.b dM_run_26 rfl (lv_at hl 0 rfl) ?_
      refine lv_iconst (v := 0) C.x C.b dM_run_27 (by decide) ?_
      obtain ⟨E28, h28, hf⟩ := Option.bind_eq_some_iff.mp hf
      refine w_putV (ty := .int) C M ty_M h28 rfl (hm_in in_M) tyok_M nm_M (by decide) (List.mem_cons_of_mem _ wm_740) rfl rfl (by decide +kernel) rfl rfl dM_run_28 (fun H locs M => ?_)
      refine w_aload_n C.x C.b dM_run_31 rfl (lv_at hl 0 rfl) ?_
      refine lv_iconst (v := 0) C.x C.b dM_run_32 (by decide) ?_
      obtain ⟨E33, h33, hf⟩ := Option.bind_eq_some_iff.mp hf
      refine w_putV (ty := .int) C M ty_M h33 rfl (hm_in in_M) tyok_M nm_M (by decide) (List.mem_cons_of_mem _ wm_741) rfl rfl (by decide +kernel) rfl rfl dM_run_33 (fun H locs M => ?_)
      refine w_aload_n C.x C.b dM_run_36 rfl (lv_at hl 0 rfl) ?_
      refine lv_iconst (v := 0) C.x C.b dM_run_37 (by decide) ?_
      obtain ⟨E38, h38, hf⟩ := Option.bind_eq_some_iff.mp hf
      refine w_putV (ty := .int) C M ty_M h38 rfl (hm_in in_M) tyok_M nm_M (by decide) (List.mem_cons_of_mem _ wm_742) rfl rfl (by decide +kernel) rfl rfl dM_run_38 (fun H locs M => ?_)
      refine w_aload_n C.x C.b dM_run_41 rfl (lv_at hl 0 rfl) ?_
      refine lv_iconst (v := 0) C.x C.b dM_run_42 (by decide) ?_
      obtain ⟨E43, h43, hf⟩ := Option.bind_eq_some_iff.mp hf
      refine w_putV (ty := .int) C M ty_M h43 rfl (hm_in in_M) tyok_M nm_M (by decide) (List.mem_cons_of_mem _ wm_744) rfl rfl (by decide +kernel) rfl rfl dM_run_43 (fun H locs M => ?_)
      refine w_aload_n C.x C.b dM_run_46 rfl (lv_at hl 0 rfl) ?_
      refine lv_iconst (v := 0) C.x C.b dM_run_47 (by decide) ?_
      obtain ⟨E48, h48, hf⟩ := Option.bind_eq_some_iff.mp hf
      refine w_putV (ty := .int) C M ty_M h48 rfl (hm_in in_M) tyok_M nm_M (by decide) (List.mem_cons_of_mem _ wm_745) rfl rfl (by decide +kernel) rfl rfl dM_run_48 (fun H locs M => ?_)
      refine w_aload_n C.x C.b dM_run_51 rfl (lv_at hl 0 rfl) ?_
      refine lv_iconst (v := 0) C.x C.b dM_run_52 (by decide) ?_
      refine lv_iload_n C.x C.b dM_run_53 rfl (lv_at hl 1 rfl) ?_
      refine lv_iload_n C.x C.b dM_run_54 rfl (lv_at hl 2 rfl) ?_
      obtain ⟨o55, g55, hf⟩ := Option.bind_eq_some_iff.mp hf
      obtain ⟨v55, h55, hf⟩ := Option.bind_eq_some_iff.mp hf
      refine w_cv M (w_runV C M g55 rfl (c_M_begin h55) (cwV 3 C.ts (hgV wm_949 wm_951 sel_M_begin wm_6 wm_952) rfl rfl rfl (by decide +kernel) ⟨Nat.le_of_ble_eq_true rfl, Nat.le_of_ble_eq_true rfl⟩) rfl hl.1 rfl (Nat.zero_le _) dM_run_55 ⟨Nat.le_refl _, Nat.le_refl _⟩) (fun H locs M => ?_)
      refine lv_iconst (v := (-1)) C.x C.b dM_run_58 (by decide) ?_
      refine lv_istore (lv' := [(4, .int (-1)), (0, va_rf (some x0)), (1, .int x1), (2, .int x2), (3, .int x3)]) C.x C.b dM_run_59 hl (by decide) rfl (fun ls hl => ?_)
      exact b_M_run_61 C hr hlk hnm N _ _ _ _ _ _ _ M (lv_sub hl [1, 4, 0] rfl) hf
    · rw [if_pos c16] at hf
      exact b_M_run_19 C hr hlk hnm _ _ _ _ M (lv_sub hl [] rfl) hf
theorem dM_about_0 : decode prog_11_method_46_code 0 = .ok (.aload_n 0, 1) := by decide +kernel
theorem dM_about_1 : decode prog_11_method_46_code 1 = .ok (.getfield 215, 3) := by decide +kernel
theorem dM_about_4 : decode prog_11_method_46_code 4 = .ok (.ifCond .ne 5, 3) := by decide +kernel
theorem dM_about_7 : decode prog_11_method_46_code 7 = .ok (.iconst (-1), 1) := by decide +kernel
theorem dM_about_8 : decode prog_11_method_46_code 8 = .ok (.ireturn, 1) := by decide +kernel
theorem dM_about_9 : decode prog_11_method_46_code 9 = .ok (.iload_n 1, 1) := by decide +kernel
theorem dM_about_10 : decode prog_11_method_46_code 10 = .ok (.tableswitch 68 0 5 #[38, 43, 48, 53, 58, 63], 38) := by decide +kernel
theorem dM_about_48 : decode prog_11_method_46_code 48 = .ok (.aload_n 0, 1) := by decide +kernel
theorem dM_about_49 : decode prog_11_method_46_code 49 = .ok (.getfield 219, 3) := by decide +kernel
theorem dM_about_52 : decode prog_11_method_46_code 52 = .ok (.ireturn, 1) := by decide +kernel
theorem dM_about_53 : decode prog_11_method_46_code 53 = .ok (.aload_n 0, 1) := by decide +kernel
theorem dM_about_54 : decode prog_11_method_46_code 54 = .ok (.getfield 228, 3) := by decide +kernel
theorem dM_about_57 : decode prog_11_method_46_code 57 = .ok (.ireturn, 1) := by decide +kernel
theorem dM_about_58 : decode prog_11_method_46_code 58 = .ok (.aload_n 0, 1) := by decide +kernel
theorem dM_about_59 : decode prog_11_method_46_code 59 = .ok (.getfield 231, 3) := by decide +kernel
theorem dM_about_62 : decode prog_11_method_46_code 62 = .ok (.ireturn, 1) := by decide +kernel
theorem dM_about_63 : decode prog_11_method_46_code 63 = .ok (.aload_n 0, 1) := by decide +kernel
theorem dM_about_64 : decode prog_11_method_46_code 64 = .ok (.getfield 225, 3) := by decide +kernel
theorem dM_about_67 : decode prog_11_method_46_code 67 = .ok (.ireturn, 1) := by decide +kernel
theorem dM_about_68 : decode prog_11_method_46_code 68 = .ok (.aload_n 0, 1) := by decide +kernel
theorem dM_about_69 : decode prog_11_method_46_code 69 = .ok (.getfield 251, 3) := by decide +kernel
theorem dM_about_72 : decode prog_11_method_46_code 72 = .ok (.ireturn, 1) := by decide +kernel
theorem dM_about_73 : decode prog_11_method_46_code 73 = .ok (.aload_n 0, 1) := by decide +kernel
theorem dM_about_74 : decode prog_11_method_46_code 74 = .ok (.getfield 222, 3) := by decide +kernel
theorem dM_about_77 : decode prog_11_method_46_code 77 = .ok (.ireturn, 1) := by decide +kernel
theorem dM_about_78 : decode prog_11_method_46_code 78 = .ok (.iconst (-1), 1) := by decide +kernel
theorem dM_about_79 : decode prog_11_method_46_code 79 = .ok (.ireturn, 1) := by decide +kernel
abbrev rm_M_about : Room := { frames := 0, cells := 0, slots := 0, locals := 0 }
def f_M_about (E : hE) (x0 : Nat) (x1 : Int32) : Option (Int32) := (
  (gI E (some x0) 7 16).bind fun v1 =>
  if v1 = 0 then (
  some (-1)
  ) else (
  if x1 = 0 then (
  (gI E (some x0) 7 17).bind fun v49 =>
  some v49
  ) else (
  if x1 = 1 then (
  (gI E (some x0) 7 21).bind fun v54 =>
  some v54
  ) else (
  if x1 = 2 then (
  (gI E (some x0) 7 22).bind fun v59 =>
  some v59
  ) else (
  if x1 = 3 then (
  (gI E (some x0) 7 19).bind fun v64 =>
  some v64
  ) else (
  if x1 = 4 then (
  (gI E (some x0) 7 20).bind fun v69 =>
  some v69
  ) else (
  if x1 = 5 then (
  (gI E (some x0) 7 18).bind fun v74 =>
  some v74
  ) else (
  some (-1)
  ))))))
  ))
set_option maxHeartbeats 4000000 in
set_option maxRecDepth 100000 in
theorem c_M_about {l : Launch} {D : va_G} {kA : Nat → ClassId} {S : hE} {g : Nat → Nat} {n0 nx : Nat} {x0 : Nat} {x1 : Int32} {E : hE} {res : Int32} (hf : f_M_about E x0 x1 = some res) : Met l y_M_about ws_M_about rm_M_about (va_Pc [va_rf (some x0), .int x1] (hJ D kA S g n0 (E, nx))) (va_Qi (fun r w => r = res ∧ w = (E, nx)) (hJ D kA S g n0) (fun q => n0 ≤ q)) 0 0 (fun q => n0 ≤ q) := by
  refine h_met (cc := prog_11_method_46_code) (maxL := 2) (ret := (some .int)) (lvs := [(0, va_rf (some x0)), (1, .int x1)]) zZ_k (by decide) rfl (by simp [lg_sl, va_rf_cat, cat_i, cat_l, cat_n]) (by simp [lv_args, va_rf_cat, cat_i, cat_l, cat_n]) ?_
  intro p e s m below meth c ls C M hr hlk hnm hl
  unfold f_M_about at hf
  refine w_aload_n C.x C.b dM_about_0 rfl (lv_at hl 0 rfl) ?_
  obtain ⟨v1, h1, hf⟩ := Option.bind_eq_some_iff.mp hf
  refine w_getI C M h1 rfl (hm_in in_M) (by decide) (List.mem_cons_of_mem _ wm_739) rfl dM_about_1 ?_
  refine lv_if_ne (tgt := 9) C.x C.b dM_about_4 (by decide) (fun c4 => ?_) (fun c4 => ?_)
  · rw [if_neg c4] at hf
    refine lv_iload_n C.x C.b dM_about_9 rfl (lv_at hl 1 rfl) ?_
    by_cases c10_0 : x1 = 0
    · rw [if_pos c10_0] at hf
      refine lv_tableIn (tgt := 48) C.x C.b dM_about_10 (by rw [c10_0]; decide) (by rw [c10_0]; decide) (by rw [c10_0]; rfl) (by decide) ?_
      refine w_aload_n C.x C.b dM_about_48 rfl (lv_at hl 0 rfl) ?_
      obtain ⟨v49, h49, hf⟩ := Option.bind_eq_some_iff.mp hf
      refine w_getI C M h49 rfl (hm_in in_M) (by decide) (List.mem_cons_of_mem _ wm_740) rfl dM_about_49 ?_
      cases hf
      exact w_iret C M hr hlk rfl (Nat.le_refl _) (Nat.le_refl _) dM_about_52 rfl rfl
    · rw [if_neg c10_0] at hf
      by_cases c10_1 : x1 = 1
      · rw [if_pos c10_1] at hf
        refine lv_tableIn (tgt := 53) C.x C.b dM_about_10 (by rw [c10_1]; decide) (by rw [c10_1]; decide) (by rw [c10_1]; rfl) (by decide) ?_
        refine w_aload_n C.x C.b dM_about_53 rfl (lv_at hl 0 rfl) ?_
        obtain ⟨v54, h54, hf⟩ := Option.bind_eq_some_iff.mp hf
        refine w_getI C M h54 rfl (hm_in in_M) (by decide) (List.mem_cons_of_mem _ wm_744) rfl dM_about_54 ?_
        cases hf
        exact w_iret C M hr hlk rfl (Nat.le_refl _) (Nat.le_refl _) dM_about_57 rfl rfl
      · rw [if_neg c10_1] at hf
        by_cases c10_2 : x1 = 2
        · rw [if_pos c10_2] at hf
          refine lv_tableIn (tgt := 58) C.x C.b dM_about_10 (by rw [c10_2]; decide) (by rw [c10_2]; decide) (by rw [c10_2]; rfl) (by decide) ?_
          refine w_aload_n C.x C.b dM_about_58 rfl (lv_at hl 0 rfl) ?_
          obtain ⟨v59, h59, hf⟩ := Option.bind_eq_some_iff.mp hf
          refine w_getI C M h59 rfl (hm_in in_M) (by decide) (List.mem_cons_of_mem _ wm_745) rfl dM_about_59 ?_
          cases hf
          exact w_iret C M hr hlk rfl (Nat.le_refl _) (Nat.le_refl _) dM_about_62 rfl rfl
        · rw [if_neg c10_2] at hf
          by_cases c10_3 : x1 = 3
          · rw [if_pos c10_3] at hf
            refine lv_tableIn (tgt := 63) C.x C.b dM_about_10 (by rw [c10_3]; decide) (by rw [c10_3]; decide) (by rw [c10_3]; rfl) (by decide) ?_
            refine w_aload_n C.x C.b dM_about_63 rfl (lv_at hl 0 rfl) ?_
            obtain ⟨v64, h64, hf⟩ := Option.bind_eq_some_iff.mp hf
            refine w_getI C M h64 rfl (hm_in in_M) (by decide) (List.mem_cons_of_mem _ wm_742) rfl dM_about_64 ?_
            cases hf
            exact w_iret C M hr hlk rfl (Nat.le_refl _) (Nat.le_refl _) dM_about_67 rfl rfl
          · rw [if_neg c10_3] at hf
            by_cases c10_4 : x1 = 4
            · rw [if_pos c10_4] at hf
              refine lv_tableIn (tgt := 68) C.x C.b dM_about_10 (by rw [c10_4]; decide) (by rw [c10_4]; decide) (by rw [c10_4]; rfl) (by decide) ?_
              refine w_aload_n C.x C.b dM_about_68 rfl (lv_at hl 0 rfl) ?_
              obtain ⟨v69, h69, hf⟩ := Option.bind_eq_some_iff.mp hf
              refine w_getI C M h69 rfl (hm_in in_M) (by decide) (List.mem_cons_of_mem _ wm_743) rfl dM_about_69 ?_
              cases hf
              exact w_iret C M hr hlk rfl (Nat.le_refl _) (Nat.le_refl _) dM_about_72 rfl rfl
            · rw [if_neg c10_4] at hf
              by_cases c10_5 : x1 = 5
              · rw [if_pos c10_5] at hf
                refine lv_tableIn (tgt := 73) C.x C.b dM_about_10 (by rw [c10_5]; decide) (by rw [c10_5]; decide) (by rw [c10_5]; rfl) (by decide) ?_
                refine w_aload_n C.x C.b dM_about_73 rfl (lv_at hl 0 rfl) ?_
                obtain ⟨v74, h74, hf⟩ := Option.bind_eq_some_iff.mp hf
                refine w_getI C M h74 rfl (hm_in in_M) (by decide) (List.mem_cons_of_mem _ wm_741) rfl dM_about_74 ?_
                cases hf
                exact w_iret C M hr hlk rfl (Nat.le_refl _) (Nat.le_refl _) dM_about_77 rfl rfl
              · rw [if_neg c10_5] at hf
                have z10_0 := lv_neT c10_0 (a := 0) (by decide)
                have z10_1 := lv_neT c10_1 (a := 1) (by decide)
                have z10_2 := lv_neT c10_2 (a := 2) (by decide)
                have z10_3 := lv_neT c10_3 (a := 3) (by decide)
                have z10_4 := lv_neT c10_4 (a := 4) (by decide)
                have z10_5 := lv_neT c10_5 (a := 5) (by decide)
                refine lv_tableOut (tgt := 78) C.x C.b dM_about_10 (by omega) (by decide) ?_
                refine lv_iconst (v := (-1)) C.x C.b dM_about_78 (by decide) ?_
                cases hf
                exact w_iret C M hr hlk rfl (Nat.le_refl _) (Nat.le_refl _) dM_about_79 rfl rfl
  · rw [if_pos c4] at hf
    refine lv_iconst (v := (-1)) C.x C.b dM_about_7 (by decide) ?_
    cases hf
    exact w_iret C M hr hlk rfl (Nat.le_refl _) (Nat.le_refl _) dM_about_8 rfl rfl
theorem dM_said_0 : decode prog_11_method_47_code 0 = .ok (.iload_n 1, 1) := by decide +kernel
theorem dM_said_1 : decode prog_11_method_47_code 1 = .ok (.ifCond .ne 28, 3) := by decide +kernel
theorem dM_said_4 : decode prog_11_method_47_code 4 = .ok (.iload_n 2, 1) := by decide +kernel
theorem dM_said_5 : decode prog_11_method_47_code 5 = .ok (.iconst 0, 1) := by decide +kernel
theorem dM_said_6 : decode prog_11_method_47_code 6 = .ok (.aload_n 0, 1) := by decide +kernel
theorem dM_said_7 : decode prog_11_method_47_code 7 = .ok (.getfield 228, 3) := by decide +kernel
theorem dM_said_10 : decode prog_11_method_47_code 10 = .ok (.iconst 1, 1) := by decide +kernel
theorem dM_said_11 : decode prog_11_method_47_code 11 = .ok (.isub, 1) := by decide +kernel
theorem dM_said_12 : decode prog_11_method_47_code 12 = .ok (.invokestatic 83, 3) := by decide +kernel
theorem dM_said_15 : decode prog_11_method_47_code 15 = .ok (.ifCond .eq 12, 3) := by decide +kernel
theorem dM_said_18 : decode prog_11_method_47_code 18 = .ok (.aload_n 0, 1) := by decide +kernel
theorem dM_said_19 : decode prog_11_method_47_code 19 = .ok (.getfield 54, 3) := by decide +kernel
theorem dM_said_22 : decode prog_11_method_47_code 22 = .ok (.iload_n 2, 1) := by decide +kernel
theorem dM_said_23 : decode prog_11_method_47_code 23 = .ok (.iaload, 1) := by decide +kernel
theorem dM_said_24 : decode prog_11_method_47_code 24 = .ok (.goto 4, 3) := by decide +kernel
theorem dM_said_27 : decode prog_11_method_47_code 27 = .ok (.iconst (-1), 1) := by decide +kernel
theorem dM_said_28 : decode prog_11_method_47_code 28 = .ok (.ireturn, 1) := by decide +kernel
theorem dM_said_29 : decode prog_11_method_47_code 29 = .ok (.iload_n 1, 1) := by decide +kernel
theorem dM_said_30 : decode prog_11_method_47_code 30 = .ok (.iconst 1, 1) := by decide +kernel
theorem dM_said_31 : decode prog_11_method_47_code 31 = .ok (.if_icmp .ne 26, 3) := by decide +kernel
theorem dM_said_34 : decode prog_11_method_47_code 34 = .ok (.iload_n 2, 1) := by decide +kernel
theorem dM_said_35 : decode prog_11_method_47_code 35 = .ok (.iconst 0, 1) := by decide +kernel
theorem dM_said_36 : decode prog_11_method_47_code 36 = .ok (.aload_n 0, 1) := by decide +kernel
theorem dM_said_37 : decode prog_11_method_47_code 37 = .ok (.getfield 231, 3) := by decide +kernel
theorem dM_said_40 : decode prog_11_method_47_code 40 = .ok (.iconst 1, 1) := by decide +kernel
theorem dM_said_41 : decode prog_11_method_47_code 41 = .ok (.isub, 1) := by decide +kernel
theorem dM_said_42 : decode prog_11_method_47_code 42 = .ok (.invokestatic 83, 3) := by decide +kernel
theorem dM_said_45 : decode prog_11_method_47_code 45 = .ok (.ifCond .eq 12, 3) := by decide +kernel
theorem dM_said_48 : decode prog_11_method_47_code 48 = .ok (.aload_n 0, 1) := by decide +kernel
theorem dM_said_49 : decode prog_11_method_47_code 49 = .ok (.getfield 57, 3) := by decide +kernel
theorem dM_said_52 : decode prog_11_method_47_code 52 = .ok (.iload_n 2, 1) := by decide +kernel
theorem dM_said_53 : decode prog_11_method_47_code 53 = .ok (.iaload, 1) := by decide +kernel
theorem dM_said_54 : decode prog_11_method_47_code 54 = .ok (.goto 4, 3) := by decide +kernel
theorem dM_said_57 : decode prog_11_method_47_code 57 = .ok (.iconst (-1), 1) := by decide +kernel
theorem dM_said_58 : decode prog_11_method_47_code 58 = .ok (.ireturn, 1) := by decide +kernel
abbrev rm_M_said : Room := { frames := 1, cells := 0, slots := 0, locals := 22 }
def f_M_said_b58 (E : hE) (t0 : Int32) : Option (Int32) := (
  some t0)
set_option maxHeartbeats 4000000 in
set_option maxRecDepth 100000 in
theorem b_M_said_58 {p : Program} {l : Launch} {e : Env} {s : State} {m : MethodId} {args : Array Value} {below : List Frame} {meth : Method} {c : Code} {D : va_G} {kA : Nat → ClassId} {S : hE} {g : Nat → Nat} {n0 nx : Nat} {E : hE} {res : Int32} (C : hX p s m args c prog_11_method_47_code 3 R_M ws_M_said D kA S g n0) (hr : meth.sig.returnType = (some .int)) (hlk : meth.locks = false) (hnm : meth.name = "said") : ∀ (t0 : Int32) (H : Heap) (locs : List Loc) (ls : Array Slot), hY D kA n0 s E nx H locs → lv_has ls 3 [] → f_M_said_b58 E  t0 = some res → W p l e rm_M_said s m args below meth c H locs 0 0 (MQ below (va_Qi (fun r w => r = res ∧ w = (E, nx)) (hJ D kA S g n0) (fun q => n0 ≤ q)) args s 0 0 (fun q => n0 ≤ q)) (F0 m 58 ls [.int t0]) := by
  intro t0 H locs ls M hl hf
  unfold f_M_said_b58 at hf
  cases hf
  exact w_iret C M hr hlk rfl (Nat.le_refl _) (Nat.le_refl _) dM_said_58 rfl rfl
def f_M_said_b57 (E : hE) : Option (Int32) := (
  f_M_said_b58 E (-1))
set_option maxHeartbeats 4000000 in
set_option maxRecDepth 100000 in
theorem b_M_said_57 {p : Program} {l : Launch} {e : Env} {s : State} {m : MethodId} {args : Array Value} {below : List Frame} {meth : Method} {c : Code} {D : va_G} {kA : Nat → ClassId} {S : hE} {g : Nat → Nat} {n0 nx : Nat} {E : hE} {res : Int32} (C : hX p s m args c prog_11_method_47_code 3 R_M ws_M_said D kA S g n0) (hr : meth.sig.returnType = (some .int)) (hlk : meth.locks = false) (hnm : meth.name = "said") : ∀  (H : Heap) (locs : List Loc) (ls : Array Slot), hY D kA n0 s E nx H locs → lv_has ls 3 [] → f_M_said_b57 E   = some res → W p l e rm_M_said s m args below meth c H locs 0 0 (MQ below (va_Qi (fun r w => r = res ∧ w = (E, nx)) (hJ D kA S g n0) (fun q => n0 ≤ q)) args s 0 0 (fun q => n0 ≤ q)) (F0 m 57 ls []) := by
  intro  H locs ls M hl hf
  unfold f_M_said_b57 at hf
  refine lv_iconst (v := (-1)) C.x C.b dM_said_57 (by decide) ?_
  exact b_M_said_58 C hr hlk hnm _ _ _ _ M (lv_sub hl [] rfl) hf
def f_M_said_b28 (E : hE) (t0 : Int32) : Option (Int32) := (
  some t0)
set_option maxHeartbeats 4000000 in
set_option maxRecDepth 100000 in
theorem b_M_said_28 {p : Program} {l : Launch} {e : Env} {s : State} {m : MethodId} {args : Array Value} {below : List Frame} {meth : Method} {c : Code} {D : va_G} {kA : Nat → ClassId} {S : hE} {g : Nat → Nat} {n0 nx : Nat} {E : hE} {res : Int32} (C : hX p s m args c prog_11_method_47_code 3 R_M ws_M_said D kA S g n0) (hr : meth.sig.returnType = (some .int)) (hlk : meth.locks = false) (hnm : meth.name = "said") : ∀ (t0 : Int32) (H : Heap) (locs : List Loc) (ls : Array Slot), hY D kA n0 s E nx H locs → lv_has ls 3 [] → f_M_said_b28 E  t0 = some res → W p l e rm_M_said s m args below meth c H locs 0 0 (MQ below (va_Qi (fun r w => r = res ∧ w = (E, nx)) (hJ D kA S g n0) (fun q => n0 ≤ q)) args s 0 0 (fun q => n0 ≤ q)) (F0 m 28 ls [.int t0]) := by
  intro t0 H locs ls M hl hf
  unfold f_M_said_b28 at hf
  cases hf
  exact w_iret C M hr hlk rfl (Nat.le_refl _) (Nat.le_refl _) dM_said_28 rfl rfl
def f_M_said (E : hE) (x0 : Nat) (x1 : Int32) (x2 : Int32) : Option (Int32) := (
  if x1 = 0 then (
  (gI E (some x0) 7 21).bind fun v7 =>
  (f_M_in E x2 0 (v7 - 1)).bind fun v12 =>
  if v12 = 0 then (
  f_M_said_b28 E (-1)
  ) else (
  (gR E (some x0) 7 23).bind fun v19 =>
  (aI E v19 0 x2).bind fun v23 =>
  f_M_said_b28 E v23
  )
  ) else (
  if x1 = 1 then (
  (gI E (some x0) 7 22).bind fun v37 =>
  (f_M_in E x2 0 (v37 - 1)).bind fun v42 =>
  if v42 = 0 then (
  f_M_said_b57 E 
  ) else (
  (gR E (some x0) 7 24).bind fun v49 =>
  (aI E v49 0 x2).bind fun v53 =>
  f_M_said_b58 E v53
  )
  ) else (
  f_M_said_b57 E 
  )
  ))
set_option maxHeartbeats 4000000 in
set_option maxRecDepth 100000 in
theorem c_M_said {l : Launch} {D : va_G} {kA : Nat → ClassId} {S : hE} {g : Nat → Nat} {n0 nx : Nat} {x0 : Nat} {x1 : Int32} {x2 : Int32} {E : hE} {res : Int32} (hf : f_M_said E x0 x1 x2 = some res) : Met l y_M_said ws_M_said rm_M_said (va_Pc [va_rf (some x0), .int x1, .int x2] (hJ D kA S g n0 (E, nx))) (va_Qi (fun r w => r = res ∧ w = (E, nx)) (hJ D kA S g n0) (fun q => n0 ≤ q)) 0 0 (fun q => n0 ≤ q) := by
  refine h_met (cc := prog_11_method_47_code) (maxL := 3) (ret := (some .int)) (lvs := [(0, va_rf (some x0)), (1, .int x1), (2, .int x2)]) zZ_k (by decide) rfl (by simp [lg_sl, va_rf_cat, cat_i, cat_l, cat_n]) (by simp [lv_args, va_rf_cat, cat_i, cat_l, cat_n]) ?_
  intro p e s m below meth c ls C M hr hlk hnm hl
  unfold f_M_said at hf
  refine lv_iload_n C.x C.b dM_said_0 rfl (lv_at hl 1 rfl) ?_
  refine lv_if_ne (tgt := 29) C.x C.b dM_said_1 (by decide) (fun c1 => ?_) (fun c1 => ?_)
  · rw [if_neg c1] at hf
    refine lv_iload_n C.x C.b dM_said_29 rfl (lv_at hl 1 rfl) ?_
    refine lv_iconst (v := 1) C.x C.b dM_said_30 (by decide) ?_
    refine lv_icmp_ne (tgt := 57) C.x C.b dM_said_31 (by decide) (fun c31 => ?_) (fun c31 => ?_)
    · rw [if_neg c31] at hf
      exact b_M_said_57 C hr hlk hnm _ _ _ M (lv_sub hl [] rfl) hf
    · rw [if_pos c31] at hf
      refine lv_iload_n C.x C.b dM_said_34 rfl (lv_at hl 2 rfl) ?_
      refine lv_iconst (v := 0) C.x C.b dM_said_35 (by decide) ?_
      refine w_aload_n C.x C.b dM_said_36 rfl (lv_at hl 0 rfl) ?_
      obtain ⟨v37, h37, hf⟩ := Option.bind_eq_some_iff.mp hf
      refine w_getI C M h37 rfl (hm_in in_M) (by decide) (List.mem_cons_of_mem _ wm_745) rfl dM_said_37 ?_
      refine lv_iconst (v := 1) C.x C.b dM_said_40 (by decide) ?_
      refine lv_isub C.x C.b dM_said_41 ?_
      obtain ⟨v42, h42, hf⟩ := Option.bind_eq_some_iff.mp hf
      refine w_ci M (w_runS C M (c_M_in h42) (cwS 3 C.ts (hgS wm_829 wm_830 wm_6 wm_831) rfl rfl rfl (by decide +kernel) ⟨Nat.le_of_ble_eq_true rfl, Nat.le_of_ble_eq_true rfl⟩) rfl hl.1 rfl (Nat.zero_le _) dM_said_42 ⟨Nat.le_refl _, Nat.le_refl _⟩) (fun H locs M => ?_)
      refine lv_if_eq (tgt := 57) C.x C.b dM_said_45 (by decide) (fun c45 => ?_) (fun c45 => ?_)
      · rw [if_pos c45] at hf
        exact b_M_said_57 C hr hlk hnm _ _ _ M (lv_sub hl [] rfl) hf
      · rw [if_neg c45] at hf
        refine w_aload_n C.x C.b dM_said_48 rfl (lv_at hl 0 rfl) ?_
        obtain ⟨v49, h49, hf⟩ := Option.bind_eq_some_iff.mp hf
        refine w_getR C M h49 rfl (hm_in in_M) (by decide) (List.mem_cons_of_mem _ wm_747) rfl dM_said_49 ?_
        refine lv_iload_n C.x C.b dM_said_52 rfl (lv_at hl 2 rfl) ?_
        obtain ⟨v53, h53, hf⟩ := Option.bind_eq_some_iff.mp hf
        refine w_iald C M h53 rfl dM_said_53 ?_
        refine lv_goto (tgt := 58) C.x C.b dM_said_54 (by decide) ?_
        exact b_M_said_58 C hr hlk hnm _ _ _ _ M (lv_sub hl [] rfl) hf
  · rw [if_pos c1] at hf
    refine lv_iload_n C.x C.b dM_said_4 rfl (lv_at hl 2 rfl) ?_
    refine lv_iconst (v := 0) C.x C.b dM_said_5 (by decide) ?_
    refine w_aload_n C.x C.b dM_said_6 rfl (lv_at hl 0 rfl) ?_
    obtain ⟨v7, h7, hf⟩ := Option.bind_eq_some_iff.mp hf
    refine w_getI C M h7 rfl (hm_in in_M) (by decide) (List.mem_cons_of_mem _ wm_744) rfl dM_said_7 ?_
    refine lv_iconst (v := 1) C.x C.b dM_said_10 (by decide) ?_
    refine lv_isub C.x C.b dM_said_11 ?_
    obtain ⟨v12, h12, hf⟩ := Option.bind_eq_some_iff.mp hf
    refine w_ci M (w_runS C M (c_M_in h12) (cwS 3 C.ts (hgS wm_829 wm_830 wm_6 wm_831) rfl rfl rfl (by decide +kernel) ⟨Nat.le_of_ble_eq_true rfl, Nat.le_of_ble_eq_true rfl⟩) rfl hl.1 rfl (Nat.zero_le _) dM_said_12 ⟨Nat.le_refl _, Nat.le_refl _⟩) (fun H locs M => ?_)
    refine lv_if_eq (tgt := 27) C.x C.b dM_said_15 (by decide) (fun c15 => ?_) (fun c15 => ?_)
    · rw [if_pos c15] at hf
      refine lv_iconst (v := (-1)) C.x C.b dM_said_27 (by decide) ?_
      exact b_M_said_28 C hr hlk hnm _ _ _ _ M (lv_sub hl [] rfl) hf
    · rw [if_neg c15] at hf
      refine w_aload_n C.x C.b dM_said_18 rfl (lv_at hl 0 rfl) ?_
      obtain ⟨v19, h19, hf⟩ := Option.bind_eq_some_iff.mp hf
      refine w_getR C M h19 rfl (hm_in in_M) (by decide) (List.mem_cons_of_mem _ wm_746) rfl dM_said_19 ?_
      refine lv_iload_n C.x C.b dM_said_22 rfl (lv_at hl 2 rfl) ?_
      obtain ⟨v23, h23, hf⟩ := Option.bind_eq_some_iff.mp hf
      refine w_iald C M h23 rfl dM_said_23 ?_
      refine lv_goto (tgt := 28) C.x C.b dM_said_24 (by decide) ?_
      exact b_M_said_28 C hr hlk hnm _ _ _ _ M (lv_sub hl [] rfl) hf
theorem dM_register_0 : decode prog_11_method_48_code 0 = .ok (.aload_n 0, 1) := by decide +kernel
theorem dM_register_1 : decode prog_11_method_48_code 1 = .ok (.getfield 215, 3) := by decide +kernel
theorem dM_register_4 : decode prog_11_method_48_code 4 = .ok (.ifCond .eq 22, 3) := by decide +kernel
theorem dM_register_7 : decode prog_11_method_48_code 7 = .ok (.iload_n 1, 1) := by decide +kernel
theorem dM_register_8 : decode prog_11_method_48_code 8 = .ok (.iconst 0, 1) := by decide +kernel
theorem dM_register_9 : decode prog_11_method_48_code 9 = .ok (.bipush 7, 2) := by decide +kernel
theorem dM_register_11 : decode prog_11_method_48_code 11 = .ok (.invokestatic 83, 3) := by decide +kernel
theorem dM_register_14 : decode prog_11_method_48_code 14 = .ok (.ifCond .eq 12, 3) := by decide +kernel
theorem dM_register_17 : decode prog_11_method_48_code 17 = .ok (.aload_n 0, 1) := by decide +kernel
theorem dM_register_18 : decode prog_11_method_48_code 18 = .ok (.getfield 69, 3) := by decide +kernel
theorem dM_register_21 : decode prog_11_method_48_code 21 = .ok (.iload_n 1, 1) := by decide +kernel
theorem dM_register_22 : decode prog_11_method_48_code 22 = .ok (.iaload, 1) := by decide +kernel
theorem dM_register_23 : decode prog_11_method_48_code 23 = .ok (.goto 4, 3) := by decide +kernel
theorem dM_register_26 : decode prog_11_method_48_code 26 = .ok (.iconst 0, 1) := by decide +kernel
theorem dM_register_27 : decode prog_11_method_48_code 27 = .ok (.ireturn, 1) := by decide +kernel
abbrev rm_M_register : Room := { frames := 1, cells := 0, slots := 0, locals := 22 }
def f_M_register_b27 (E : hE) (t0 : Int32) : Option (Int32) := (
  some t0)
set_option maxHeartbeats 4000000 in
set_option maxRecDepth 100000 in
theorem b_M_register_27 {p : Program} {l : Launch} {e : Env} {s : State} {m : MethodId} {args : Array Value} {below : List Frame} {meth : Method} {c : Code} {D : va_G} {kA : Nat → ClassId} {S : hE} {g : Nat → Nat} {n0 nx : Nat} {E : hE} {res : Int32} (C : hX p s m args c prog_11_method_48_code 2 R_M ws_M_register D kA S g n0) (hr : meth.sig.returnType = (some .int)) (hlk : meth.locks = false) (hnm : meth.name = "register") : ∀ (t0 : Int32) (H : Heap) (locs : List Loc) (ls : Array Slot), hY D kA n0 s E nx H locs → lv_has ls 2 [] → f_M_register_b27 E  t0 = some res → W p l e rm_M_register s m args below meth c H locs 0 0 (MQ below (va_Qi (fun r w => r = res ∧ w = (E, nx)) (hJ D kA S g n0) (fun q => n0 ≤ q)) args s 0 0 (fun q => n0 ≤ q)) (F0 m 27 ls [.int t0]) := by
  intro t0 H locs ls M hl hf
  unfold f_M_register_b27 at hf
  cases hf
  exact w_iret C M hr hlk rfl (Nat.le_refl _) (Nat.le_refl _) dM_register_27 rfl rfl
def f_M_register_b26 (E : hE) : Option (Int32) := (
  f_M_register_b27 E 0)
set_option maxHeartbeats 4000000 in
set_option maxRecDepth 100000 in
theorem b_M_register_26 {p : Program} {l : Launch} {e : Env} {s : State} {m : MethodId} {args : Array Value} {below : List Frame} {meth : Method} {c : Code} {D : va_G} {kA : Nat → ClassId} {S : hE} {g : Nat → Nat} {n0 nx : Nat} {E : hE} {res : Int32} (C : hX p s m args c prog_11_method_48_code 2 R_M ws_M_register D kA S g n0) (hr : meth.sig.returnType = (some .int)) (hlk : meth.locks = false) (hnm : meth.name = "register") : ∀  (H : Heap) (locs : List Loc) (ls : Array Slot), hY D kA n0 s E nx H locs → lv_has ls 2 [] → f_M_register_b26 E   = some res → W p l e rm_M_register s m args below meth c H locs 0 0 (MQ below (va_Qi (fun r w => r = res ∧ w = (E, nx)) (hJ D kA S g n0) (fun q => n0 ≤ q)) args s 0 0 (fun q => n0 ≤ q)) (F0 m 26 ls []) := by
  intro  H locs ls M hl hf
  unfold f_M_register_b26 at hf
  refine lv_iconst (v := 0) C.x C.b dM_register_26 (by decide) ?_
  exact b_M_register_27 C hr hlk hnm _ _ _ _ M (lv_sub hl [] rfl) hf
def f_M_register (E : hE) (x0 : Nat) (x1 : Int32) : Option (Int32) := (
  (gI E (some x0) 7 16).bind fun v1 =>
  if v1 = 0 then (
  f_M_register_b26 E 
  ) else (
  (f_M_in E x1 0 7).bind fun v11 =>
  if v11 = 0 then (
  f_M_register_b26 E 
  ) else (
  (gR E (some x0) 7 29).bind fun v18 =>
  (aI E v18 0 x1).bind fun v22 =>
  f_M_register_b27 E v22
  )
  ))
set_option maxHeartbeats 4000000 in
set_option maxRecDepth 100000 in
theorem c_M_register {l : Launch} {D : va_G} {kA : Nat → ClassId} {S : hE} {g : Nat → Nat} {n0 nx : Nat} {x0 : Nat} {x1 : Int32} {E : hE} {res : Int32} (hf : f_M_register E x0 x1 = some res) : Met l y_M_register ws_M_register rm_M_register (va_Pc [va_rf (some x0), .int x1] (hJ D kA S g n0 (E, nx))) (va_Qi (fun r w => r = res ∧ w = (E, nx)) (hJ D kA S g n0) (fun q => n0 ≤ q)) 0 0 (fun q => n0 ≤ q) := by
  refine h_met (cc := prog_11_method_48_code) (maxL := 2) (ret := (some .int)) (lvs := [(0, va_rf (some x0)), (1, .int x1)]) zZ_k (by decide) rfl (by simp [lg_sl, va_rf_cat, cat_i, cat_l, cat_n]) (by simp [lv_args, va_rf_cat, cat_i, cat_l, cat_n]) ?_
  intro p e s m below meth c ls C M hr hlk hnm hl
  unfold f_M_register at hf
  refine w_aload_n C.x C.b dM_register_0 rfl (lv_at hl 0 rfl) ?_
  obtain ⟨v1, h1, hf⟩ := Option.bind_eq_some_iff.mp hf
  refine w_getI C M h1 rfl (hm_in in_M) (by decide) (List.mem_cons_of_mem _ wm_739) rfl dM_register_1 ?_
  refine lv_if_eq (tgt := 26) C.x C.b dM_register_4 (by decide) (fun c4 => ?_) (fun c4 => ?_)
  · rw [if_pos c4] at hf
    exact b_M_register_26 C hr hlk hnm _ _ _ M (lv_sub hl [] rfl) hf
  · rw [if_neg c4] at hf
    refine lv_iload_n C.x C.b dM_register_7 rfl (lv_at hl 1 rfl) ?_
    refine lv_iconst (v := 0) C.x C.b dM_register_8 (by decide) ?_
    refine lv_bipush (v := 7) C.x C.b dM_register_9 (by decide) ?_
    obtain ⟨v11, h11, hf⟩ := Option.bind_eq_some_iff.mp hf
    refine w_ci M (w_runS C M (c_M_in h11) (cwS 3 C.ts (hgS wm_829 wm_830 wm_6 wm_831) rfl rfl rfl (by decide +kernel) ⟨Nat.le_of_ble_eq_true rfl, Nat.le_of_ble_eq_true rfl⟩) rfl hl.1 rfl (Nat.zero_le _) dM_register_11 ⟨Nat.le_refl _, Nat.le_refl _⟩) (fun H locs M => ?_)
    refine lv_if_eq (tgt := 26) C.x C.b dM_register_14 (by decide) (fun c14 => ?_) (fun c14 => ?_)
    · rw [if_pos c14] at hf
      exact b_M_register_26 C hr hlk hnm _ _ _ M (lv_sub hl [] rfl) hf
    · rw [if_neg c14] at hf
      refine w_aload_n C.x C.b dM_register_17 rfl (lv_at hl 0 rfl) ?_
      obtain ⟨v18, h18, hf⟩ := Option.bind_eq_some_iff.mp hf
      refine w_getR C M h18 rfl (hm_in in_M) (by decide) (List.mem_cons_of_mem _ wm_752) rfl dM_register_18 ?_
      refine lv_iload_n C.x C.b dM_register_21 rfl (lv_at hl 1 rfl) ?_
      obtain ⟨v22, h22, hf⟩ := Option.bind_eq_some_iff.mp hf
      refine w_iald C M h22 rfl dM_register_22 ?_
      refine lv_goto (tgt := 27) C.x C.b dM_register_23 (by decide) ?_
      exact b_M_register_27 C hr hlk hnm _ _ _ _ M (lv_sub hl [] rfl) hf
theorem dM_size_0 : decode prog_11_method_49_code 0 = .ok (.iload_n 1, 1) := by decide +kernel
theorem dM_size_1 : decode prog_11_method_49_code 1 = .ok (.invokestatic 206, 3) := by decide +kernel
theorem dM_size_4 : decode prog_11_method_49_code 4 = .ok (.ifCond .eq 21, 3) := by decide +kernel
theorem dM_size_7 : decode prog_11_method_49_code 7 = .ok (.aload_n 0, 1) := by decide +kernel
theorem dM_size_8 : decode prog_11_method_49_code 8 = .ok (.getfield 42, 3) := by decide +kernel
theorem dM_size_11 : decode prog_11_method_49_code 11 = .ok (.iload_n 1, 1) := by decide +kernel
theorem dM_size_12 : decode prog_11_method_49_code 12 = .ok (.baload, 1) := by decide +kernel
theorem dM_size_13 : decode prog_11_method_49_code 13 = .ok (.ifCond .eq 12, 3) := by decide +kernel
theorem dM_size_16 : decode prog_11_method_49_code 16 = .ok (.aload_n 0, 1) := by decide +kernel
theorem dM_size_17 : decode prog_11_method_49_code 17 = .ok (.getfield 45, 3) := by decide +kernel
theorem dM_size_20 : decode prog_11_method_49_code 20 = .ok (.iload_n 1, 1) := by decide +kernel
theorem dM_size_21 : decode prog_11_method_49_code 21 = .ok (.iaload, 1) := by decide +kernel
theorem dM_size_22 : decode prog_11_method_49_code 22 = .ok (.goto 4, 3) := by decide +kernel
theorem dM_size_25 : decode prog_11_method_49_code 25 = .ok (.iconst (-1), 1) := by decide +kernel
theorem dM_size_26 : decode prog_11_method_49_code 26 = .ok (.ireturn, 1) := by decide +kernel
abbrev rm_M_size : Room := { frames := 2, cells := 0, slots := 0, locals := 42 }
def f_M_size_b26 (E : hE) (t0 : Int32) : Option (Int32) := (
  some t0)
set_option maxHeartbeats 4000000 in
set_option maxRecDepth 100000 in
theorem b_M_size_26 {p : Program} {l : Launch} {e : Env} {s : State} {m : MethodId} {args : Array Value} {below : List Frame} {meth : Method} {c : Code} {D : va_G} {kA : Nat → ClassId} {S : hE} {g : Nat → Nat} {n0 nx : Nat} {E : hE} {res : Int32} (C : hX p s m args c prog_11_method_49_code 2 R_M ws_M_size D kA S g n0) (hr : meth.sig.returnType = (some .int)) (hlk : meth.locks = false) (hnm : meth.name = "size") : ∀ (t0 : Int32) (H : Heap) (locs : List Loc) (ls : Array Slot), hY D kA n0 s E nx H locs → lv_has ls 2 [] → f_M_size_b26 E  t0 = some res → W p l e rm_M_size s m args below meth c H locs 0 0 (MQ below (va_Qi (fun r w => r = res ∧ w = (E, nx)) (hJ D kA S g n0) (fun q => n0 ≤ q)) args s 0 0 (fun q => n0 ≤ q)) (F0 m 26 ls [.int t0]) := by
  intro t0 H locs ls M hl hf
  unfold f_M_size_b26 at hf
  cases hf
  exact w_iret C M hr hlk rfl (Nat.le_refl _) (Nat.le_refl _) dM_size_26 rfl rfl
def f_M_size_b25 (E : hE) : Option (Int32) := (
  f_M_size_b26 E (-1))
set_option maxHeartbeats 4000000 in
set_option maxRecDepth 100000 in
theorem b_M_size_25 {p : Program} {l : Launch} {e : Env} {s : State} {m : MethodId} {args : Array Value} {below : List Frame} {meth : Method} {c : Code} {D : va_G} {kA : Nat → ClassId} {S : hE} {g : Nat → Nat} {n0 nx : Nat} {E : hE} {res : Int32} (C : hX p s m args c prog_11_method_49_code 2 R_M ws_M_size D kA S g n0) (hr : meth.sig.returnType = (some .int)) (hlk : meth.locks = false) (hnm : meth.name = "size") : ∀  (H : Heap) (locs : List Loc) (ls : Array Slot), hY D kA n0 s E nx H locs → lv_has ls 2 [] → f_M_size_b25 E   = some res → W p l e rm_M_size s m args below meth c H locs 0 0 (MQ below (va_Qi (fun r w => r = res ∧ w = (E, nx)) (hJ D kA S g n0) (fun q => n0 ≤ q)) args s 0 0 (fun q => n0 ≤ q)) (F0 m 25 ls []) := by
  intro  H locs ls M hl hf
  unfold f_M_size_b25 at hf
  refine lv_iconst (v := (-1)) C.x C.b dM_size_25 (by decide) ?_
  exact b_M_size_26 C hr hlk hnm _ _ _ _ M (lv_sub hl [] rfl) hf
def f_M_size (E : hE) (x0 : Nat) (x1 : Int32) : Option (Int32) := (
  (f_M_isFile E x1).bind fun v1 =>
  if v1 = 0 then (
  f_M_size_b25 E 
  ) else (
  (gR E (some x0) 7 12).bind fun v8 =>
  (aI E v8 1 x1).bind fun v12 =>
  if v12 = 0 then (
  f_M_size_b25 E 
  ) else (
  (gR E (some x0) 7 13).bind fun v17 =>
  (aI E v17 0 x1).bind fun v21 =>
  f_M_size_b26 E v21
  )
  ))
set_option maxHeartbeats 4000000 in
set_option maxRecDepth 100000 in
theorem c_M_size {l : Launch} {D : va_G} {kA : Nat → ClassId} {S : hE} {g : Nat → Nat} {n0 nx : Nat} {x0 : Nat} {x1 : Int32} {E : hE} {res : Int32} (hf : f_M_size E x0 x1 = some res) : Met l y_M_size ws_M_size rm_M_size (va_Pc [va_rf (some x0), .int x1] (hJ D kA S g n0 (E, nx))) (va_Qi (fun r w => r = res ∧ w = (E, nx)) (hJ D kA S g n0) (fun q => n0 ≤ q)) 0 0 (fun q => n0 ≤ q) := by
  refine h_met (cc := prog_11_method_49_code) (maxL := 2) (ret := (some .int)) (lvs := [(0, va_rf (some x0)), (1, .int x1)]) zZ_k (by decide) rfl (by simp [lg_sl, va_rf_cat, cat_i, cat_l, cat_n]) (by simp [lv_args, va_rf_cat, cat_i, cat_l, cat_n]) ?_
  intro p e s m below meth c ls C M hr hlk hnm hl
  unfold f_M_size at hf
  refine lv_iload_n C.x C.b dM_size_0 rfl (lv_at hl 1 rfl) ?_
  obtain ⟨v1, h1, hf⟩ := Option.bind_eq_some_iff.mp hf
  refine w_ci M (w_runS C M (c_M_isFile h1) (cwS 1 C.ts (hgS wm_926 wm_927 wm_6 wm_928) rfl rfl rfl (by decide +kernel) ⟨Nat.le_of_ble_eq_true rfl, Nat.le_of_ble_eq_true rfl⟩) rfl hl.1 rfl (Nat.zero_le _) dM_size_1 ⟨Nat.le_refl _, Nat.le_refl _⟩) (fun H locs M => ?_)
  refine lv_if_eq (tgt := 25) C.x C.b dM_size_4 (by decide) (fun c4 => ?_) (fun c4 => ?_)
  · rw [if_pos c4] at hf
    exact b_M_size_25 C hr hlk hnm _ _ _ M (lv_sub hl [] rfl) hf
  · rw [if_neg c4] at hf
    refine w_aload_n C.x C.b dM_size_7 rfl (lv_at hl 0 rfl) ?_
    obtain ⟨v8, h8, hf⟩ := Option.bind_eq_some_iff.mp hf
    refine w_getR C M h8 rfl (hm_in in_M) (by decide) (List.mem_cons_of_mem _ wm_735) rfl dM_size_8 ?_
    refine lv_iload_n C.x C.b dM_size_11 rfl (lv_at hl 1 rfl) ?_
    obtain ⟨v12, h12, hf⟩ := Option.bind_eq_some_iff.mp hf
    refine w_zald C M h12 rfl dM_size_12 ?_
    refine lv_if_eq (tgt := 25) C.x C.b dM_size_13 (by decide) (fun c13 => ?_) (fun c13 => ?_)
    · rw [if_pos c13] at hf
      exact b_M_size_25 C hr hlk hnm _ _ _ M (lv_sub hl [] rfl) hf
    · rw [if_neg c13] at hf
      refine w_aload_n C.x C.b dM_size_16 rfl (lv_at hl 0 rfl) ?_
      obtain ⟨v17, h17, hf⟩ := Option.bind_eq_some_iff.mp hf
      refine w_getR C M h17 rfl (hm_in in_M) (by decide) (List.mem_cons_of_mem _ wm_736) rfl dM_size_17 ?_
      refine lv_iload_n C.x C.b dM_size_20 rfl (lv_at hl 1 rfl) ?_
      obtain ⟨v21, h21, hf⟩ := Option.bind_eq_some_iff.mp hf
      refine w_iald C M h21 rfl dM_size_21 ?_
      refine lv_goto (tgt := 26) C.x C.b dM_size_22 (by decide) ?_
      exact b_M_size_26 C hr hlk hnm _ _ _ _ M (lv_sub hl [] rfl) hf
