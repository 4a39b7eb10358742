abbrev cC_Mod_init : ByteArray := prog_14_method_1_code
def yC_Mod_init : MethodName := ⟨RM, "<init>", "()V"⟩
theorem dC_Mod_init_0 : decode cC_Mod_init 0 = .ok (.aload_n 0, 1) := by decide +kernel
theorem dC_Mod_init_1 : decode cC_Mod_init 1 = .ok (.invokespecial 1, 3) := by decide +kernel
theorem dC_Mod_init_4 : decode cC_Mod_init 4 = .ok (.aload_n 0, 1) := by decide +kernel
theorem dC_Mod_init_5 : decode cC_Mod_init 5 = .ok (.sipush (128), 3) := by decide +kernel
theorem dC_Mod_init_8 : decode cC_Mod_init 8 = .ok (.newarray .long, 2) := by decide +kernel
theorem dC_Mod_init_10 : decode cC_Mod_init 10 = .ok (.dup, 1) := by decide +kernel
theorem dC_Mod_init_11 : decode cC_Mod_init 11 = .ok (.iconst (0), 1) := by decide +kernel
theorem dC_Mod_init_12 : decode cC_Mod_init 12 = .ok (.ldc2_w 7, 3) := by decide +kernel
theorem dC_Mod_init_15 : decode cC_Mod_init 15 = .ok (.lastore, 1) := by decide +kernel
theorem dC_Mod_init_16 : decode cC_Mod_init 16 = .ok (.dup, 1) := by decide +kernel
theorem dC_Mod_init_17 : decode cC_Mod_init 17 = .ok (.iconst (1), 1) := by decide +kernel
theorem dC_Mod_init_18 : decode cC_Mod_init 18 = .ok (.ldc2_w 9, 3) := by decide +kernel
theorem dC_Mod_init_21 : decode cC_Mod_init 21 = .ok (.lastore, 1) := by decide +kernel
theorem dC_Mod_init_22 : decode cC_Mod_init 22 = .ok (.dup, 1) := by decide +kernel
theorem dC_Mod_init_23 : decode cC_Mod_init 23 = .ok (.iconst (2), 1) := by decide +kernel
theorem dC_Mod_init_24 : decode cC_Mod_init 24 = .ok (.ldc2_w 11, 3) := by decide +kernel
theorem dC_Mod_init_27 : decode cC_Mod_init 27 = .ok (.lastore, 1) := by decide +kernel
theorem dC_Mod_init_28 : decode cC_Mod_init 28 = .ok (.dup, 1) := by decide +kernel
theorem dC_Mod_init_29 : decode cC_Mod_init 29 = .ok (.iconst (3), 1) := by decide +kernel
theorem dC_Mod_init_30 : decode cC_Mod_init 30 = .ok (.ldc2_w 13, 3) := by decide +kernel
theorem dC_Mod_init_33 : decode cC_Mod_init 33 = .ok (.lastore, 1) := by decide +kernel
theorem dC_Mod_init_34 : decode cC_Mod_init 34 = .ok (.dup, 1) := by decide +kernel
theorem dC_Mod_init_35 : decode cC_Mod_init 35 = .ok (.iconst (4), 1) := by decide +kernel
theorem dC_Mod_init_36 : decode cC_Mod_init 36 = .ok (.ldc2_w 15, 3) := by decide +kernel
theorem dC_Mod_init_39 : decode cC_Mod_init 39 = .ok (.lastore, 1) := by decide +kernel
theorem dC_Mod_init_40 : decode cC_Mod_init 40 = .ok (.dup, 1) := by decide +kernel
theorem dC_Mod_init_41 : decode cC_Mod_init 41 = .ok (.iconst (5), 1) := by decide +kernel
theorem dC_Mod_init_42 : decode cC_Mod_init 42 = .ok (.ldc2_w 17, 3) := by decide +kernel
theorem dC_Mod_init_45 : decode cC_Mod_init 45 = .ok (.lastore, 1) := by decide +kernel
theorem dC_Mod_init_46 : decode cC_Mod_init 46 = .ok (.dup, 1) := by decide +kernel
theorem dC_Mod_init_47 : decode cC_Mod_init 47 = .ok (.bipush (6), 2) := by decide +kernel
theorem dC_Mod_init_49 : decode cC_Mod_init 49 = .ok (.ldc2_w 19, 3) := by decide +kernel
theorem dC_Mod_init_52 : decode cC_Mod_init 52 = .ok (.lastore, 1) := by decide +kernel
theorem dC_Mod_init_53 : decode cC_Mod_init 53 = .ok (.dup, 1) := by decide +kernel
theorem dC_Mod_init_54 : decode cC_Mod_init 54 = .ok (.bipush (7), 2) := by decide +kernel
theorem dC_Mod_init_56 : decode cC_Mod_init 56 = .ok (.ldc2_w 21, 3) := by decide +kernel
theorem dC_Mod_init_59 : decode cC_Mod_init 59 = .ok (.lastore, 1) := by decide +kernel
theorem dC_Mod_init_60 : decode cC_Mod_init 60 = .ok (.dup, 1) := by decide +kernel
theorem dC_Mod_init_61 : decode cC_Mod_init 61 = .ok (.bipush (8), 2) := by decide +kernel
theorem dC_Mod_init_63 : decode cC_Mod_init 63 = .ok (.ldc2_w 23, 3) := by decide +kernel
theorem dC_Mod_init_66 : decode cC_Mod_init 66 = .ok (.lastore, 1) := by decide +kernel
theorem dC_Mod_init_67 : decode cC_Mod_init 67 = .ok (.dup, 1) := by decide +kernel
theorem dC_Mod_init_68 : decode cC_Mod_init 68 = .ok (.bipush (9), 2) := by decide +kernel
theorem dC_Mod_init_70 : decode cC_Mod_init 70 = .ok (.ldc2_w 25, 3) := by decide +kernel
theorem dC_Mod_init_73 : decode cC_Mod_init 73 = .ok (.lastore, 1) := by decide +kernel
theorem dC_Mod_init_74 : decode cC_Mod_init 74 = .ok (.dup, 1) := by decide +kernel
theorem dC_Mod_init_75 : decode cC_Mod_init 75 = .ok (.bipush (10), 2) := by decide +kernel
theorem dC_Mod_init_77 : decode cC_Mod_init 77 = .ok (.ldc2_w 27, 3) := by decide +kernel
theorem dC_Mod_init_80 : decode cC_Mod_init 80 = .ok (.lastore, 1) := by decide +kernel
theorem dC_Mod_init_81 : decode cC_Mod_init 81 = .ok (.dup, 1) := by decide +kernel
theorem dC_Mod_init_82 : decode cC_Mod_init 82 = .ok (.bipush (11), 2) := by decide +kernel
theorem dC_Mod_init_84 : decode cC_Mod_init 84 = .ok (.ldc2_w 29, 3) := by decide +kernel
theorem dC_Mod_init_87 : decode cC_Mod_init 87 = .ok (.lastore, 1) := by decide +kernel
theorem dC_Mod_init_88 : decode cC_Mod_init 88 = .ok (.dup, 1) := by decide +kernel
theorem dC_Mod_init_89 : decode cC_Mod_init 89 = .ok (.bipush (12), 2) := by decide +kernel
theorem dC_Mod_init_91 : decode cC_Mod_init 91 = .ok (.ldc2_w 31, 3) := by decide +kernel
theorem dC_Mod_init_94 : decode cC_Mod_init 94 = .ok (.lastore, 1) := by decide +kernel
theorem dC_Mod_init_95 : decode cC_Mod_init 95 = .ok (.dup, 1) := by decide +kernel
theorem dC_Mod_init_96 : decode cC_Mod_init 96 = .ok (.bipush (13), 2) := by decide +kernel
theorem dC_Mod_init_98 : decode cC_Mod_init 98 = .ok (.ldc2_w 33, 3) := by decide +kernel
theorem dC_Mod_init_101 : decode cC_Mod_init 101 = .ok (.lastore, 1) := by decide +kernel
theorem dC_Mod_init_102 : decode cC_Mod_init 102 = .ok (.dup, 1) := by decide +kernel
theorem dC_Mod_init_103 : decode cC_Mod_init 103 = .ok (.bipush (14), 2) := by decide +kernel
theorem dC_Mod_init_105 : decode cC_Mod_init 105 = .ok (.ldc2_w 35, 3) := by decide +kernel
theorem dC_Mod_init_108 : decode cC_Mod_init 108 = .ok (.lastore, 1) := by decide +kernel
theorem dC_Mod_init_109 : decode cC_Mod_init 109 = .ok (.dup, 1) := by decide +kernel
theorem dC_Mod_init_110 : decode cC_Mod_init 110 = .ok (.bipush (15), 2) := by decide +kernel
theorem dC_Mod_init_112 : decode cC_Mod_init 112 = .ok (.ldc2_w 37, 3) := by decide +kernel
theorem dC_Mod_init_115 : decode cC_Mod_init 115 = .ok (.lastore, 1) := by decide +kernel
theorem dC_Mod_init_116 : decode cC_Mod_init 116 = .ok (.dup, 1) := by decide +kernel
theorem dC_Mod_init_117 : decode cC_Mod_init 117 = .ok (.bipush (16), 2) := by decide +kernel
theorem dC_Mod_init_119 : decode cC_Mod_init 119 = .ok (.ldc2_w 39, 3) := by decide +kernel
theorem dC_Mod_init_122 : decode cC_Mod_init 122 = .ok (.lastore, 1) := by decide +kernel
theorem dC_Mod_init_123 : decode cC_Mod_init 123 = .ok (.dup, 1) := by decide +kernel
theorem dC_Mod_init_124 : decode cC_Mod_init 124 = .ok (.bipush (17), 2) := by decide +kernel
theorem dC_Mod_init_126 : decode cC_Mod_init 126 = .ok (.ldc2_w 41, 3) := by decide +kernel
theorem dC_Mod_init_129 : decode cC_Mod_init 129 = .ok (.lastore, 1) := by decide +kernel
theorem dC_Mod_init_130 : decode cC_Mod_init 130 = .ok (.dup, 1) := by decide +kernel
theorem dC_Mod_init_131 : decode cC_Mod_init 131 = .ok (.bipush (18), 2) := by decide +kernel
theorem dC_Mod_init_133 : decode cC_Mod_init 133 = .ok (.ldc2_w 43, 3) := by decide +kernel
theorem dC_Mod_init_136 : decode cC_Mod_init 136 = .ok (.lastore, 1) := by decide +kernel
theorem dC_Mod_init_137 : decode cC_Mod_init 137 = .ok (.dup, 1) := by decide +kernel
theorem dC_Mod_init_138 : decode cC_Mod_init 138 = .ok (.bipush (19), 2) := by decide +kernel
theorem dC_Mod_init_140 : decode cC_Mod_init 140 = .ok (.ldc2_w 45, 3) := by decide +kernel
theorem dC_Mod_init_143 : decode cC_Mod_init 143 = .ok (.lastore, 1) := by decide +kernel
theorem dC_Mod_init_144 : decode cC_Mod_init 144 = .ok (.dup, 1) := by decide +kernel
theorem dC_Mod_init_145 : decode cC_Mod_init 145 = .ok (.bipush (20), 2) := by decide +kernel
theorem dC_Mod_init_147 : decode cC_Mod_init 147 = .ok (.ldc2_w 47, 3) := by decide +kernel
theorem dC_Mod_init_150 : decode cC_Mod_init 150 = .ok (.lastore, 1) := by decide +kernel
theorem dC_Mod_init_151 : decode cC_Mod_init 151 = .ok (.dup, 1) := by decide +kernel
theorem dC_Mod_init_152 : decode cC_Mod_init 152 = .ok (.bipush (21), 2) := by decide +kernel
theorem dC_Mod_init_154 : decode cC_Mod_init 154 = .ok (.ldc2_w 49, 3) := by decide +kernel
theorem dC_Mod_init_157 : decode cC_Mod_init 157 = .ok (.lastore, 1) := by decide +kernel
theorem dC_Mod_init_158 : decode cC_Mod_init 158 = .ok (.dup, 1) := by decide +kernel
theorem dC_Mod_init_159 : decode cC_Mod_init 159 = .ok (.bipush (22), 2) := by decide +kernel
theorem dC_Mod_init_161 : decode cC_Mod_init 161 = .ok (.ldc2_w 51, 3) := by decide +kernel
theorem dC_Mod_init_164 : decode cC_Mod_init 164 = .ok (.lastore, 1) := by decide +kernel
theorem dC_Mod_init_165 : decode cC_Mod_init 165 = .ok (.dup, 1) := by decide +kernel
theorem dC_Mod_init_166 : decode cC_Mod_init 166 = .ok (.bipush (23), 2) := by decide +kernel
theorem dC_Mod_init_168 : decode cC_Mod_init 168 = .ok (.ldc2_w 53, 3) := by decide +kernel
theorem dC_Mod_init_171 : decode cC_Mod_init 171 = .ok (.lastore, 1) := by decide +kernel
theorem dC_Mod_init_172 : decode cC_Mod_init 172 = .ok (.dup, 1) := by decide +kernel
theorem dC_Mod_init_173 : decode cC_Mod_init 173 = .ok (.bipush (24), 2) := by decide +kernel
theorem dC_Mod_init_175 : decode cC_Mod_init 175 = .ok (.ldc2_w 55, 3) := by decide +kernel
theorem dC_Mod_init_178 : decode cC_Mod_init 178 = .ok (.lastore, 1) := by decide +kernel
theorem dC_Mod_init_179 : decode cC_Mod_init 179 = .ok (.dup, 1) := by decide +kernel
theorem dC_Mod_init_180 : decode cC_Mod_init 180 = .ok (.bipush (25), 2) := by decide +kernel
theorem dC_Mod_init_182 : decode cC_Mod_init 182 = .ok (.ldc2_w 57, 3) := by decide +kernel
theorem dC_Mod_init_185 : decode cC_Mod_init 185 = .ok (.lastore, 1) := by decide +kernel
theorem dC_Mod_init_186 : decode cC_Mod_init 186 = .ok (.dup, 1) := by decide +kernel
theorem dC_Mod_init_187 : decode cC_Mod_init 187 = .ok (.bipush (26), 2) := by decide +kernel
theorem dC_Mod_init_189 : decode cC_Mod_init 189 = .ok (.ldc2_w 59, 3) := by decide +kernel
theorem dC_Mod_init_192 : decode cC_Mod_init 192 = .ok (.lastore, 1) := by decide +kernel
theorem dC_Mod_init_193 : decode cC_Mod_init 193 = .ok (.dup, 1) := by decide +kernel
theorem dC_Mod_init_194 : decode cC_Mod_init 194 = .ok (.bipush (27), 2) := by decide +kernel
theorem dC_Mod_init_196 : decode cC_Mod_init 196 = .ok (.ldc2_w 61, 3) := by decide +kernel
theorem dC_Mod_init_199 : decode cC_Mod_init 199 = .ok (.lastore, 1) := by decide +kernel
theorem dC_Mod_init_200 : decode cC_Mod_init 200 = .ok (.dup, 1) := by decide +kernel
theorem dC_Mod_init_201 : decode cC_Mod_init 201 = .ok (.bipush (28), 2) := by decide +kernel
theorem dC_Mod_init_203 : decode cC_Mod_init 203 = .ok (.ldc2_w 63, 3) := by decide +kernel
theorem dC_Mod_init_206 : decode cC_Mod_init 206 = .ok (.lastore, 1) := by decide +kernel
theorem dC_Mod_init_207 : decode cC_Mod_init 207 = .ok (.dup, 1) := by decide +kernel
theorem dC_Mod_init_208 : decode cC_Mod_init 208 = .ok (.bipush (29), 2) := by decide +kernel
theorem dC_Mod_init_210 : decode cC_Mod_init 210 = .ok (.ldc2_w 65, 3) := by decide +kernel
theorem dC_Mod_init_213 : decode cC_Mod_init 213 = .ok (.lastore, 1) := by decide +kernel
theorem dC_Mod_init_214 : decode cC_Mod_init 214 = .ok (.dup, 1) := by decide +kernel
theorem dC_Mod_init_215 : decode cC_Mod_init 215 = .ok (.bipush (30), 2) := by decide +kernel
theorem dC_Mod_init_217 : decode cC_Mod_init 217 = .ok (.ldc2_w 67, 3) := by decide +kernel
theorem dC_Mod_init_220 : decode cC_Mod_init 220 = .ok (.lastore, 1) := by decide +kernel
theorem dC_Mod_init_221 : decode cC_Mod_init 221 = .ok (.dup, 1) := by decide +kernel
theorem dC_Mod_init_222 : decode cC_Mod_init 222 = .ok (.bipush (31), 2) := by decide +kernel
theorem dC_Mod_init_224 : decode cC_Mod_init 224 = .ok (.ldc2_w 69, 3) := by decide +kernel
theorem dC_Mod_init_227 : decode cC_Mod_init 227 = .ok (.lastore, 1) := by decide +kernel
theorem dC_Mod_init_228 : decode cC_Mod_init 228 = .ok (.dup, 1) := by decide +kernel
theorem dC_Mod_init_229 : decode cC_Mod_init 229 = .ok (.bipush (32), 2) := by decide +kernel
theorem dC_Mod_init_231 : decode cC_Mod_init 231 = .ok (.ldc2_w 71, 3) := by decide +kernel
theorem dC_Mod_init_234 : decode cC_Mod_init 234 = .ok (.lastore, 1) := by decide +kernel
theorem dC_Mod_init_235 : decode cC_Mod_init 235 = .ok (.dup, 1) := by decide +kernel
theorem dC_Mod_init_236 : decode cC_Mod_init 236 = .ok (.bipush (33), 2) := by decide +kernel
theorem dC_Mod_init_238 : decode cC_Mod_init 238 = .ok (.ldc2_w 73, 3) := by decide +kernel
theorem dC_Mod_init_241 : decode cC_Mod_init 241 = .ok (.lastore, 1) := by decide +kernel
theorem dC_Mod_init_242 : decode cC_Mod_init 242 = .ok (.dup, 1) := by decide +kernel
theorem dC_Mod_init_243 : decode cC_Mod_init 243 = .ok (.bipush (34), 2) := by decide +kernel
theorem dC_Mod_init_245 : decode cC_Mod_init 245 = .ok (.ldc2_w 75, 3) := by decide +kernel
theorem dC_Mod_init_248 : decode cC_Mod_init 248 = .ok (.lastore, 1) := by decide +kernel
theorem dC_Mod_init_249 : decode cC_Mod_init 249 = .ok (.dup, 1) := by decide +kernel
theorem dC_Mod_init_250 : decode cC_Mod_init 250 = .ok (.bipush (35), 2) := by decide +kernel
theorem dC_Mod_init_252 : decode cC_Mod_init 252 = .ok (.ldc2_w 77, 3) := by decide +kernel
theorem dC_Mod_init_255 : decode cC_Mod_init 255 = .ok (.lastore, 1) := by decide +kernel
theorem dC_Mod_init_256 : decode cC_Mod_init 256 = .ok (.dup, 1) := by decide +kernel
theorem dC_Mod_init_257 : decode cC_Mod_init 257 = .ok (.bipush (36), 2) := by decide +kernel
theorem dC_Mod_init_259 : decode cC_Mod_init 259 = .ok (.ldc2_w 79, 3) := by decide +kernel
theorem dC_Mod_init_262 : decode cC_Mod_init 262 = .ok (.lastore, 1) := by decide +kernel
theorem dC_Mod_init_263 : decode cC_Mod_init 263 = .ok (.dup, 1) := by decide +kernel
theorem dC_Mod_init_264 : decode cC_Mod_init 264 = .ok (.bipush (37), 2) := by decide +kernel
theorem dC_Mod_init_266 : decode cC_Mod_init 266 = .ok (.ldc2_w 81, 3) := by decide +kernel
theorem dC_Mod_init_269 : decode cC_Mod_init 269 = .ok (.lastore, 1) := by decide +kernel
theorem dC_Mod_init_270 : decode cC_Mod_init 270 = .ok (.dup, 1) := by decide +kernel
theorem dC_Mod_init_271 : decode cC_Mod_init 271 = .ok (.bipush (38), 2) := by decide +kernel
theorem dC_Mod_init_273 : decode cC_Mod_init 273 = .ok (.ldc2_w 83, 3) := by decide +kernel
theorem dC_Mod_init_276 : decode cC_Mod_init 276 = .ok (.lastore, 1) := by decide +kernel
theorem dC_Mod_init_277 : decode cC_Mod_init 277 = .ok (.dup, 1) := by decide +kernel
theorem dC_Mod_init_278 : decode cC_Mod_init 278 = .ok (.bipush (39), 2) := by decide +kernel
theorem dC_Mod_init_280 : decode cC_Mod_init 280 = .ok (.ldc2_w 85, 3) := by decide +kernel
theorem dC_Mod_init_283 : decode cC_Mod_init 283 = .ok (.lastore, 1) := by decide +kernel
theorem dC_Mod_init_284 : decode cC_Mod_init 284 = .ok (.dup, 1) := by decide +kernel
theorem dC_Mod_init_285 : decode cC_Mod_init 285 = .ok (.bipush (40), 2) := by decide +kernel
theorem dC_Mod_init_287 : decode cC_Mod_init 287 = .ok (.ldc2_w 87, 3) := by decide +kernel
theorem dC_Mod_init_290 : decode cC_Mod_init 290 = .ok (.lastore, 1) := by decide +kernel
theorem dC_Mod_init_291 : decode cC_Mod_init 291 = .ok (.dup, 1) := by decide +kernel
theorem dC_Mod_init_292 : decode cC_Mod_init 292 = .ok (.bipush (41), 2) := by decide +kernel
theorem dC_Mod_init_294 : decode cC_Mod_init 294 = .ok (.ldc2_w 89, 3) := by decide +kernel
theorem dC_Mod_init_297 : decode cC_Mod_init 297 = .ok (.lastore, 1) := by decide +kernel
theorem dC_Mod_init_298 : decode cC_Mod_init 298 = .ok (.dup, 1) := by decide +kernel
theorem dC_Mod_init_299 : decode cC_Mod_init 299 = .ok (.bipush (42), 2) := by decide +kernel
theorem dC_Mod_init_301 : decode cC_Mod_init 301 = .ok (.ldc2_w 91, 3) := by decide +kernel
theorem dC_Mod_init_304 : decode cC_Mod_init 304 = .ok (.lastore, 1) := by decide +kernel
theorem dC_Mod_init_305 : decode cC_Mod_init 305 = .ok (.dup, 1) := by decide +kernel
theorem dC_Mod_init_306 : decode cC_Mod_init 306 = .ok (.bipush (43), 2) := by decide +kernel
theorem dC_Mod_init_308 : decode cC_Mod_init 308 = .ok (.ldc2_w 93, 3) := by decide +kernel
theorem dC_Mod_init_311 : decode cC_Mod_init 311 = .ok (.lastore, 1) := by decide +kernel
theorem dC_Mod_init_312 : decode cC_Mod_init 312 = .ok (.dup, 1) := by decide +kernel
theorem dC_Mod_init_313 : decode cC_Mod_init 313 = .ok (.bipush (44), 2) := by decide +kernel
theorem dC_Mod_init_315 : decode cC_Mod_init 315 = .ok (.ldc2_w 95, 3) := by decide +kernel
theorem dC_Mod_init_318 : decode cC_Mod_init 318 = .ok (.lastore, 1) := by decide +kernel
theorem dC_Mod_init_319 : decode cC_Mod_init 319 = .ok (.dup, 1) := by decide +kernel
theorem dC_Mod_init_320 : decode cC_Mod_init 320 = .ok (.bipush (45), 2) := by decide +kernel
theorem dC_Mod_init_322 : decode cC_Mod_init 322 = .ok (.ldc2_w 97, 3) := by decide +kernel
theorem dC_Mod_init_325 : decode cC_Mod_init 325 = .ok (.lastore, 1) := by decide +kernel
theorem dC_Mod_init_326 : decode cC_Mod_init 326 = .ok (.dup, 1) := by decide +kernel
theorem dC_Mod_init_327 : decode cC_Mod_init 327 = .ok (.bipush (46), 2) := by decide +kernel
theorem dC_Mod_init_329 : decode cC_Mod_init 329 = .ok (.ldc2_w 99, 3) := by decide +kernel
theorem dC_Mod_init_332 : decode cC_Mod_init 332 = .ok (.lastore, 1) := by decide +kernel
theorem dC_Mod_init_333 : decode cC_Mod_init 333 = .ok (.dup, 1) := by decide +kernel
theorem dC_Mod_init_334 : decode cC_Mod_init 334 = .ok (.bipush (47), 2) := by decide +kernel
theorem dC_Mod_init_336 : decode cC_Mod_init 336 = .ok (.ldc2_w 101, 3) := by decide +kernel
theorem dC_Mod_init_339 : decode cC_Mod_init 339 = .ok (.lastore, 1) := by decide +kernel
theorem dC_Mod_init_340 : decode cC_Mod_init 340 = .ok (.dup, 1) := by decide +kernel
theorem dC_Mod_init_341 : decode cC_Mod_init 341 = .ok (.bipush (48), 2) := by decide +kernel
theorem dC_Mod_init_343 : decode cC_Mod_init 343 = .ok (.ldc2_w 103, 3) := by decide +kernel
theorem dC_Mod_init_346 : decode cC_Mod_init 346 = .ok (.lastore, 1) := by decide +kernel
theorem dC_Mod_init_347 : decode cC_Mod_init 347 = .ok (.dup, 1) := by decide +kernel
theorem dC_Mod_init_348 : decode cC_Mod_init 348 = .ok (.bipush (49), 2) := by decide +kernel
theorem dC_Mod_init_350 : decode cC_Mod_init 350 = .ok (.ldc2_w 105, 3) := by decide +kernel
theorem dC_Mod_init_353 : decode cC_Mod_init 353 = .ok (.lastore, 1) := by decide +kernel
theorem dC_Mod_init_354 : decode cC_Mod_init 354 = .ok (.dup, 1) := by decide +kernel
theorem dC_Mod_init_355 : decode cC_Mod_init 355 = .ok (.bipush (50), 2) := by decide +kernel
theorem dC_Mod_init_357 : decode cC_Mod_init 357 = .ok (.ldc2_w 107, 3) := by decide +kernel
theorem dC_Mod_init_360 : decode cC_Mod_init 360 = .ok (.lastore, 1) := by decide +kernel
theorem dC_Mod_init_361 : decode cC_Mod_init 361 = .ok (.dup, 1) := by decide +kernel
theorem dC_Mod_init_362 : decode cC_Mod_init 362 = .ok (.bipush (51), 2) := by decide +kernel
theorem dC_Mod_init_364 : decode cC_Mod_init 364 = .ok (.ldc2_w 109, 3) := by decide +kernel
theorem dC_Mod_init_367 : decode cC_Mod_init 367 = .ok (.lastore, 1) := by decide +kernel
theorem dC_Mod_init_368 : decode cC_Mod_init 368 = .ok (.dup, 1) := by decide +kernel
theorem dC_Mod_init_369 : decode cC_Mod_init 369 = .ok (.bipush (52), 2) := by decide +kernel
theorem dC_Mod_init_371 : decode cC_Mod_init 371 = .ok (.ldc2_w 111, 3) := by decide +kernel
theorem dC_Mod_init_374 : decode cC_Mod_init 374 = .ok (.lastore, 1) := by decide +kernel
theorem dC_Mod_init_375 : decode cC_Mod_init 375 = .ok (.dup, 1) := by decide +kernel
theorem dC_Mod_init_376 : decode cC_Mod_init 376 = .ok (.bipush (53), 2) := by decide +kernel
theorem dC_Mod_init_378 : decode cC_Mod_init 378 = .ok (.ldc2_w 113, 3) := by decide +kernel
theorem dC_Mod_init_381 : decode cC_Mod_init 381 = .ok (.lastore, 1) := by decide +kernel
theorem dC_Mod_init_382 : decode cC_Mod_init 382 = .ok (.dup, 1) := by decide +kernel
theorem dC_Mod_init_383 : decode cC_Mod_init 383 = .ok (.bipush (54), 2) := by decide +kernel
theorem dC_Mod_init_385 : decode cC_Mod_init 385 = .ok (.ldc2_w 115, 3) := by decide +kernel
theorem dC_Mod_init_388 : decode cC_Mod_init 388 = .ok (.lastore, 1) := by decide +kernel
theorem dC_Mod_init_389 : decode cC_Mod_init 389 = .ok (.dup, 1) := by decide +kernel
theorem dC_Mod_init_390 : decode cC_Mod_init 390 = .ok (.bipush (55), 2) := by decide +kernel
theorem dC_Mod_init_392 : decode cC_Mod_init 392 = .ok (.ldc2_w 117, 3) := by decide +kernel
theorem dC_Mod_init_395 : decode cC_Mod_init 395 = .ok (.lastore, 1) := by decide +kernel
theorem dC_Mod_init_396 : decode cC_Mod_init 396 = .ok (.dup, 1) := by decide +kernel
theorem dC_Mod_init_397 : decode cC_Mod_init 397 = .ok (.bipush (56), 2) := by decide +kernel
theorem dC_Mod_init_399 : decode cC_Mod_init 399 = .ok (.ldc2_w 119, 3) := by decide +kernel
theorem dC_Mod_init_402 : decode cC_Mod_init 402 = .ok (.lastore, 1) := by decide +kernel
theorem dC_Mod_init_403 : decode cC_Mod_init 403 = .ok (.dup, 1) := by decide +kernel
theorem dC_Mod_init_404 : decode cC_Mod_init 404 = .ok (.bipush (57), 2) := by decide +kernel
theorem dC_Mod_init_406 : decode cC_Mod_init 406 = .ok (.ldc2_w 121, 3) := by decide +kernel
theorem dC_Mod_init_409 : decode cC_Mod_init 409 = .ok (.lastore, 1) := by decide +kernel
theorem dC_Mod_init_410 : decode cC_Mod_init 410 = .ok (.dup, 1) := by decide +kernel
theorem dC_Mod_init_411 : decode cC_Mod_init 411 = .ok (.bipush (58), 2) := by decide +kernel
theorem dC_Mod_init_413 : decode cC_Mod_init 413 = .ok (.ldc2_w 123, 3) := by decide +kernel
theorem dC_Mod_init_416 : decode cC_Mod_init 416 = .ok (.lastore, 1) := by decide +kernel
theorem dC_Mod_init_417 : decode cC_Mod_init 417 = .ok (.dup, 1) := by decide +kernel
theorem dC_Mod_init_418 : decode cC_Mod_init 418 = .ok (.bipush (59), 2) := by decide +kernel
theorem dC_Mod_init_420 : decode cC_Mod_init 420 = .ok (.ldc2_w 125, 3) := by decide +kernel
theorem dC_Mod_init_423 : decode cC_Mod_init 423 = .ok (.lastore, 1) := by decide +kernel
theorem dC_Mod_init_424 : decode cC_Mod_init 424 = .ok (.dup, 1) := by decide +kernel
theorem dC_Mod_init_425 : decode cC_Mod_init 425 = .ok (.bipush (60), 2) := by decide +kernel
theorem dC_Mod_init_427 : decode cC_Mod_init 427 = .ok (.ldc2_w 127, 3) := by decide +kernel
theorem dC_Mod_init_430 : decode cC_Mod_init 430 = .ok (.lastore, 1) := by decide +kernel
theorem dC_Mod_init_431 : decode cC_Mod_init 431 = .ok (.dup, 1) := by decide +kernel
theorem dC_Mod_init_432 : decode cC_Mod_init 432 = .ok (.bipush (61), 2) := by decide +kernel
theorem dC_Mod_init_434 : decode cC_Mod_init 434 = .ok (.ldc2_w 129, 3) := by decide +kernel
theorem dC_Mod_init_437 : decode cC_Mod_init 437 = .ok (.lastore, 1) := by decide +kernel
theorem dC_Mod_init_438 : decode cC_Mod_init 438 = .ok (.dup, 1) := by decide +kernel
theorem dC_Mod_init_439 : decode cC_Mod_init 439 = .ok (.bipush (62), 2) := by decide +kernel
theorem dC_Mod_init_441 : decode cC_Mod_init 441 = .ok (.ldc2_w 131, 3) := by decide +kernel
theorem dC_Mod_init_444 : decode cC_Mod_init 444 = .ok (.lastore, 1) := by decide +kernel
theorem dC_Mod_init_445 : decode cC_Mod_init 445 = .ok (.dup, 1) := by decide +kernel
theorem dC_Mod_init_446 : decode cC_Mod_init 446 = .ok (.bipush (63), 2) := by decide +kernel
theorem dC_Mod_init_448 : decode cC_Mod_init 448 = .ok (.ldc2_w 133, 3) := by decide +kernel
theorem dC_Mod_init_451 : decode cC_Mod_init 451 = .ok (.lastore, 1) := by decide +kernel
theorem dC_Mod_init_452 : decode cC_Mod_init 452 = .ok (.dup, 1) := by decide +kernel
theorem dC_Mod_init_453 : decode cC_Mod_init 453 = .ok (.bipush (64), 2) := by decide +kernel
theorem dC_Mod_init_455 : decode cC_Mod_init 455 = .ok (.ldc2_w 135, 3) := by decide +kernel
theorem dC_Mod_init_458 : decode cC_Mod_init 458 = .ok (.lastore, 1) := by decide +kernel
theorem dC_Mod_init_459 : decode cC_Mod_init 459 = .ok (.dup, 1) := by decide +kernel
theorem dC_Mod_init_460 : decode cC_Mod_init 460 = .ok (.bipush (65), 2) := by decide +kernel
theorem dC_Mod_init_462 : decode cC_Mod_init 462 = .ok (.ldc2_w 137, 3) := by decide +kernel
theorem dC_Mod_init_465 : decode cC_Mod_init 465 = .ok (.lastore, 1) := by decide +kernel
theorem dC_Mod_init_466 : decode cC_Mod_init 466 = .ok (.dup, 1) := by decide +kernel
theorem dC_Mod_init_467 : decode cC_Mod_init 467 = .ok (.bipush (66), 2) := by decide +kernel
theorem dC_Mod_init_469 : decode cC_Mod_init 469 = .ok (.ldc2_w 139, 3) := by decide +kernel
theorem dC_Mod_init_472 : decode cC_Mod_init 472 = .ok (.lastore, 1) := by decide +kernel
theorem dC_Mod_init_473 : decode cC_Mod_init 473 = .ok (.dup, 1) := by decide +kernel
theorem dC_Mod_init_474 : decode cC_Mod_init 474 = .ok (.bipush (67), 2) := by decide +kernel
theorem dC_Mod_init_476 : decode cC_Mod_init 476 = .ok (.ldc2_w 141, 3) := by decide +kernel
theorem dC_Mod_init_479 : decode cC_Mod_init 479 = .ok (.lastore, 1) := by decide +kernel
theorem dC_Mod_init_480 : decode cC_Mod_init 480 = .ok (.dup, 1) := by decide +kernel
theorem dC_Mod_init_481 : decode cC_Mod_init 481 = .ok (.bipush (68), 2) := by decide +kernel
theorem dC_Mod_init_483 : decode cC_Mod_init 483 = .ok (.ldc2_w 143, 3) := by decide +kernel
theorem dC_Mod_init_486 : decode cC_Mod_init 486 = .ok (.lastore, 1) := by decide +kernel
theorem dC_Mod_init_487 : decode cC_Mod_init 487 = .ok (.dup, 1) := by decide +kernel
theorem dC_Mod_init_488 : decode cC_Mod_init 488 = .ok (.bipush (69), 2) := by decide +kernel
theorem dC_Mod_init_490 : decode cC_Mod_init 490 = .ok (.ldc2_w 145, 3) := by decide +kernel
theorem dC_Mod_init_493 : decode cC_Mod_init 493 = .ok (.lastore, 1) := by decide +kernel
theorem dC_Mod_init_494 : decode cC_Mod_init 494 = .ok (.dup, 1) := by decide +kernel
theorem dC_Mod_init_495 : decode cC_Mod_init 495 = .ok (.bipush (70), 2) := by decide +kernel
theorem dC_Mod_init_497 : decode cC_Mod_init 497 = .ok (.ldc2_w 147, 3) := by decide +kernel
theorem dC_Mod_init_500 : decode cC_Mod_init 500 = .ok (.lastore, 1) := by decide +kernel
theorem dC_Mod_init_501 : decode cC_Mod_init 501 = .ok (.dup, 1) := by decide +kernel
theorem dC_Mod_init_502 : decode cC_Mod_init 502 = .ok (.bipush (71), 2) := by decide +kernel
theorem dC_Mod_init_504 : decode cC_Mod_init 504 = .ok (.ldc2_w 149, 3) := by decide +kernel
theorem dC_Mod_init_507 : decode cC_Mod_init 507 = .ok (.lastore, 1) := by decide +kernel
theorem dC_Mod_init_508 : decode cC_Mod_init 508 = .ok (.dup, 1) := by decide +kernel
theorem dC_Mod_init_509 : decode cC_Mod_init 509 = .ok (.bipush (72), 2) := by decide +kernel
theorem dC_Mod_init_511 : decode cC_Mod_init 511 = .ok (.ldc2_w 151, 3) := by decide +kernel
theorem dC_Mod_init_514 : decode cC_Mod_init 514 = .ok (.lastore, 1) := by decide +kernel
theorem dC_Mod_init_515 : decode cC_Mod_init 515 = .ok (.dup, 1) := by decide +kernel
theorem dC_Mod_init_516 : decode cC_Mod_init 516 = .ok (.bipush (73), 2) := by decide +kernel
theorem dC_Mod_init_518 : decode cC_Mod_init 518 = .ok (.ldc2_w 153, 3) := by decide +kernel
theorem dC_Mod_init_521 : decode cC_Mod_init 521 = .ok (.lastore, 1) := by decide +kernel
theorem dC_Mod_init_522 : decode cC_Mod_init 522 = .ok (.dup, 1) := by decide +kernel
theorem dC_Mod_init_523 : decode cC_Mod_init 523 = .ok (.bipush (74), 2) := by decide +kernel
theorem dC_Mod_init_525 : decode cC_Mod_init 525 = .ok (.ldc2_w 155, 3) := by decide +kernel
theorem dC_Mod_init_528 : decode cC_Mod_init 528 = .ok (.lastore, 1) := by decide +kernel
theorem dC_Mod_init_529 : decode cC_Mod_init 529 = .ok (.dup, 1) := by decide +kernel
theorem dC_Mod_init_530 : decode cC_Mod_init 530 = .ok (.bipush (75), 2) := by decide +kernel
theorem dC_Mod_init_532 : decode cC_Mod_init 532 = .ok (.ldc2_w 157, 3) := by decide +kernel
theorem dC_Mod_init_535 : decode cC_Mod_init 535 = .ok (.lastore, 1) := by decide +kernel
theorem dC_Mod_init_536 : decode cC_Mod_init 536 = .ok (.dup, 1) := by decide +kernel
theorem dC_Mod_init_537 : decode cC_Mod_init 537 = .ok (.bipush (76), 2) := by decide +kernel
theorem dC_Mod_init_539 : decode cC_Mod_init 539 = .ok (.ldc2_w 159, 3) := by decide +kernel
theorem dC_Mod_init_542 : decode cC_Mod_init 542 = .ok (.lastore, 1) := by decide +kernel
theorem dC_Mod_init_543 : decode cC_Mod_init 543 = .ok (.dup, 1) := by decide +kernel
theorem dC_Mod_init_544 : decode cC_Mod_init 544 = .ok (.bipush (77), 2) := by decide +kernel
theorem dC_Mod_init_546 : decode cC_Mod_init 546 = .ok (.ldc2_w 161, 3) := by decide +kernel
theorem dC_Mod_init_549 : decode cC_Mod_init 549 = .ok (.lastore, 1) := by decide +kernel
theorem dC_Mod_init_550 : decode cC_Mod_init 550 = .ok (.dup, 1) := by decide +kernel
theorem dC_Mod_init_551 : decode cC_Mod_init 551 = .ok (.bipush (78), 2) := by decide +kernel
theorem dC_Mod_init_553 : decode cC_Mod_init 553 = .ok (.ldc2_w 163, 3) := by decide +kernel
theorem dC_Mod_init_556 : decode cC_Mod_init 556 = .ok (.lastore, 1) := by decide +kernel
theorem dC_Mod_init_557 : decode cC_Mod_init 557 = .ok (.dup, 1) := by decide +kernel
theorem dC_Mod_init_558 : decode cC_Mod_init 558 = .ok (.bipush (79), 2) := by decide +kernel
theorem dC_Mod_init_560 : decode cC_Mod_init 560 = .ok (.ldc2_w 165, 3) := by decide +kernel
theorem dC_Mod_init_563 : decode cC_Mod_init 563 = .ok (.lastore, 1) := by decide +kernel
theorem dC_Mod_init_564 : decode cC_Mod_init 564 = .ok (.dup, 1) := by decide +kernel
theorem dC_Mod_init_565 : decode cC_Mod_init 565 = .ok (.bipush (80), 2) := by decide +kernel
theorem dC_Mod_init_567 : decode cC_Mod_init 567 = .ok (.ldc2_w 167, 3) := by decide +kernel
theorem dC_Mod_init_570 : decode cC_Mod_init 570 = .ok (.lastore, 1) := by decide +kernel
theorem dC_Mod_init_571 : decode cC_Mod_init 571 = .ok (.dup, 1) := by decide +kernel
theorem dC_Mod_init_572 : decode cC_Mod_init 572 = .ok (.bipush (81), 2) := by decide +kernel
theorem dC_Mod_init_574 : decode cC_Mod_init 574 = .ok (.ldc2_w 169, 3) := by decide +kernel
theorem dC_Mod_init_577 : decode cC_Mod_init 577 = .ok (.lastore, 1) := by decide +kernel
theorem dC_Mod_init_578 : decode cC_Mod_init 578 = .ok (.dup, 1) := by decide +kernel
theorem dC_Mod_init_579 : decode cC_Mod_init 579 = .ok (.bipush (82), 2) := by decide +kernel
theorem dC_Mod_init_581 : decode cC_Mod_init 581 = .ok (.ldc2_w 171, 3) := by decide +kernel
theorem dC_Mod_init_584 : decode cC_Mod_init 584 = .ok (.lastore, 1) := by decide +kernel
theorem dC_Mod_init_585 : decode cC_Mod_init 585 = .ok (.dup, 1) := by decide +kernel
theorem dC_Mod_init_586 : decode cC_Mod_init 586 = .ok (.bipush (83), 2) := by decide +kernel
theorem dC_Mod_init_588 : decode cC_Mod_init 588 = .ok (.ldc2_w 173, 3) := by decide +kernel
theorem dC_Mod_init_591 : decode cC_Mod_init 591 = .ok (.lastore, 1) := by decide +kernel
theorem dC_Mod_init_592 : decode cC_Mod_init 592 = .ok (.dup, 1) := by decide +kernel
theorem dC_Mod_init_593 : decode cC_Mod_init 593 = .ok (.bipush (84), 2) := by decide +kernel
theorem dC_Mod_init_595 : decode cC_Mod_init 595 = .ok (.ldc2_w 175, 3) := by decide +kernel
theorem dC_Mod_init_598 : decode cC_Mod_init 598 = .ok (.lastore, 1) := by decide +kernel
theorem dC_Mod_init_599 : decode cC_Mod_init 599 = .ok (.dup, 1) := by decide +kernel
theorem dC_Mod_init_600 : decode cC_Mod_init 600 = .ok (.bipush (85), 2) := by decide +kernel
theorem dC_Mod_init_602 : decode cC_Mod_init 602 = .ok (.ldc2_w 177, 3) := by decide +kernel
theorem dC_Mod_init_605 : decode cC_Mod_init 605 = .ok (.lastore, 1) := by decide +kernel
theorem dC_Mod_init_606 : decode cC_Mod_init 606 = .ok (.dup, 1) := by decide +kernel
theorem dC_Mod_init_607 : decode cC_Mod_init 607 = .ok (.bipush (86), 2) := by decide +kernel
theorem dC_Mod_init_609 : decode cC_Mod_init 609 = .ok (.ldc2_w 179, 3) := by decide +kernel
theorem dC_Mod_init_612 : decode cC_Mod_init 612 = .ok (.lastore, 1) := by decide +kernel
theorem dC_Mod_init_613 : decode cC_Mod_init 613 = .ok (.dup, 1) := by decide +kernel
theorem dC_Mod_init_614 : decode cC_Mod_init 614 = .ok (.bipush (87), 2) := by decide +kernel
theorem dC_Mod_init_616 : decode cC_Mod_init 616 = .ok (.ldc2_w 181, 3) := by decide +kernel
theorem dC_Mod_init_619 : decode cC_Mod_init 619 = .ok (.lastore, 1) := by decide +kernel
theorem dC_Mod_init_620 : decode cC_Mod_init 620 = .ok (.dup, 1) := by decide +kernel
theorem dC_Mod_init_621 : decode cC_Mod_init 621 = .ok (.bipush (88), 2) := by decide +kernel
theorem dC_Mod_init_623 : decode cC_Mod_init 623 = .ok (.ldc2_w 183, 3) := by decide +kernel
theorem dC_Mod_init_626 : decode cC_Mod_init 626 = .ok (.lastore, 1) := by decide +kernel
theorem dC_Mod_init_627 : decode cC_Mod_init 627 = .ok (.dup, 1) := by decide +kernel
theorem dC_Mod_init_628 : decode cC_Mod_init 628 = .ok (.bipush (89), 2) := by decide +kernel
theorem dC_Mod_init_630 : decode cC_Mod_init 630 = .ok (.ldc2_w 185, 3) := by decide +kernel
theorem dC_Mod_init_633 : decode cC_Mod_init 633 = .ok (.lastore, 1) := by decide +kernel
theorem dC_Mod_init_634 : decode cC_Mod_init 634 = .ok (.dup, 1) := by decide +kernel
theorem dC_Mod_init_635 : decode cC_Mod_init 635 = .ok (.bipush (90), 2) := by decide +kernel
theorem dC_Mod_init_637 : decode cC_Mod_init 637 = .ok (.ldc2_w 187, 3) := by decide +kernel
theorem dC_Mod_init_640 : decode cC_Mod_init 640 = .ok (.lastore, 1) := by decide +kernel
theorem dC_Mod_init_641 : decode cC_Mod_init 641 = .ok (.dup, 1) := by decide +kernel
theorem dC_Mod_init_642 : decode cC_Mod_init 642 = .ok (.bipush (91), 2) := by decide +kernel
theorem dC_Mod_init_644 : decode cC_Mod_init 644 = .ok (.ldc2_w 189, 3) := by decide +kernel
theorem dC_Mod_init_647 : decode cC_Mod_init 647 = .ok (.lastore, 1) := by decide +kernel
theorem dC_Mod_init_648 : decode cC_Mod_init 648 = .ok (.dup, 1) := by decide +kernel
theorem dC_Mod_init_649 : decode cC_Mod_init 649 = .ok (.bipush (92), 2) := by decide +kernel
theorem dC_Mod_init_651 : decode cC_Mod_init 651 = .ok (.ldc2_w 191, 3) := by decide +kernel
theorem dC_Mod_init_654 : decode cC_Mod_init 654 = .ok (.lastore, 1) := by decide +kernel
theorem dC_Mod_init_655 : decode cC_Mod_init 655 = .ok (.dup, 1) := by decide +kernel
theorem dC_Mod_init_656 : decode cC_Mod_init 656 = .ok (.bipush (93), 2) := by decide +kernel
theorem dC_Mod_init_658 : decode cC_Mod_init 658 = .ok (.ldc2_w 193, 3) := by decide +kernel
theorem dC_Mod_init_661 : decode cC_Mod_init 661 = .ok (.lastore, 1) := by decide +kernel
theorem dC_Mod_init_662 : decode cC_Mod_init 662 = .ok (.dup, 1) := by decide +kernel
theorem dC_Mod_init_663 : decode cC_Mod_init 663 = .ok (.bipush (94), 2) := by decide +kernel
theorem dC_Mod_init_665 : decode cC_Mod_init 665 = .ok (.ldc2_w 195, 3) := by decide +kernel
theorem dC_Mod_init_668 : decode cC_Mod_init 668 = .ok (.lastore, 1) := by decide +kernel
theorem dC_Mod_init_669 : decode cC_Mod_init 669 = .ok (.dup, 1) := by decide +kernel
theorem dC_Mod_init_670 : decode cC_Mod_init 670 = .ok (.bipush (95), 2) := by decide +kernel
theorem dC_Mod_init_672 : decode cC_Mod_init 672 = .ok (.ldc2_w 197, 3) := by decide +kernel
theorem dC_Mod_init_675 : decode cC_Mod_init 675 = .ok (.lastore, 1) := by decide +kernel
theorem dC_Mod_init_676 : decode cC_Mod_init 676 = .ok (.dup, 1) := by decide +kernel
theorem dC_Mod_init_677 : decode cC_Mod_init 677 = .ok (.bipush (96), 2) := by decide +kernel
theorem dC_Mod_init_679 : decode cC_Mod_init 679 = .ok (.ldc2_w 199, 3) := by decide +kernel
theorem dC_Mod_init_682 : decode cC_Mod_init 682 = .ok (.lastore, 1) := by decide +kernel
theorem dC_Mod_init_683 : decode cC_Mod_init 683 = .ok (.dup, 1) := by decide +kernel
theorem dC_Mod_init_684 : decode cC_Mod_init 684 = .ok (.bipush (97), 2) := by decide +kernel
theorem dC_Mod_init_686 : decode cC_Mod_init 686 = .ok (.ldc2_w 201, 3) := by decide +kernel
theorem dC_Mod_init_689 : decode cC_Mod_init 689 = .ok (.lastore, 1) := by decide +kernel
theorem dC_Mod_init_690 : decode cC_Mod_init 690 = .ok (.dup, 1) := by decide +kernel
theorem dC_Mod_init_691 : decode cC_Mod_init 691 = .ok (.bipush (98), 2) := by decide +kernel
theorem dC_Mod_init_693 : decode cC_Mod_init 693 = .ok (.ldc2_w 203, 3) := by decide +kernel
theorem dC_Mod_init_696 : decode cC_Mod_init 696 = .ok (.lastore, 1) := by decide +kernel
theorem dC_Mod_init_697 : decode cC_Mod_init 697 = .ok (.dup, 1) := by decide +kernel
theorem dC_Mod_init_698 : decode cC_Mod_init 698 = .ok (.bipush (99), 2) := by decide +kernel
theorem dC_Mod_init_700 : decode cC_Mod_init 700 = .ok (.ldc2_w 205, 3) := by decide +kernel
theorem dC_Mod_init_703 : decode cC_Mod_init 703 = .ok (.lastore, 1) := by decide +kernel
theorem dC_Mod_init_704 : decode cC_Mod_init 704 = .ok (.dup, 1) := by decide +kernel
theorem dC_Mod_init_705 : decode cC_Mod_init 705 = .ok (.bipush (100), 2) := by decide +kernel
theorem dC_Mod_init_707 : decode cC_Mod_init 707 = .ok (.ldc2_w 207, 3) := by decide +kernel
theorem dC_Mod_init_710 : decode cC_Mod_init 710 = .ok (.lastore, 1) := by decide +kernel
theorem dC_Mod_init_711 : decode cC_Mod_init 711 = .ok (.dup, 1) := by decide +kernel
theorem dC_Mod_init_712 : decode cC_Mod_init 712 = .ok (.bipush (101), 2) := by decide +kernel
theorem dC_Mod_init_714 : decode cC_Mod_init 714 = .ok (.ldc2_w 209, 3) := by decide +kernel
theorem dC_Mod_init_717 : decode cC_Mod_init 717 = .ok (.lastore, 1) := by decide +kernel
theorem dC_Mod_init_718 : decode cC_Mod_init 718 = .ok (.dup, 1) := by decide +kernel
theorem dC_Mod_init_719 : decode cC_Mod_init 719 = .ok (.bipush (102), 2) := by decide +kernel
theorem dC_Mod_init_721 : decode cC_Mod_init 721 = .ok (.ldc2_w 211, 3) := by decide +kernel
theorem dC_Mod_init_724 : decode cC_Mod_init 724 = .ok (.lastore, 1) := by decide +kernel
theorem dC_Mod_init_725 : decode cC_Mod_init 725 = .ok (.dup, 1) := by decide +kernel
theorem dC_Mod_init_726 : decode cC_Mod_init 726 = .ok (.bipush (103), 2) := by decide +kernel
theorem dC_Mod_init_728 : decode cC_Mod_init 728 = .ok (.ldc2_w 213, 3) := by decide +kernel
theorem dC_Mod_init_731 : decode cC_Mod_init 731 = .ok (.lastore, 1) := by decide +kernel
theorem dC_Mod_init_732 : decode cC_Mod_init 732 = .ok (.dup, 1) := by decide +kernel
theorem dC_Mod_init_733 : decode cC_Mod_init 733 = .ok (.bipush (104), 2) := by decide +kernel
theorem dC_Mod_init_735 : decode cC_Mod_init 735 = .ok (.ldc2_w 215, 3) := by decide +kernel
theorem dC_Mod_init_738 : decode cC_Mod_init 738 = .ok (.lastore, 1) := by decide +kernel
theorem dC_Mod_init_739 : decode cC_Mod_init 739 = .ok (.dup, 1) := by decide +kernel
theorem dC_Mod_init_740 : decode cC_Mod_init 740 = .ok (.bipush (105), 2) := by decide +kernel
theorem dC_Mod_init_742 : decode cC_Mod_init 742 = .ok (.ldc2_w 217, 3) := by decide +kernel
theorem dC_Mod_init_745 : decode cC_Mod_init 745 = .ok (.lastore, 1) := by decide +kernel
theorem dC_Mod_init_746 : decode cC_Mod_init 746 = .ok (.dup, 1) := by decide +kernel
theorem dC_Mod_init_747 : decode cC_Mod_init 747 = .ok (.bipush (106), 2) := by decide +kernel
theorem dC_Mod_init_749 : decode cC_Mod_init 749 = .ok (.ldc2_w 219, 3) := by decide +kernel
theorem dC_Mod_init_752 : decode cC_Mod_init 752 = .ok (.lastore, 1) := by decide +kernel
theorem dC_Mod_init_753 : decode cC_Mod_init 753 = .ok (.dup, 1) := by decide +kernel
theorem dC_Mod_init_754 : decode cC_Mod_init 754 = .ok (.bipush (107), 2) := by decide +kernel
theorem dC_Mod_init_756 : decode cC_Mod_init 756 = .ok (.ldc2_w 221, 3) := by decide +kernel
theorem dC_Mod_init_759 : decode cC_Mod_init 759 = .ok (.lastore, 1) := by decide +kernel
theorem dC_Mod_init_760 : decode cC_Mod_init 760 = .ok (.dup, 1) := by decide +kernel
theorem dC_Mod_init_761 : decode cC_Mod_init 761 = .ok (.bipush (108), 2) := by decide +kernel
theorem dC_Mod_init_763 : decode cC_Mod_init 763 = .ok (.ldc2_w 223, 3) := by decide +kernel
theorem dC_Mod_init_766 : decode cC_Mod_init 766 = .ok (.lastore, 1) := by decide +kernel
theorem dC_Mod_init_767 : decode cC_Mod_init 767 = .ok (.dup, 1) := by decide +kernel
theorem dC_Mod_init_768 : decode cC_Mod_init 768 = .ok (.bipush (109), 2) := by decide +kernel
theorem dC_Mod_init_770 : decode cC_Mod_init 770 = .ok (.ldc2_w 225, 3) := by decide +kernel
theorem dC_Mod_init_773 : decode cC_Mod_init 773 = .ok (.lastore, 1) := by decide +kernel
theorem dC_Mod_init_774 : decode cC_Mod_init 774 = .ok (.dup, 1) := by decide +kernel
theorem dC_Mod_init_775 : decode cC_Mod_init 775 = .ok (.bipush (110), 2) := by decide +kernel
theorem dC_Mod_init_777 : decode cC_Mod_init 777 = .ok (.ldc2_w 227, 3) := by decide +kernel
theorem dC_Mod_init_780 : decode cC_Mod_init 780 = .ok (.lastore, 1) := by decide +kernel
theorem dC_Mod_init_781 : decode cC_Mod_init 781 = .ok (.dup, 1) := by decide +kernel
theorem dC_Mod_init_782 : decode cC_Mod_init 782 = .ok (.bipush (111), 2) := by decide +kernel
theorem dC_Mod_init_784 : decode cC_Mod_init 784 = .ok (.ldc2_w 229, 3) := by decide +kernel
theorem dC_Mod_init_787 : decode cC_Mod_init 787 = .ok (.lastore, 1) := by decide +kernel
theorem dC_Mod_init_788 : decode cC_Mod_init 788 = .ok (.dup, 1) := by decide +kernel
theorem dC_Mod_init_789 : decode cC_Mod_init 789 = .ok (.bipush (112), 2) := by decide +kernel
theorem dC_Mod_init_791 : decode cC_Mod_init 791 = .ok (.ldc2_w 231, 3) := by decide +kernel
theorem dC_Mod_init_794 : decode cC_Mod_init 794 = .ok (.lastore, 1) := by decide +kernel
theorem dC_Mod_init_795 : decode cC_Mod_init 795 = .ok (.dup, 1) := by decide +kernel
theorem dC_Mod_init_796 : decode cC_Mod_init 796 = .ok (.bipush (113), 2) := by decide +kernel
theorem dC_Mod_init_798 : decode cC_Mod_init 798 = .ok (.ldc2_w 233, 3) := by decide +kernel
theorem dC_Mod_init_801 : decode cC_Mod_init 801 = .ok (.lastore, 1) := by decide +kernel
theorem dC_Mod_init_802 : decode cC_Mod_init 802 = .ok (.dup, 1) := by decide +kernel
theorem dC_Mod_init_803 : decode cC_Mod_init 803 = .ok (.bipush (114), 2) := by decide +kernel
theorem dC_Mod_init_805 : decode cC_Mod_init 805 = .ok (.ldc2_w 235, 3) := by decide +kernel
theorem dC_Mod_init_808 : decode cC_Mod_init 808 = .ok (.lastore, 1) := by decide +kernel
theorem dC_Mod_init_809 : decode cC_Mod_init 809 = .ok (.dup, 1) := by decide +kernel
theorem dC_Mod_init_810 : decode cC_Mod_init 810 = .ok (.bipush (115), 2) := by decide +kernel
theorem dC_Mod_init_812 : decode cC_Mod_init 812 = .ok (.ldc2_w 237, 3) := by decide +kernel
theorem dC_Mod_init_815 : decode cC_Mod_init 815 = .ok (.lastore, 1) := by decide +kernel
theorem dC_Mod_init_816 : decode cC_Mod_init 816 = .ok (.dup, 1) := by decide +kernel
theorem dC_Mod_init_817 : decode cC_Mod_init 817 = .ok (.bipush (116), 2) := by decide +kernel
theorem dC_Mod_init_819 : decode cC_Mod_init 819 = .ok (.ldc2_w 239, 3) := by decide +kernel
theorem dC_Mod_init_822 : decode cC_Mod_init 822 = .ok (.lastore, 1) := by decide +kernel
theorem dC_Mod_init_823 : decode cC_Mod_init 823 = .ok (.dup, 1) := by decide +kernel
theorem dC_Mod_init_824 : decode cC_Mod_init 824 = .ok (.bipush (117), 2) := by decide +kernel
theorem dC_Mod_init_826 : decode cC_Mod_init 826 = .ok (.ldc2_w 241, 3) := by decide +kernel
theorem dC_Mod_init_829 : decode cC_Mod_init 829 = .ok (.lastore, 1) := by decide +kernel
theorem dC_Mod_init_830 : decode cC_Mod_init 830 = .ok (.dup, 1) := by decide +kernel
theorem dC_Mod_init_831 : decode cC_Mod_init 831 = .ok (.bipush (118), 2) := by decide +kernel
theorem dC_Mod_init_833 : decode cC_Mod_init 833 = .ok (.ldc2_w 243, 3) := by decide +kernel
theorem dC_Mod_init_836 : decode cC_Mod_init 836 = .ok (.lastore, 1) := by decide +kernel
theorem dC_Mod_init_837 : decode cC_Mod_init 837 = .ok (.dup, 1) := by decide +kernel
theorem dC_Mod_init_838 : decode cC_Mod_init 838 = .ok (.bipush (119), 2) := by decide +kernel
theorem dC_Mod_init_840 : decode cC_Mod_init 840 = .ok (.ldc2_w 245, 3) := by decide +kernel
theorem dC_Mod_init_843 : decode cC_Mod_init 843 = .ok (.lastore, 1) := by decide +kernel
theorem dC_Mod_init_844 : decode cC_Mod_init 844 = .ok (.dup, 1) := by decide +kernel
theorem dC_Mod_init_845 : decode cC_Mod_init 845 = .ok (.bipush (120), 2) := by decide +kernel
theorem dC_Mod_init_847 : decode cC_Mod_init 847 = .ok (.ldc2_w 247, 3) := by decide +kernel
theorem dC_Mod_init_850 : decode cC_Mod_init 850 = .ok (.lastore, 1) := by decide +kernel
theorem dC_Mod_init_851 : decode cC_Mod_init 851 = .ok (.dup, 1) := by decide +kernel
theorem dC_Mod_init_852 : decode cC_Mod_init 852 = .ok (.bipush (121), 2) := by decide +kernel
theorem dC_Mod_init_854 : decode cC_Mod_init 854 = .ok (.ldc2_w 249, 3) := by decide +kernel
theorem dC_Mod_init_857 : decode cC_Mod_init 857 = .ok (.lastore, 1) := by decide +kernel
theorem dC_Mod_init_858 : decode cC_Mod_init 858 = .ok (.dup, 1) := by decide +kernel
theorem dC_Mod_init_859 : decode cC_Mod_init 859 = .ok (.bipush (122), 2) := by decide +kernel
theorem dC_Mod_init_861 : decode cC_Mod_init 861 = .ok (.ldc2_w 251, 3) := by decide +kernel
theorem dC_Mod_init_864 : decode cC_Mod_init 864 = .ok (.lastore, 1) := by decide +kernel
theorem dC_Mod_init_865 : decode cC_Mod_init 865 = .ok (.dup, 1) := by decide +kernel
theorem dC_Mod_init_866 : decode cC_Mod_init 866 = .ok (.bipush (123), 2) := by decide +kernel
theorem dC_Mod_init_868 : decode cC_Mod_init 868 = .ok (.ldc2_w 253, 3) := by decide +kernel
theorem dC_Mod_init_871 : decode cC_Mod_init 871 = .ok (.lastore, 1) := by decide +kernel
theorem dC_Mod_init_872 : decode cC_Mod_init 872 = .ok (.dup, 1) := by decide +kernel
theorem dC_Mod_init_873 : decode cC_Mod_init 873 = .ok (.bipush (124), 2) := by decide +kernel
theorem dC_Mod_init_875 : decode cC_Mod_init 875 = .ok (.ldc2_w 255, 3) := by decide +kernel
theorem dC_Mod_init_878 : decode cC_Mod_init 878 = .ok (.lastore, 1) := by decide +kernel
theorem dC_Mod_init_879 : decode cC_Mod_init 879 = .ok (.dup, 1) := by decide +kernel
theorem dC_Mod_init_880 : decode cC_Mod_init 880 = .ok (.bipush (125), 2) := by decide +kernel
theorem dC_Mod_init_882 : decode cC_Mod_init 882 = .ok (.ldc2_w 257, 3) := by decide +kernel
theorem dC_Mod_init_885 : decode cC_Mod_init 885 = .ok (.lastore, 1) := by decide +kernel
theorem dC_Mod_init_886 : decode cC_Mod_init 886 = .ok (.dup, 1) := by decide +kernel
theorem dC_Mod_init_887 : decode cC_Mod_init 887 = .ok (.bipush (126), 2) := by decide +kernel
theorem dC_Mod_init_889 : decode cC_Mod_init 889 = .ok (.ldc2_w 259, 3) := by decide +kernel
theorem dC_Mod_init_892 : decode cC_Mod_init 892 = .ok (.lastore, 1) := by decide +kernel
theorem dC_Mod_init_893 : decode cC_Mod_init 893 = .ok (.dup, 1) := by decide +kernel
theorem dC_Mod_init_894 : decode cC_Mod_init 894 = .ok (.bipush (127), 2) := by decide +kernel
theorem dC_Mod_init_896 : decode cC_Mod_init 896 = .ok (.ldc2_w 261, 3) := by decide +kernel
theorem dC_Mod_init_899 : decode cC_Mod_init 899 = .ok (.lastore, 1) := by decide +kernel
theorem dC_Mod_init_900 : decode cC_Mod_init 900 = .ok (.putfield 263, 3) := by decide +kernel
theorem dC_Mod_init_903 : decode cC_Mod_init 903 = .ok (.aload_n 0, 1) := by decide +kernel
theorem dC_Mod_init_904 : decode cC_Mod_init 904 = .ok (.sipush (128), 3) := by decide +kernel
theorem dC_Mod_init_907 : decode cC_Mod_init 907 = .ok (.newarray .byte, 2) := by decide +kernel
theorem dC_Mod_init_909 : decode cC_Mod_init 909 = .ok (.dup, 1) := by decide +kernel
theorem dC_Mod_init_910 : decode cC_Mod_init 910 = .ok (.iconst (0), 1) := by decide +kernel
theorem dC_Mod_init_911 : decode cC_Mod_init 911 = .ok (.iconst (1), 1) := by decide +kernel
theorem dC_Mod_init_912 : decode cC_Mod_init 912 = .ok (.bastore, 1) := by decide +kernel
theorem dC_Mod_init_913 : decode cC_Mod_init 913 = .ok (.dup, 1) := by decide +kernel
theorem dC_Mod_init_914 : decode cC_Mod_init 914 = .ok (.iconst (1), 1) := by decide +kernel
theorem dC_Mod_init_915 : decode cC_Mod_init 915 = .ok (.iconst (1), 1) := by decide +kernel
theorem dC_Mod_init_916 : decode cC_Mod_init 916 = .ok (.bastore, 1) := by decide +kernel
theorem dC_Mod_init_917 : decode cC_Mod_init 917 = .ok (.dup, 1) := by decide +kernel
theorem dC_Mod_init_918 : decode cC_Mod_init 918 = .ok (.iconst (2), 1) := by decide +kernel
theorem dC_Mod_init_919 : decode cC_Mod_init 919 = .ok (.iconst (1), 1) := by decide +kernel
theorem dC_Mod_init_920 : decode cC_Mod_init 920 = .ok (.bastore, 1) := by decide +kernel
theorem dC_Mod_init_921 : decode cC_Mod_init 921 = .ok (.dup, 1) := by decide +kernel
theorem dC_Mod_init_922 : decode cC_Mod_init 922 = .ok (.iconst (3), 1) := by decide +kernel
theorem dC_Mod_init_923 : decode cC_Mod_init 923 = .ok (.iconst (1), 1) := by decide +kernel
theorem dC_Mod_init_924 : decode cC_Mod_init 924 = .ok (.bastore, 1) := by decide +kernel
theorem dC_Mod_init_925 : decode cC_Mod_init 925 = .ok (.dup, 1) := by decide +kernel
theorem dC_Mod_init_926 : decode cC_Mod_init 926 = .ok (.iconst (4), 1) := by decide +kernel
theorem dC_Mod_init_927 : decode cC_Mod_init 927 = .ok (.iconst (1), 1) := by decide +kernel
theorem dC_Mod_init_928 : decode cC_Mod_init 928 = .ok (.bastore, 1) := by decide +kernel
theorem dC_Mod_init_929 : decode cC_Mod_init 929 = .ok (.dup, 1) := by decide +kernel
theorem dC_Mod_init_930 : decode cC_Mod_init 930 = .ok (.iconst (5), 1) := by decide +kernel
theorem dC_Mod_init_931 : decode cC_Mod_init 931 = .ok (.iconst (1), 1) := by decide +kernel
theorem dC_Mod_init_932 : decode cC_Mod_init 932 = .ok (.bastore, 1) := by decide +kernel
theorem dC_Mod_init_933 : decode cC_Mod_init 933 = .ok (.dup, 1) := by decide +kernel
theorem dC_Mod_init_934 : decode cC_Mod_init 934 = .ok (.bipush (6), 2) := by decide +kernel
theorem dC_Mod_init_936 : decode cC_Mod_init 936 = .ok (.iconst (1), 1) := by decide +kernel
theorem dC_Mod_init_937 : decode cC_Mod_init 937 = .ok (.bastore, 1) := by decide +kernel
theorem dC_Mod_init_938 : decode cC_Mod_init 938 = .ok (.dup, 1) := by decide +kernel
theorem dC_Mod_init_939 : decode cC_Mod_init 939 = .ok (.bipush (7), 2) := by decide +kernel
theorem dC_Mod_init_941 : decode cC_Mod_init 941 = .ok (.iconst (1), 1) := by decide +kernel
theorem dC_Mod_init_942 : decode cC_Mod_init 942 = .ok (.bastore, 1) := by decide +kernel
theorem dC_Mod_init_943 : decode cC_Mod_init 943 = .ok (.dup, 1) := by decide +kernel
theorem dC_Mod_init_944 : decode cC_Mod_init 944 = .ok (.bipush (8), 2) := by decide +kernel
theorem dC_Mod_init_946 : decode cC_Mod_init 946 = .ok (.iconst (1), 1) := by decide +kernel
theorem dC_Mod_init_947 : decode cC_Mod_init 947 = .ok (.bastore, 1) := by decide +kernel
theorem dC_Mod_init_948 : decode cC_Mod_init 948 = .ok (.dup, 1) := by decide +kernel
theorem dC_Mod_init_949 : decode cC_Mod_init 949 = .ok (.bipush (9), 2) := by decide +kernel
theorem dC_Mod_init_951 : decode cC_Mod_init 951 = .ok (.iconst (1), 1) := by decide +kernel
theorem dC_Mod_init_952 : decode cC_Mod_init 952 = .ok (.bastore, 1) := by decide +kernel
theorem dC_Mod_init_953 : decode cC_Mod_init 953 = .ok (.dup, 1) := by decide +kernel
theorem dC_Mod_init_954 : decode cC_Mod_init 954 = .ok (.bipush (10), 2) := by decide +kernel
theorem dC_Mod_init_956 : decode cC_Mod_init 956 = .ok (.iconst (1), 1) := by decide +kernel
theorem dC_Mod_init_957 : decode cC_Mod_init 957 = .ok (.bastore, 1) := by decide +kernel
theorem dC_Mod_init_958 : decode cC_Mod_init 958 = .ok (.dup, 1) := by decide +kernel
theorem dC_Mod_init_959 : decode cC_Mod_init 959 = .ok (.bipush (11), 2) := by decide +kernel
theorem dC_Mod_init_961 : decode cC_Mod_init 961 = .ok (.iconst (1), 1) := by decide +kernel
theorem dC_Mod_init_962 : decode cC_Mod_init 962 = .ok (.bastore, 1) := by decide +kernel
theorem dC_Mod_init_963 : decode cC_Mod_init 963 = .ok (.dup, 1) := by decide +kernel
theorem dC_Mod_init_964 : decode cC_Mod_init 964 = .ok (.bipush (12), 2) := by decide +kernel
theorem dC_Mod_init_966 : decode cC_Mod_init 966 = .ok (.iconst (1), 1) := by decide +kernel
theorem dC_Mod_init_967 : decode cC_Mod_init 967 = .ok (.bastore, 1) := by decide +kernel
theorem dC_Mod_init_968 : decode cC_Mod_init 968 = .ok (.dup, 1) := by decide +kernel
theorem dC_Mod_init_969 : decode cC_Mod_init 969 = .ok (.bipush (13), 2) := by decide +kernel
theorem dC_Mod_init_971 : decode cC_Mod_init 971 = .ok (.iconst (1), 1) := by decide +kernel
theorem dC_Mod_init_972 : decode cC_Mod_init 972 = .ok (.bastore, 1) := by decide +kernel
theorem dC_Mod_init_973 : decode cC_Mod_init 973 = .ok (.dup, 1) := by decide +kernel
theorem dC_Mod_init_974 : decode cC_Mod_init 974 = .ok (.bipush (14), 2) := by decide +kernel
theorem dC_Mod_init_976 : decode cC_Mod_init 976 = .ok (.iconst (1), 1) := by decide +kernel
theorem dC_Mod_init_977 : decode cC_Mod_init 977 = .ok (.bastore, 1) := by decide +kernel
theorem dC_Mod_init_978 : decode cC_Mod_init 978 = .ok (.dup, 1) := by decide +kernel
theorem dC_Mod_init_979 : decode cC_Mod_init 979 = .ok (.bipush (15), 2) := by decide +kernel
theorem dC_Mod_init_981 : decode cC_Mod_init 981 = .ok (.iconst (1), 1) := by decide +kernel
theorem dC_Mod_init_982 : decode cC_Mod_init 982 = .ok (.bastore, 1) := by decide +kernel
theorem dC_Mod_init_983 : decode cC_Mod_init 983 = .ok (.dup, 1) := by decide +kernel
theorem dC_Mod_init_984 : decode cC_Mod_init 984 = .ok (.bipush (16), 2) := by decide +kernel
theorem dC_Mod_init_986 : decode cC_Mod_init 986 = .ok (.iconst (1), 1) := by decide +kernel
theorem dC_Mod_init_987 : decode cC_Mod_init 987 = .ok (.bastore, 1) := by decide +kernel
theorem dC_Mod_init_988 : decode cC_Mod_init 988 = .ok (.dup, 1) := by decide +kernel
theorem dC_Mod_init_989 : decode cC_Mod_init 989 = .ok (.bipush (17), 2) := by decide +kernel
theorem dC_Mod_init_991 : decode cC_Mod_init 991 = .ok (.iconst (1), 1) := by decide +kernel
theorem dC_Mod_init_992 : decode cC_Mod_init 992 = .ok (.bastore, 1) := by decide +kernel
theorem dC_Mod_init_993 : decode cC_Mod_init 993 = .ok (.dup, 1) := by decide +kernel
theorem dC_Mod_init_994 : decode cC_Mod_init 994 = .ok (.bipush (18), 2) := by decide +kernel
theorem dC_Mod_init_996 : decode cC_Mod_init 996 = .ok (.iconst (2), 1) := by decide +kernel
theorem dC_Mod_init_997 : decode cC_Mod_init 997 = .ok (.bastore, 1) := by decide +kernel
theorem dC_Mod_init_998 : decode cC_Mod_init 998 = .ok (.dup, 1) := by decide +kernel
theorem dC_Mod_init_999 : decode cC_Mod_init 999 = .ok (.bipush (19), 2) := by decide +kernel
theorem dC_Mod_init_1001 : decode cC_Mod_init 1001 = .ok (.iconst (2), 1) := by decide +kernel
theorem dC_Mod_init_1002 : decode cC_Mod_init 1002 = .ok (.bastore, 1) := by decide +kernel
theorem dC_Mod_init_1003 : decode cC_Mod_init 1003 = .ok (.dup, 1) := by decide +kernel
theorem dC_Mod_init_1004 : decode cC_Mod_init 1004 = .ok (.bipush (20), 2) := by decide +kernel
theorem dC_Mod_init_1006 : decode cC_Mod_init 1006 = .ok (.iconst (2), 1) := by decide +kernel
theorem dC_Mod_init_1007 : decode cC_Mod_init 1007 = .ok (.bastore, 1) := by decide +kernel
theorem dC_Mod_init_1008 : decode cC_Mod_init 1008 = .ok (.dup, 1) := by decide +kernel
theorem dC_Mod_init_1009 : decode cC_Mod_init 1009 = .ok (.bipush (21), 2) := by decide +kernel
theorem dC_Mod_init_1011 : decode cC_Mod_init 1011 = .ok (.iconst (2), 1) := by decide +kernel
theorem dC_Mod_init_1012 : decode cC_Mod_init 1012 = .ok (.bastore, 1) := by decide +kernel
theorem dC_Mod_init_1013 : decode cC_Mod_init 1013 = .ok (.dup, 1) := by decide +kernel
theorem dC_Mod_init_1014 : decode cC_Mod_init 1014 = .ok (.bipush (22), 2) := by decide +kernel
theorem dC_Mod_init_1016 : decode cC_Mod_init 1016 = .ok (.iconst (2), 1) := by decide +kernel
theorem dC_Mod_init_1017 : decode cC_Mod_init 1017 = .ok (.bastore, 1) := by decide +kernel
theorem dC_Mod_init_1018 : decode cC_Mod_init 1018 = .ok (.dup, 1) := by decide +kernel
theorem dC_Mod_init_1019 : decode cC_Mod_init 1019 = .ok (.bipush (23), 2) := by decide +kernel
theorem dC_Mod_init_1021 : decode cC_Mod_init 1021 = .ok (.iconst (2), 1) := by decide +kernel
theorem dC_Mod_init_1022 : decode cC_Mod_init 1022 = .ok (.bastore, 1) := by decide +kernel
theorem dC_Mod_init_1023 : decode cC_Mod_init 1023 = .ok (.dup, 1) := by decide +kernel
theorem dC_Mod_init_1024 : decode cC_Mod_init 1024 = .ok (.bipush (24), 2) := by decide +kernel
theorem dC_Mod_init_1026 : decode cC_Mod_init 1026 = .ok (.iconst (3), 1) := by decide +kernel
theorem dC_Mod_init_1027 : decode cC_Mod_init 1027 = .ok (.bastore, 1) := by decide +kernel
theorem dC_Mod_init_1028 : decode cC_Mod_init 1028 = .ok (.dup, 1) := by decide +kernel
theorem dC_Mod_init_1029 : decode cC_Mod_init 1029 = .ok (.bipush (25), 2) := by decide +kernel
theorem dC_Mod_init_1031 : decode cC_Mod_init 1031 = .ok (.iconst (3), 1) := by decide +kernel
theorem dC_Mod_init_1032 : decode cC_Mod_init 1032 = .ok (.bastore, 1) := by decide +kernel
theorem dC_Mod_init_1033 : decode cC_Mod_init 1033 = .ok (.dup, 1) := by decide +kernel
theorem dC_Mod_init_1034 : decode cC_Mod_init 1034 = .ok (.bipush (26), 2) := by decide +kernel
theorem dC_Mod_init_1036 : decode cC_Mod_init 1036 = .ok (.iconst (3), 1) := by decide +kernel
theorem dC_Mod_init_1037 : decode cC_Mod_init 1037 = .ok (.bastore, 1) := by decide +kernel
theorem dC_Mod_init_1038 : decode cC_Mod_init 1038 = .ok (.dup, 1) := by decide +kernel
theorem dC_Mod_init_1039 : decode cC_Mod_init 1039 = .ok (.bipush (27), 2) := by decide +kernel
theorem dC_Mod_init_1041 : decode cC_Mod_init 1041 = .ok (.iconst (4), 1) := by decide +kernel
theorem dC_Mod_init_1042 : decode cC_Mod_init 1042 = .ok (.bastore, 1) := by decide +kernel
theorem dC_Mod_init_1043 : decode cC_Mod_init 1043 = .ok (.dup, 1) := by decide +kernel
theorem dC_Mod_init_1044 : decode cC_Mod_init 1044 = .ok (.bipush (28), 2) := by decide +kernel
theorem dC_Mod_init_1046 : decode cC_Mod_init 1046 = .ok (.iconst (4), 1) := by decide +kernel
theorem dC_Mod_init_1047 : decode cC_Mod_init 1047 = .ok (.bastore, 1) := by decide +kernel
theorem dC_Mod_init_1048 : decode cC_Mod_init 1048 = .ok (.dup, 1) := by decide +kernel
theorem dC_Mod_init_1049 : decode cC_Mod_init 1049 = .ok (.bipush (29), 2) := by decide +kernel
theorem dC_Mod_init_1051 : decode cC_Mod_init 1051 = .ok (.iconst (4), 1) := by decide +kernel
theorem dC_Mod_init_1052 : decode cC_Mod_init 1052 = .ok (.bastore, 1) := by decide +kernel
theorem dC_Mod_init_1053 : decode cC_Mod_init 1053 = .ok (.dup, 1) := by decide +kernel
theorem dC_Mod_init_1054 : decode cC_Mod_init 1054 = .ok (.bipush (30), 2) := by decide +kernel
theorem dC_Mod_init_1056 : decode cC_Mod_init 1056 = .ok (.iconst (4), 1) := by decide +kernel
theorem dC_Mod_init_1057 : decode cC_Mod_init 1057 = .ok (.bastore, 1) := by decide +kernel
theorem dC_Mod_init_1058 : decode cC_Mod_init 1058 = .ok (.dup, 1) := by decide +kernel
theorem dC_Mod_init_1059 : decode cC_Mod_init 1059 = .ok (.bipush (31), 2) := by decide +kernel
theorem dC_Mod_init_1061 : decode cC_Mod_init 1061 = .ok (.iconst (4), 1) := by decide +kernel
theorem dC_Mod_init_1062 : decode cC_Mod_init 1062 = .ok (.bastore, 1) := by decide +kernel
theorem dC_Mod_init_1063 : decode cC_Mod_init 1063 = .ok (.dup, 1) := by decide +kernel
theorem dC_Mod_init_1064 : decode cC_Mod_init 1064 = .ok (.bipush (32), 2) := by decide +kernel
theorem dC_Mod_init_1066 : decode cC_Mod_init 1066 = .ok (.bipush (30), 2) := by decide +kernel
theorem dC_Mod_init_1068 : decode cC_Mod_init 1068 = .ok (.bastore, 1) := by decide +kernel
theorem dC_Mod_init_1069 : decode cC_Mod_init 1069 = .ok (.dup, 1) := by decide +kernel
theorem dC_Mod_init_1070 : decode cC_Mod_init 1070 = .ok (.bipush (33), 2) := by decide +kernel
theorem dC_Mod_init_1072 : decode cC_Mod_init 1072 = .ok (.iconst (5), 1) := by decide +kernel
theorem dC_Mod_init_1073 : decode cC_Mod_init 1073 = .ok (.bastore, 1) := by decide +kernel
theorem dC_Mod_init_1074 : decode cC_Mod_init 1074 = .ok (.dup, 1) := by decide +kernel
theorem dC_Mod_init_1075 : decode cC_Mod_init 1075 = .ok (.bipush (34), 2) := by decide +kernel
theorem dC_Mod_init_1077 : decode cC_Mod_init 1077 = .ok (.iconst (5), 1) := by decide +kernel
theorem dC_Mod_init_1078 : decode cC_Mod_init 1078 = .ok (.bastore, 1) := by decide +kernel
theorem dC_Mod_init_1079 : decode cC_Mod_init 1079 = .ok (.dup, 1) := by decide +kernel
theorem dC_Mod_init_1080 : decode cC_Mod_init 1080 = .ok (.bipush (35), 2) := by decide +kernel
theorem dC_Mod_init_1082 : decode cC_Mod_init 1082 = .ok (.iconst (5), 1) := by decide +kernel
theorem dC_Mod_init_1083 : decode cC_Mod_init 1083 = .ok (.bastore, 1) := by decide +kernel
theorem dC_Mod_init_1084 : decode cC_Mod_init 1084 = .ok (.dup, 1) := by decide +kernel
theorem dC_Mod_init_1085 : decode cC_Mod_init 1085 = .ok (.bipush (36), 2) := by decide +kernel
theorem dC_Mod_init_1087 : decode cC_Mod_init 1087 = .ok (.bipush (6), 2) := by decide +kernel
theorem dC_Mod_init_1089 : decode cC_Mod_init 1089 = .ok (.bastore, 1) := by decide +kernel
theorem dC_Mod_init_1090 : decode cC_Mod_init 1090 = .ok (.dup, 1) := by decide +kernel
theorem dC_Mod_init_1091 : decode cC_Mod_init 1091 = .ok (.bipush (37), 2) := by decide +kernel
theorem dC_Mod_init_1093 : decode cC_Mod_init 1093 = .ok (.bipush (6), 2) := by decide +kernel
theorem dC_Mod_init_1095 : decode cC_Mod_init 1095 = .ok (.bastore, 1) := by decide +kernel
theorem dC_Mod_init_1096 : decode cC_Mod_init 1096 = .ok (.dup, 1) := by decide +kernel
theorem dC_Mod_init_1097 : decode cC_Mod_init 1097 = .ok (.bipush (38), 2) := by decide +kernel
theorem dC_Mod_init_1099 : decode cC_Mod_init 1099 = .ok (.bipush (7), 2) := by decide +kernel
theorem dC_Mod_init_1101 : decode cC_Mod_init 1101 = .ok (.bastore, 1) := by decide +kernel
theorem dC_Mod_init_1102 : decode cC_Mod_init 1102 = .ok (.dup, 1) := by decide +kernel
theorem dC_Mod_init_1103 : decode cC_Mod_init 1103 = .ok (.bipush (39), 2) := by decide +kernel
theorem dC_Mod_init_1105 : decode cC_Mod_init 1105 = .ok (.bipush (7), 2) := by decide +kernel
theorem dC_Mod_init_1107 : decode cC_Mod_init 1107 = .ok (.bastore, 1) := by decide +kernel
theorem dC_Mod_init_1108 : decode cC_Mod_init 1108 = .ok (.dup, 1) := by decide +kernel
theorem dC_Mod_init_1109 : decode cC_Mod_init 1109 = .ok (.bipush (40), 2) := by decide +kernel
theorem dC_Mod_init_1111 : decode cC_Mod_init 1111 = .ok (.bipush (7), 2) := by decide +kernel
theorem dC_Mod_init_1113 : decode cC_Mod_init 1113 = .ok (.bastore, 1) := by decide +kernel
theorem dC_Mod_init_1114 : decode cC_Mod_init 1114 = .ok (.dup, 1) := by decide +kernel
theorem dC_Mod_init_1115 : decode cC_Mod_init 1115 = .ok (.bipush (41), 2) := by decide +kernel
theorem dC_Mod_init_1117 : decode cC_Mod_init 1117 = .ok (.bipush (7), 2) := by decide +kernel
theorem dC_Mod_init_1119 : decode cC_Mod_init 1119 = .ok (.bastore, 1) := by decide +kernel
theorem dC_Mod_init_1120 : decode cC_Mod_init 1120 = .ok (.dup, 1) := by decide +kernel
theorem dC_Mod_init_1121 : decode cC_Mod_init 1121 = .ok (.bipush (42), 2) := by decide +kernel
theorem dC_Mod_init_1123 : decode cC_Mod_init 1123 = .ok (.bipush (7), 2) := by decide +kernel
theorem dC_Mod_init_1125 : decode cC_Mod_init 1125 = .ok (.bastore, 1) := by decide +kernel
theorem dC_Mod_init_1126 : decode cC_Mod_init 1126 = .ok (.dup, 1) := by decide +kernel
theorem dC_Mod_init_1127 : decode cC_Mod_init 1127 = .ok (.bipush (43), 2) := by decide +kernel
theorem dC_Mod_init_1129 : decode cC_Mod_init 1129 = .ok (.bipush (7), 2) := by decide +kernel
theorem dC_Mod_init_1131 : decode cC_Mod_init 1131 = .ok (.bastore, 1) := by decide +kernel
theorem dC_Mod_init_1132 : decode cC_Mod_init 1132 = .ok (.dup, 1) := by decide +kernel
theorem dC_Mod_init_1133 : decode cC_Mod_init 1133 = .ok (.bipush (44), 2) := by decide +kernel
theorem dC_Mod_init_1135 : decode cC_Mod_init 1135 = .ok (.bipush (8), 2) := by decide +kernel
theorem dC_Mod_init_1137 : decode cC_Mod_init 1137 = .ok (.bastore, 1) := by decide +kernel
theorem dC_Mod_init_1138 : decode cC_Mod_init 1138 = .ok (.dup, 1) := by decide +kernel
theorem dC_Mod_init_1139 : decode cC_Mod_init 1139 = .ok (.bipush (45), 2) := by decide +kernel
theorem dC_Mod_init_1141 : decode cC_Mod_init 1141 = .ok (.bipush (9), 2) := by decide +kernel
theorem dC_Mod_init_1143 : decode cC_Mod_init 1143 = .ok (.bastore, 1) := by decide +kernel
theorem dC_Mod_init_1144 : decode cC_Mod_init 1144 = .ok (.dup, 1) := by decide +kernel
theorem dC_Mod_init_1145 : decode cC_Mod_init 1145 = .ok (.bipush (46), 2) := by decide +kernel
theorem dC_Mod_init_1147 : decode cC_Mod_init 1147 = .ok (.bipush (9), 2) := by decide +kernel
theorem dC_Mod_init_1149 : decode cC_Mod_init 1149 = .ok (.bastore, 1) := by decide +kernel
theorem dC_Mod_init_1150 : decode cC_Mod_init 1150 = .ok (.dup, 1) := by decide +kernel
theorem dC_Mod_init_1151 : decode cC_Mod_init 1151 = .ok (.bipush (47), 2) := by decide +kernel
theorem dC_Mod_init_1153 : decode cC_Mod_init 1153 = .ok (.bipush (9), 2) := by decide +kernel
theorem dC_Mod_init_1155 : decode cC_Mod_init 1155 = .ok (.bastore, 1) := by decide +kernel
theorem dC_Mod_init_1156 : decode cC_Mod_init 1156 = .ok (.dup, 1) := by decide +kernel
theorem dC_Mod_init_1157 : decode cC_Mod_init 1157 = .ok (.bipush (48), 2) := by decide +kernel
theorem dC_Mod_init_1159 : decode cC_Mod_init 1159 = .ok (.bipush (9), 2) := by decide +kernel
theorem dC_Mod_init_1161 : decode cC_Mod_init 1161 = .ok (.bastore, 1) := by decide +kernel
theorem dC_Mod_init_1162 : decode cC_Mod_init 1162 = .ok (.dup, 1) := by decide +kernel
theorem dC_Mod_init_1163 : decode cC_Mod_init 1163 = .ok (.bipush (49), 2) := by decide +kernel
theorem dC_Mod_init_1165 : decode cC_Mod_init 1165 = .ok (.bipush (9), 2) := by decide +kernel
theorem dC_Mod_init_1167 : decode cC_Mod_init 1167 = .ok (.bastore, 1) := by decide +kernel
theorem dC_Mod_init_1168 : decode cC_Mod_init 1168 = .ok (.dup, 1) := by decide +kernel
theorem dC_Mod_init_1169 : decode cC_Mod_init 1169 = .ok (.bipush (50), 2) := by decide +kernel
theorem dC_Mod_init_1171 : decode cC_Mod_init 1171 = .ok (.bipush (9), 2) := by decide +kernel
theorem dC_Mod_init_1173 : decode cC_Mod_init 1173 = .ok (.bastore, 1) := by decide +kernel
theorem dC_Mod_init_1174 : decode cC_Mod_init 1174 = .ok (.dup, 1) := by decide +kernel
theorem dC_Mod_init_1175 : decode cC_Mod_init 1175 = .ok (.bipush (51), 2) := by decide +kernel
theorem dC_Mod_init_1177 : decode cC_Mod_init 1177 = .ok (.bipush (9), 2) := by decide +kernel
theorem dC_Mod_init_1179 : decode cC_Mod_init 1179 = .ok (.bastore, 1) := by decide +kernel
theorem dC_Mod_init_1180 : decode cC_Mod_init 1180 = .ok (.dup, 1) := by decide +kernel
theorem dC_Mod_init_1181 : decode cC_Mod_init 1181 = .ok (.bipush (52), 2) := by decide +kernel
theorem dC_Mod_init_1183 : decode cC_Mod_init 1183 = .ok (.bipush (9), 2) := by decide +kernel
theorem dC_Mod_init_1185 : decode cC_Mod_init 1185 = .ok (.bastore, 1) := by decide +kernel
theorem dC_Mod_init_1186 : decode cC_Mod_init 1186 = .ok (.dup, 1) := by decide +kernel
theorem dC_Mod_init_1187 : decode cC_Mod_init 1187 = .ok (.bipush (53), 2) := by decide +kernel
theorem dC_Mod_init_1189 : decode cC_Mod_init 1189 = .ok (.bipush (9), 2) := by decide +kernel
theorem dC_Mod_init_1191 : decode cC_Mod_init 1191 = .ok (.bastore, 1) := by decide +kernel
theorem dC_Mod_init_1192 : decode cC_Mod_init 1192 = .ok (.dup, 1) := by decide +kernel
theorem dC_Mod_init_1193 : decode cC_Mod_init 1193 = .ok (.bipush (54), 2) := by decide +kernel
theorem dC_Mod_init_1195 : decode cC_Mod_init 1195 = .ok (.bipush (9), 2) := by decide +kernel
theorem dC_Mod_init_1197 : decode cC_Mod_init 1197 = .ok (.bastore, 1) := by decide +kernel
theorem dC_Mod_init_1198 : decode cC_Mod_init 1198 = .ok (.dup, 1) := by decide +kernel
theorem dC_Mod_init_1199 : decode cC_Mod_init 1199 = .ok (.bipush (55), 2) := by decide +kernel
theorem dC_Mod_init_1201 : decode cC_Mod_init 1201 = .ok (.bipush (10), 2) := by decide +kernel
theorem dC_Mod_init_1203 : decode cC_Mod_init 1203 = .ok (.bastore, 1) := by decide +kernel
theorem dC_Mod_init_1204 : decode cC_Mod_init 1204 = .ok (.dup, 1) := by decide +kernel
theorem dC_Mod_init_1205 : decode cC_Mod_init 1205 = .ok (.bipush (56), 2) := by decide +kernel
theorem dC_Mod_init_1207 : decode cC_Mod_init 1207 = .ok (.bipush (11), 2) := by decide +kernel
theorem dC_Mod_init_1209 : decode cC_Mod_init 1209 = .ok (.bastore, 1) := by decide +kernel
theorem dC_Mod_init_1210 : decode cC_Mod_init 1210 = .ok (.dup, 1) := by decide +kernel
theorem dC_Mod_init_1211 : decode cC_Mod_init 1211 = .ok (.bipush (57), 2) := by decide +kernel
theorem dC_Mod_init_1213 : decode cC_Mod_init 1213 = .ok (.bipush (11), 2) := by decide +kernel
theorem dC_Mod_init_1215 : decode cC_Mod_init 1215 = .ok (.bastore, 1) := by decide +kernel
theorem dC_Mod_init_1216 : decode cC_Mod_init 1216 = .ok (.dup, 1) := by decide +kernel
theorem dC_Mod_init_1217 : decode cC_Mod_init 1217 = .ok (.bipush (58), 2) := by decide +kernel
theorem dC_Mod_init_1219 : decode cC_Mod_init 1219 = .ok (.bipush (11), 2) := by decide +kernel
theorem dC_Mod_init_1221 : decode cC_Mod_init 1221 = .ok (.bastore, 1) := by decide +kernel
theorem dC_Mod_init_1222 : decode cC_Mod_init 1222 = .ok (.dup, 1) := by decide +kernel
theorem dC_Mod_init_1223 : decode cC_Mod_init 1223 = .ok (.bipush (59), 2) := by decide +kernel
theorem dC_Mod_init_1225 : decode cC_Mod_init 1225 = .ok (.bipush (11), 2) := by decide +kernel
theorem dC_Mod_init_1227 : decode cC_Mod_init 1227 = .ok (.bastore, 1) := by decide +kernel
theorem dC_Mod_init_1228 : decode cC_Mod_init 1228 = .ok (.dup, 1) := by decide +kernel
theorem dC_Mod_init_1229 : decode cC_Mod_init 1229 = .ok (.bipush (60), 2) := by decide +kernel
theorem dC_Mod_init_1231 : decode cC_Mod_init 1231 = .ok (.bipush (11), 2) := by decide +kernel
theorem dC_Mod_init_1233 : decode cC_Mod_init 1233 = .ok (.bastore, 1) := by decide +kernel
theorem dC_Mod_init_1234 : decode cC_Mod_init 1234 = .ok (.dup, 1) := by decide +kernel
theorem dC_Mod_init_1235 : decode cC_Mod_init 1235 = .ok (.bipush (61), 2) := by decide +kernel
theorem dC_Mod_init_1237 : decode cC_Mod_init 1237 = .ok (.bipush (11), 2) := by decide +kernel
theorem dC_Mod_init_1239 : decode cC_Mod_init 1239 = .ok (.bastore, 1) := by decide +kernel
theorem dC_Mod_init_1240 : decode cC_Mod_init 1240 = .ok (.dup, 1) := by decide +kernel
theorem dC_Mod_init_1241 : decode cC_Mod_init 1241 = .ok (.bipush (62), 2) := by decide +kernel
theorem dC_Mod_init_1243 : decode cC_Mod_init 1243 = .ok (.bipush (12), 2) := by decide +kernel
theorem dC_Mod_init_1245 : decode cC_Mod_init 1245 = .ok (.bastore, 1) := by decide +kernel
theorem dC_Mod_init_1246 : decode cC_Mod_init 1246 = .ok (.dup, 1) := by decide +kernel
theorem dC_Mod_init_1247 : decode cC_Mod_init 1247 = .ok (.bipush (63), 2) := by decide +kernel
theorem dC_Mod_init_1249 : decode cC_Mod_init 1249 = .ok (.bipush (12), 2) := by decide +kernel
theorem dC_Mod_init_1251 : decode cC_Mod_init 1251 = .ok (.bastore, 1) := by decide +kernel
theorem dC_Mod_init_1252 : decode cC_Mod_init 1252 = .ok (.dup, 1) := by decide +kernel
theorem dC_Mod_init_1253 : decode cC_Mod_init 1253 = .ok (.bipush (64), 2) := by decide +kernel
theorem dC_Mod_init_1255 : decode cC_Mod_init 1255 = .ok (.bipush (12), 2) := by decide +kernel
theorem dC_Mod_init_1257 : decode cC_Mod_init 1257 = .ok (.bastore, 1) := by decide +kernel
theorem dC_Mod_init_1258 : decode cC_Mod_init 1258 = .ok (.dup, 1) := by decide +kernel
theorem dC_Mod_init_1259 : decode cC_Mod_init 1259 = .ok (.bipush (65), 2) := by decide +kernel
theorem dC_Mod_init_1261 : decode cC_Mod_init 1261 = .ok (.bipush (12), 2) := by decide +kernel
theorem dC_Mod_init_1263 : decode cC_Mod_init 1263 = .ok (.bastore, 1) := by decide +kernel
theorem dC_Mod_init_1264 : decode cC_Mod_init 1264 = .ok (.dup, 1) := by decide +kernel
theorem dC_Mod_init_1265 : decode cC_Mod_init 1265 = .ok (.bipush (66), 2) := by decide +kernel
theorem dC_Mod_init_1267 : decode cC_Mod_init 1267 = .ok (.bipush (12), 2) := by decide +kernel
theorem dC_Mod_init_1269 : decode cC_Mod_init 1269 = .ok (.bastore, 1) := by decide +kernel
theorem dC_Mod_init_1270 : decode cC_Mod_init 1270 = .ok (.dup, 1) := by decide +kernel
theorem dC_Mod_init_1271 : decode cC_Mod_init 1271 = .ok (.bipush (67), 2) := by decide +kernel
theorem dC_Mod_init_1273 : decode cC_Mod_init 1273 = .ok (.bipush (12), 2) := by decide +kernel
theorem dC_Mod_init_1275 : decode cC_Mod_init 1275 = .ok (.bastore, 1) := by decide +kernel
theorem dC_Mod_init_1276 : decode cC_Mod_init 1276 = .ok (.dup, 1) := by decide +kernel
theorem dC_Mod_init_1277 : decode cC_Mod_init 1277 = .ok (.bipush (68), 2) := by decide +kernel
theorem dC_Mod_init_1279 : decode cC_Mod_init 1279 = .ok (.bipush (13), 2) := by decide +kernel
theorem dC_Mod_init_1281 : decode cC_Mod_init 1281 = .ok (.bastore, 1) := by decide +kernel
theorem dC_Mod_init_1282 : decode cC_Mod_init 1282 = .ok (.dup, 1) := by decide +kernel
theorem dC_Mod_init_1283 : decode cC_Mod_init 1283 = .ok (.bipush (69), 2) := by decide +kernel
theorem dC_Mod_init_1285 : decode cC_Mod_init 1285 = .ok (.bipush (14), 2) := by decide +kernel
theorem dC_Mod_init_1287 : decode cC_Mod_init 1287 = .ok (.bastore, 1) := by decide +kernel
theorem dC_Mod_init_1288 : decode cC_Mod_init 1288 = .ok (.dup, 1) := by decide +kernel
theorem dC_Mod_init_1289 : decode cC_Mod_init 1289 = .ok (.bipush (70), 2) := by decide +kernel
theorem dC_Mod_init_1291 : decode cC_Mod_init 1291 = .ok (.bipush (14), 2) := by decide +kernel
theorem dC_Mod_init_1293 : decode cC_Mod_init 1293 = .ok (.bastore, 1) := by decide +kernel
theorem dC_Mod_init_1294 : decode cC_Mod_init 1294 = .ok (.dup, 1) := by decide +kernel
theorem dC_Mod_init_1295 : decode cC_Mod_init 1295 = .ok (.bipush (71), 2) := by decide +kernel
theorem dC_Mod_init_1297 : decode cC_Mod_init 1297 = .ok (.bipush (16), 2) := by decide +kernel
theorem dC_Mod_init_1299 : decode cC_Mod_init 1299 = .ok (.bastore, 1) := by decide +kernel
theorem dC_Mod_init_1300 : decode cC_Mod_init 1300 = .ok (.dup, 1) := by decide +kernel
theorem dC_Mod_init_1301 : decode cC_Mod_init 1301 = .ok (.bipush (72), 2) := by decide +kernel
theorem dC_Mod_init_1303 : decode cC_Mod_init 1303 = .ok (.bipush (16), 2) := by decide +kernel
theorem dC_Mod_init_1305 : decode cC_Mod_init 1305 = .ok (.bastore, 1) := by decide +kernel
theorem dC_Mod_init_1306 : decode cC_Mod_init 1306 = .ok (.dup, 1) := by decide +kernel
theorem dC_Mod_init_1307 : decode cC_Mod_init 1307 = .ok (.bipush (73), 2) := by decide +kernel
theorem dC_Mod_init_1309 : decode cC_Mod_init 1309 = .ok (.bipush (17), 2) := by decide +kernel
theorem dC_Mod_init_1311 : decode cC_Mod_init 1311 = .ok (.bastore, 1) := by decide +kernel
theorem dC_Mod_init_1312 : decode cC_Mod_init 1312 = .ok (.dup, 1) := by decide +kernel
theorem dC_Mod_init_1313 : decode cC_Mod_init 1313 = .ok (.bipush (74), 2) := by decide +kernel
theorem dC_Mod_init_1315 : decode cC_Mod_init 1315 = .ok (.bipush (17), 2) := by decide +kernel
theorem dC_Mod_init_1317 : decode cC_Mod_init 1317 = .ok (.bastore, 1) := by decide +kernel
theorem dC_Mod_init_1318 : decode cC_Mod_init 1318 = .ok (.dup, 1) := by decide +kernel
theorem dC_Mod_init_1319 : decode cC_Mod_init 1319 = .ok (.bipush (75), 2) := by decide +kernel
theorem dC_Mod_init_1321 : decode cC_Mod_init 1321 = .ok (.bipush (18), 2) := by decide +kernel
theorem dC_Mod_init_1323 : decode cC_Mod_init 1323 = .ok (.bastore, 1) := by decide +kernel
theorem dC_Mod_init_1324 : decode cC_Mod_init 1324 = .ok (.dup, 1) := by decide +kernel
theorem dC_Mod_init_1325 : decode cC_Mod_init 1325 = .ok (.bipush (76), 2) := by decide +kernel
theorem dC_Mod_init_1327 : decode cC_Mod_init 1327 = .ok (.bipush (19), 2) := by decide +kernel
theorem dC_Mod_init_1329 : decode cC_Mod_init 1329 = .ok (.bastore, 1) := by decide +kernel
theorem dC_Mod_init_1330 : decode cC_Mod_init 1330 = .ok (.dup, 1) := by decide +kernel
theorem dC_Mod_init_1331 : decode cC_Mod_init 1331 = .ok (.bipush (77), 2) := by decide +kernel
theorem dC_Mod_init_1333 : decode cC_Mod_init 1333 = .ok (.bipush (19), 2) := by decide +kernel
theorem dC_Mod_init_1335 : decode cC_Mod_init 1335 = .ok (.bastore, 1) := by decide +kernel
theorem dC_Mod_init_1336 : decode cC_Mod_init 1336 = .ok (.dup, 1) := by decide +kernel
theorem dC_Mod_init_1337 : decode cC_Mod_init 1337 = .ok (.bipush (78), 2) := by decide +kernel
theorem dC_Mod_init_1339 : decode cC_Mod_init 1339 = .ok (.bipush (20), 2) := by decide +kernel
theorem dC_Mod_init_1341 : decode cC_Mod_init 1341 = .ok (.bastore, 1) := by decide +kernel
theorem dC_Mod_init_1342 : decode cC_Mod_init 1342 = .ok (.dup, 1) := by decide +kernel
theorem dC_Mod_init_1343 : decode cC_Mod_init 1343 = .ok (.bipush (79), 2) := by decide +kernel
theorem dC_Mod_init_1345 : decode cC_Mod_init 1345 = .ok (.bipush (21), 2) := by decide +kernel
theorem dC_Mod_init_1347 : decode cC_Mod_init 1347 = .ok (.bastore, 1) := by decide +kernel
theorem dC_Mod_init_1348 : decode cC_Mod_init 1348 = .ok (.dup, 1) := by decide +kernel
theorem dC_Mod_init_1349 : decode cC_Mod_init 1349 = .ok (.bipush (80), 2) := by decide +kernel
theorem dC_Mod_init_1351 : decode cC_Mod_init 1351 = .ok (.bipush (21), 2) := by decide +kernel
theorem dC_Mod_init_1353 : decode cC_Mod_init 1353 = .ok (.bastore, 1) := by decide +kernel
theorem dC_Mod_init_1354 : decode cC_Mod_init 1354 = .ok (.dup, 1) := by decide +kernel
theorem dC_Mod_init_1355 : decode cC_Mod_init 1355 = .ok (.bipush (81), 2) := by decide +kernel
theorem dC_Mod_init_1357 : decode cC_Mod_init 1357 = .ok (.bipush (22), 2) := by decide +kernel
theorem dC_Mod_init_1359 : decode cC_Mod_init 1359 = .ok (.bastore, 1) := by decide +kernel
theorem dC_Mod_init_1360 : decode cC_Mod_init 1360 = .ok (.dup, 1) := by decide +kernel
theorem dC_Mod_init_1361 : decode cC_Mod_init 1361 = .ok (.bipush (82), 2) := by decide +kernel
theorem dC_Mod_init_1363 : decode cC_Mod_init 1363 = .ok (.bipush (23), 2) := by decide +kernel
theorem dC_Mod_init_1365 : decode cC_Mod_init 1365 = .ok (.bastore, 1) := by decide +kernel
theorem dC_Mod_init_1366 : decode cC_Mod_init 1366 = .ok (.dup, 1) := by decide +kernel
theorem dC_Mod_init_1367 : decode cC_Mod_init 1367 = .ok (.bipush (83), 2) := by decide +kernel
theorem dC_Mod_init_1369 : decode cC_Mod_init 1369 = .ok (.bipush (23), 2) := by decide +kernel
theorem dC_Mod_init_1371 : decode cC_Mod_init 1371 = .ok (.bastore, 1) := by decide +kernel
theorem dC_Mod_init_1372 : decode cC_Mod_init 1372 = .ok (.dup, 1) := by decide +kernel
theorem dC_Mod_init_1373 : decode cC_Mod_init 1373 = .ok (.bipush (84), 2) := by decide +kernel
theorem dC_Mod_init_1375 : decode cC_Mod_init 1375 = .ok (.bipush (23), 2) := by decide +kernel
theorem dC_Mod_init_1377 : decode cC_Mod_init 1377 = .ok (.bastore, 1) := by decide +kernel
theorem dC_Mod_init_1378 : decode cC_Mod_init 1378 = .ok (.dup, 1) := by decide +kernel
theorem dC_Mod_init_1379 : decode cC_Mod_init 1379 = .ok (.bipush (85), 2) := by decide +kernel
theorem dC_Mod_init_1381 : decode cC_Mod_init 1381 = .ok (.bipush (23), 2) := by decide +kernel
theorem dC_Mod_init_1383 : decode cC_Mod_init 1383 = .ok (.bastore, 1) := by decide +kernel
theorem dC_Mod_init_1384 : decode cC_Mod_init 1384 = .ok (.dup, 1) := by decide +kernel
theorem dC_Mod_init_1385 : decode cC_Mod_init 1385 = .ok (.bipush (86), 2) := by decide +kernel
theorem dC_Mod_init_1387 : decode cC_Mod_init 1387 = .ok (.bipush (24), 2) := by decide +kernel
theorem dC_Mod_init_1389 : decode cC_Mod_init 1389 = .ok (.bastore, 1) := by decide +kernel
theorem dC_Mod_init_1390 : decode cC_Mod_init 1390 = .ok (.dup, 1) := by decide +kernel
theorem dC_Mod_init_1391 : decode cC_Mod_init 1391 = .ok (.bipush (87), 2) := by decide +kernel
theorem dC_Mod_init_1393 : decode cC_Mod_init 1393 = .ok (.bipush (24), 2) := by decide +kernel
theorem dC_Mod_init_1395 : decode cC_Mod_init 1395 = .ok (.bastore, 1) := by decide +kernel
theorem dC_Mod_init_1396 : decode cC_Mod_init 1396 = .ok (.dup, 1) := by decide +kernel
theorem dC_Mod_init_1397 : decode cC_Mod_init 1397 = .ok (.bipush (88), 2) := by decide +kernel
theorem dC_Mod_init_1399 : decode cC_Mod_init 1399 = .ok (.bipush (25), 2) := by decide +kernel
theorem dC_Mod_init_1401 : decode cC_Mod_init 1401 = .ok (.bastore, 1) := by decide +kernel
theorem dC_Mod_init_1402 : decode cC_Mod_init 1402 = .ok (.dup, 1) := by decide +kernel
theorem dC_Mod_init_1403 : decode cC_Mod_init 1403 = .ok (.bipush (89), 2) := by decide +kernel
theorem dC_Mod_init_1405 : decode cC_Mod_init 1405 = .ok (.bipush (26), 2) := by decide +kernel
theorem dC_Mod_init_1407 : decode cC_Mod_init 1407 = .ok (.bastore, 1) := by decide +kernel
theorem dC_Mod_init_1408 : decode cC_Mod_init 1408 = .ok (.dup, 1) := by decide +kernel
theorem dC_Mod_init_1409 : decode cC_Mod_init 1409 = .ok (.bipush (90), 2) := by decide +kernel
theorem dC_Mod_init_1411 : decode cC_Mod_init 1411 = .ok (.bipush (27), 2) := by decide +kernel
theorem dC_Mod_init_1413 : decode cC_Mod_init 1413 = .ok (.bastore, 1) := by decide +kernel
theorem dC_Mod_init_1414 : decode cC_Mod_init 1414 = .ok (.dup, 1) := by decide +kernel
theorem dC_Mod_init_1415 : decode cC_Mod_init 1415 = .ok (.bipush (91), 2) := by decide +kernel
theorem dC_Mod_init_1417 : decode cC_Mod_init 1417 = .ok (.bipush (27), 2) := by decide +kernel
theorem dC_Mod_init_1419 : decode cC_Mod_init 1419 = .ok (.bastore, 1) := by decide +kernel
theorem dC_Mod_init_1420 : decode cC_Mod_init 1420 = .ok (.dup, 1) := by decide +kernel
theorem dC_Mod_init_1421 : decode cC_Mod_init 1421 = .ok (.bipush (92), 2) := by decide +kernel
theorem dC_Mod_init_1423 : decode cC_Mod_init 1423 = .ok (.bipush (28), 2) := by decide +kernel
theorem dC_Mod_init_1425 : decode cC_Mod_init 1425 = .ok (.bastore, 1) := by decide +kernel
theorem dC_Mod_init_1426 : decode cC_Mod_init 1426 = .ok (.dup, 1) := by decide +kernel
theorem dC_Mod_init_1427 : decode cC_Mod_init 1427 = .ok (.bipush (93), 2) := by decide +kernel
theorem dC_Mod_init_1429 : decode cC_Mod_init 1429 = .ok (.bipush (28), 2) := by decide +kernel
theorem dC_Mod_init_1431 : decode cC_Mod_init 1431 = .ok (.bastore, 1) := by decide +kernel
theorem dC_Mod_init_1432 : decode cC_Mod_init 1432 = .ok (.dup, 1) := by decide +kernel
theorem dC_Mod_init_1433 : decode cC_Mod_init 1433 = .ok (.bipush (94), 2) := by decide +kernel
theorem dC_Mod_init_1435 : decode cC_Mod_init 1435 = .ok (.bipush (29), 2) := by decide +kernel
theorem dC_Mod_init_1437 : decode cC_Mod_init 1437 = .ok (.bastore, 1) := by decide +kernel
theorem dC_Mod_init_1438 : decode cC_Mod_init 1438 = .ok (.dup, 1) := by decide +kernel
theorem dC_Mod_init_1439 : decode cC_Mod_init 1439 = .ok (.bipush (95), 2) := by decide +kernel
theorem dC_Mod_init_1441 : decode cC_Mod_init 1441 = .ok (.bipush (31), 2) := by decide +kernel
theorem dC_Mod_init_1443 : decode cC_Mod_init 1443 = .ok (.bastore, 1) := by decide +kernel
theorem dC_Mod_init_1444 : decode cC_Mod_init 1444 = .ok (.dup, 1) := by decide +kernel
theorem dC_Mod_init_1445 : decode cC_Mod_init 1445 = .ok (.bipush (96), 2) := by decide +kernel
theorem dC_Mod_init_1447 : decode cC_Mod_init 1447 = .ok (.bipush (31), 2) := by decide +kernel
theorem dC_Mod_init_1449 : decode cC_Mod_init 1449 = .ok (.bastore, 1) := by decide +kernel
theorem dC_Mod_init_1450 : decode cC_Mod_init 1450 = .ok (.dup, 1) := by decide +kernel
theorem dC_Mod_init_1451 : decode cC_Mod_init 1451 = .ok (.bipush (97), 2) := by decide +kernel
theorem dC_Mod_init_1453 : decode cC_Mod_init 1453 = .ok (.bipush (31), 2) := by decide +kernel
theorem dC_Mod_init_1455 : decode cC_Mod_init 1455 = .ok (.bastore, 1) := by decide +kernel
theorem dC_Mod_init_1456 : decode cC_Mod_init 1456 = .ok (.dup, 1) := by decide +kernel
theorem dC_Mod_init_1457 : decode cC_Mod_init 1457 = .ok (.bipush (98), 2) := by decide +kernel
theorem dC_Mod_init_1459 : decode cC_Mod_init 1459 = .ok (.bipush (31), 2) := by decide +kernel
theorem dC_Mod_init_1461 : decode cC_Mod_init 1461 = .ok (.bastore, 1) := by decide +kernel
theorem dC_Mod_init_1462 : decode cC_Mod_init 1462 = .ok (.dup, 1) := by decide +kernel
theorem dC_Mod_init_1463 : decode cC_Mod_init 1463 = .ok (.bipush (99), 2) := by decide +kernel
theorem dC_Mod_init_1465 : decode cC_Mod_init 1465 = .ok (.bipush (32), 2) := by decide +kernel
theorem dC_Mod_init_1467 : decode cC_Mod_init 1467 = .ok (.bastore, 1) := by decide +kernel
theorem dC_Mod_init_1468 : decode cC_Mod_init 1468 = .ok (.dup, 1) := by decide +kernel
theorem dC_Mod_init_1469 : decode cC_Mod_init 1469 = .ok (.bipush (100), 2) := by decide +kernel
theorem dC_Mod_init_1471 : decode cC_Mod_init 1471 = .ok (.bipush (32), 2) := by decide +kernel
theorem dC_Mod_init_1473 : decode cC_Mod_init 1473 = .ok (.bastore, 1) := by decide +kernel
theorem dC_Mod_init_1474 : decode cC_Mod_init 1474 = .ok (.dup, 1) := by decide +kernel
theorem dC_Mod_init_1475 : decode cC_Mod_init 1475 = .ok (.bipush (101), 2) := by decide +kernel
theorem dC_Mod_init_1477 : decode cC_Mod_init 1477 = .ok (.bipush (32), 2) := by decide +kernel
theorem dC_Mod_init_1479 : decode cC_Mod_init 1479 = .ok (.bastore, 1) := by decide +kernel
theorem dC_Mod_init_1480 : decode cC_Mod_init 1480 = .ok (.dup, 1) := by decide +kernel
theorem dC_Mod_init_1481 : decode cC_Mod_init 1481 = .ok (.bipush (102), 2) := by decide +kernel
theorem dC_Mod_init_1483 : decode cC_Mod_init 1483 = .ok (.bipush (33), 2) := by decide +kernel
theorem dC_Mod_init_1485 : decode cC_Mod_init 1485 = .ok (.bastore, 1) := by decide +kernel
theorem dC_Mod_init_1486 : decode cC_Mod_init 1486 = .ok (.dup, 1) := by decide +kernel
theorem dC_Mod_init_1487 : decode cC_Mod_init 1487 = .ok (.bipush (103), 2) := by decide +kernel
theorem dC_Mod_init_1489 : decode cC_Mod_init 1489 = .ok (.bipush (34), 2) := by decide +kernel
theorem dC_Mod_init_1491 : decode cC_Mod_init 1491 = .ok (.bastore, 1) := by decide +kernel
theorem dC_Mod_init_1492 : decode cC_Mod_init 1492 = .ok (.dup, 1) := by decide +kernel
theorem dC_Mod_init_1493 : decode cC_Mod_init 1493 = .ok (.bipush (104), 2) := by decide +kernel
theorem dC_Mod_init_1495 : decode cC_Mod_init 1495 = .ok (.bipush (34), 2) := by decide +kernel
theorem dC_Mod_init_1497 : decode cC_Mod_init 1497 = .ok (.bastore, 1) := by decide +kernel
theorem dC_Mod_init_1498 : decode cC_Mod_init 1498 = .ok (.dup, 1) := by decide +kernel
theorem dC_Mod_init_1499 : decode cC_Mod_init 1499 = .ok (.bipush (105), 2) := by decide +kernel
theorem dC_Mod_init_1501 : decode cC_Mod_init 1501 = .ok (.bipush (34), 2) := by decide +kernel
theorem dC_Mod_init_1503 : decode cC_Mod_init 1503 = .ok (.bastore, 1) := by decide +kernel
theorem dC_Mod_init_1504 : decode cC_Mod_init 1504 = .ok (.dup, 1) := by decide +kernel
theorem dC_Mod_init_1505 : decode cC_Mod_init 1505 = .ok (.bipush (106), 2) := by decide +kernel
theorem dC_Mod_init_1507 : decode cC_Mod_init 1507 = .ok (.bipush (35), 2) := by decide +kernel
theorem dC_Mod_init_1509 : decode cC_Mod_init 1509 = .ok (.bastore, 1) := by decide +kernel
theorem dC_Mod_init_1510 : decode cC_Mod_init 1510 = .ok (.dup, 1) := by decide +kernel
theorem dC_Mod_init_1511 : decode cC_Mod_init 1511 = .ok (.bipush (107), 2) := by decide +kernel
theorem dC_Mod_init_1513 : decode cC_Mod_init 1513 = .ok (.bipush (35), 2) := by decide +kernel
theorem dC_Mod_init_1515 : decode cC_Mod_init 1515 = .ok (.bastore, 1) := by decide +kernel
theorem dC_Mod_init_1516 : decode cC_Mod_init 1516 = .ok (.dup, 1) := by decide +kernel
theorem dC_Mod_init_1517 : decode cC_Mod_init 1517 = .ok (.bipush (108), 2) := by decide +kernel
theorem dC_Mod_init_1519 : decode cC_Mod_init 1519 = .ok (.bipush (35), 2) := by decide +kernel
theorem dC_Mod_init_1521 : decode cC_Mod_init 1521 = .ok (.bastore, 1) := by decide +kernel
theorem dC_Mod_init_1522 : decode cC_Mod_init 1522 = .ok (.dup, 1) := by decide +kernel
theorem dC_Mod_init_1523 : decode cC_Mod_init 1523 = .ok (.bipush (109), 2) := by decide +kernel
theorem dC_Mod_init_1525 : decode cC_Mod_init 1525 = .ok (.bipush (35), 2) := by decide +kernel
theorem dC_Mod_init_1527 : decode cC_Mod_init 1527 = .ok (.bastore, 1) := by decide +kernel
theorem dC_Mod_init_1528 : decode cC_Mod_init 1528 = .ok (.dup, 1) := by decide +kernel
theorem dC_Mod_init_1529 : decode cC_Mod_init 1529 = .ok (.bipush (110), 2) := by decide +kernel
theorem dC_Mod_init_1531 : decode cC_Mod_init 1531 = .ok (.bipush (36), 2) := by decide +kernel
theorem dC_Mod_init_1533 : decode cC_Mod_init 1533 = .ok (.bastore, 1) := by decide +kernel
theorem dC_Mod_init_1534 : decode cC_Mod_init 1534 = .ok (.dup, 1) := by decide +kernel
theorem dC_Mod_init_1535 : decode cC_Mod_init 1535 = .ok (.bipush (111), 2) := by decide +kernel
theorem dC_Mod_init_1537 : decode cC_Mod_init 1537 = .ok (.bipush (36), 2) := by decide +kernel
theorem dC_Mod_init_1539 : decode cC_Mod_init 1539 = .ok (.bastore, 1) := by decide +kernel
theorem dC_Mod_init_1540 : decode cC_Mod_init 1540 = .ok (.dup, 1) := by decide +kernel
theorem dC_Mod_init_1541 : decode cC_Mod_init 1541 = .ok (.bipush (112), 2) := by decide +kernel
theorem dC_Mod_init_1543 : decode cC_Mod_init 1543 = .ok (.bipush (37), 2) := by decide +kernel
theorem dC_Mod_init_1545 : decode cC_Mod_init 1545 = .ok (.bastore, 1) := by decide +kernel
theorem dC_Mod_init_1546 : decode cC_Mod_init 1546 = .ok (.dup, 1) := by decide +kernel
theorem dC_Mod_init_1547 : decode cC_Mod_init 1547 = .ok (.bipush (113), 2) := by decide +kernel
theorem dC_Mod_init_1549 : decode cC_Mod_init 1549 = .ok (.bipush (37), 2) := by decide +kernel
theorem dC_Mod_init_1551 : decode cC_Mod_init 1551 = .ok (.bastore, 1) := by decide +kernel
theorem dC_Mod_init_1552 : decode cC_Mod_init 1552 = .ok (.dup, 1) := by decide +kernel
theorem dC_Mod_init_1553 : decode cC_Mod_init 1553 = .ok (.bipush (114), 2) := by decide +kernel
theorem dC_Mod_init_1555 : decode cC_Mod_init 1555 = .ok (.bipush (37), 2) := by decide +kernel
theorem dC_Mod_init_1557 : decode cC_Mod_init 1557 = .ok (.bastore, 1) := by decide +kernel
theorem dC_Mod_init_1558 : decode cC_Mod_init 1558 = .ok (.dup, 1) := by decide +kernel
theorem dC_Mod_init_1559 : decode cC_Mod_init 1559 = .ok (.bipush (115), 2) := by decide +kernel
theorem dC_Mod_init_1561 : decode cC_Mod_init 1561 = .ok (.bipush (37), 2) := by decide +kernel
theorem dC_Mod_init_1563 : decode cC_Mod_init 1563 = .ok (.bastore, 1) := by decide +kernel
theorem dC_Mod_init_1564 : decode cC_Mod_init 1564 = .ok (.dup, 1) := by decide +kernel
theorem dC_Mod_init_1565 : decode cC_Mod_init 1565 = .ok (.bipush (116), 2) := by decide +kernel
theorem dC_Mod_init_1567 : decode cC_Mod_init 1567 = .ok (.bipush (38), 2) := by decide +kernel
theorem dC_Mod_init_1569 : decode cC_Mod_init 1569 = .ok (.bastore, 1) := by decide +kernel
theorem dC_Mod_init_1570 : decode cC_Mod_init 1570 = .ok (.dup, 1) := by decide +kernel
theorem dC_Mod_init_1571 : decode cC_Mod_init 1571 = .ok (.bipush (117), 2) := by decide +kernel
theorem dC_Mod_init_1573 : decode cC_Mod_init 1573 = .ok (.bipush (39), 2) := by decide +kernel
theorem dC_Mod_init_1575 : decode cC_Mod_init 1575 = .ok (.bastore, 1) := by decide +kernel
theorem dC_Mod_init_1576 : decode cC_Mod_init 1576 = .ok (.dup, 1) := by decide +kernel
theorem dC_Mod_init_1577 : decode cC_Mod_init 1577 = .ok (.bipush (118), 2) := by decide +kernel
theorem dC_Mod_init_1579 : decode cC_Mod_init 1579 = .ok (.bipush (40), 2) := by decide +kernel
theorem dC_Mod_init_1581 : decode cC_Mod_init 1581 = .ok (.bastore, 1) := by decide +kernel
theorem dC_Mod_init_1582 : decode cC_Mod_init 1582 = .ok (.dup, 1) := by decide +kernel
theorem dC_Mod_init_1583 : decode cC_Mod_init 1583 = .ok (.bipush (119), 2) := by decide +kernel
theorem dC_Mod_init_1585 : decode cC_Mod_init 1585 = .ok (.bipush (41), 2) := by decide +kernel
theorem dC_Mod_init_1587 : decode cC_Mod_init 1587 = .ok (.bastore, 1) := by decide +kernel
theorem dC_Mod_init_1588 : decode cC_Mod_init 1588 = .ok (.dup, 1) := by decide +kernel
theorem dC_Mod_init_1589 : decode cC_Mod_init 1589 = .ok (.bipush (120), 2) := by decide +kernel
theorem dC_Mod_init_1591 : decode cC_Mod_init 1591 = .ok (.bipush (42), 2) := by decide +kernel
theorem dC_Mod_init_1593 : decode cC_Mod_init 1593 = .ok (.bastore, 1) := by decide +kernel
theorem dC_Mod_init_1594 : decode cC_Mod_init 1594 = .ok (.dup, 1) := by decide +kernel
theorem dC_Mod_init_1595 : decode cC_Mod_init 1595 = .ok (.bipush (121), 2) := by decide +kernel
theorem dC_Mod_init_1597 : decode cC_Mod_init 1597 = .ok (.bipush (43), 2) := by decide +kernel
theorem dC_Mod_init_1599 : decode cC_Mod_init 1599 = .ok (.bastore, 1) := by decide +kernel
theorem dC_Mod_init_1600 : decode cC_Mod_init 1600 = .ok (.dup, 1) := by decide +kernel
theorem dC_Mod_init_1601 : decode cC_Mod_init 1601 = .ok (.bipush (122), 2) := by decide +kernel
theorem dC_Mod_init_1603 : decode cC_Mod_init 1603 = .ok (.bipush (44), 2) := by decide +kernel
theorem dC_Mod_init_1605 : decode cC_Mod_init 1605 = .ok (.bastore, 1) := by decide +kernel
theorem dC_Mod_init_1606 : decode cC_Mod_init 1606 = .ok (.dup, 1) := by decide +kernel
theorem dC_Mod_init_1607 : decode cC_Mod_init 1607 = .ok (.bipush (123), 2) := by decide +kernel
theorem dC_Mod_init_1609 : decode cC_Mod_init 1609 = .ok (.bipush (45), 2) := by decide +kernel
theorem dC_Mod_init_1611 : decode cC_Mod_init 1611 = .ok (.bastore, 1) := by decide +kernel
theorem dC_Mod_init_1612 : decode cC_Mod_init 1612 = .ok (.dup, 1) := by decide +kernel
theorem dC_Mod_init_1613 : decode cC_Mod_init 1613 = .ok (.bipush (124), 2) := by decide +kernel
theorem dC_Mod_init_1615 : decode cC_Mod_init 1615 = .ok (.bipush (46), 2) := by decide +kernel
theorem dC_Mod_init_1617 : decode cC_Mod_init 1617 = .ok (.bastore, 1) := by decide +kernel
theorem dC_Mod_init_1618 : decode cC_Mod_init 1618 = .ok (.dup, 1) := by decide +kernel
theorem dC_Mod_init_1619 : decode cC_Mod_init 1619 = .ok (.bipush (125), 2) := by decide +kernel
theorem dC_Mod_init_1621 : decode cC_Mod_init 1621 = .ok (.bipush (47), 2) := by decide +kernel
theorem dC_Mod_init_1623 : decode cC_Mod_init 1623 = .ok (.bastore, 1) := by decide +kernel
theorem dC_Mod_init_1624 : decode cC_Mod_init 1624 = .ok (.dup, 1) := by decide +kernel
theorem dC_Mod_init_1625 : decode cC_Mod_init 1625 = .ok (.bipush (126), 2) := by decide +kernel
theorem dC_Mod_init_1627 : decode cC_Mod_init 1627 = .ok (.bipush (48), 2) := by decide +kernel
theorem dC_Mod_init_1629 : decode cC_Mod_init 1629 = .ok (.bastore, 1) := by decide +kernel
theorem dC_Mod_init_1630 : decode cC_Mod_init 1630 = .ok (.dup, 1) := by decide +kernel
theorem dC_Mod_init_1631 : decode cC_Mod_init 1631 = .ok (.bipush (127), 2) := by decide +kernel
theorem dC_Mod_init_1633 : decode cC_Mod_init 1633 = .ok (.bipush (49), 2) := by decide +kernel
theorem dC_Mod_init_1635 : decode cC_Mod_init 1635 = .ok (.bastore, 1) := by decide +kernel
theorem dC_Mod_init_1636 : decode cC_Mod_init 1636 = .ok (.putfield 269, 3) := by decide +kernel
theorem dC_Mod_init_1639 : decode cC_Mod_init 1639 = .ok (.aload_n 0, 1) := by decide +kernel
theorem dC_Mod_init_1640 : decode cC_Mod_init 1640 = .ok (.sipush (128), 3) := by decide +kernel
theorem dC_Mod_init_1643 : decode cC_Mod_init 1643 = .ok (.newarray .int, 2) := by decide +kernel
theorem dC_Mod_init_1645 : decode cC_Mod_init 1645 = .ok (.dup, 1) := by decide +kernel
theorem dC_Mod_init_1646 : decode cC_Mod_init 1646 = .ok (.iconst (0), 1) := by decide +kernel
theorem dC_Mod_init_1647 : decode cC_Mod_init 1647 = .ok (.bipush (51), 2) := by decide +kernel
theorem dC_Mod_init_1649 : decode cC_Mod_init 1649 = .ok (.iastore, 1) := by decide +kernel
theorem dC_Mod_init_1650 : decode cC_Mod_init 1650 = .ok (.dup, 1) := by decide +kernel
theorem dC_Mod_init_1651 : decode cC_Mod_init 1651 = .ok (.iconst (1), 1) := by decide +kernel
theorem dC_Mod_init_1652 : decode cC_Mod_init 1652 = .ok (.ldc_w 273, 3) := by decide +kernel
theorem dC_Mod_init_1655 : decode cC_Mod_init 1655 = .ok (.iastore, 1) := by decide +kernel
theorem dC_Mod_init_1656 : decode cC_Mod_init 1656 = .ok (.dup, 1) := by decide +kernel
theorem dC_Mod_init_1657 : decode cC_Mod_init 1657 = .ok (.iconst (2), 1) := by decide +kernel
theorem dC_Mod_init_1658 : decode cC_Mod_init 1658 = .ok (.sipush (4147), 3) := by decide +kernel
theorem dC_Mod_init_1661 : decode cC_Mod_init 1661 = .ok (.iastore, 1) := by decide +kernel
theorem dC_Mod_init_1662 : decode cC_Mod_init 1662 = .ok (.dup, 1) := by decide +kernel
theorem dC_Mod_init_1663 : decode cC_Mod_init 1663 = .ok (.iconst (3), 1) := by decide +kernel
theorem dC_Mod_init_1664 : decode cC_Mod_init 1664 = .ok (.sipush (8243), 3) := by decide +kernel
theorem dC_Mod_init_1667 : decode cC_Mod_init 1667 = .ok (.iastore, 1) := by decide +kernel
theorem dC_Mod_init_1668 : decode cC_Mod_init 1668 = .ok (.dup, 1) := by decide +kernel
theorem dC_Mod_init_1669 : decode cC_Mod_init 1669 = .ok (.iconst (4), 1) := by decide +kernel
theorem dC_Mod_init_1670 : decode cC_Mod_init 1670 = .ok (.sipush (12339), 3) := by decide +kernel
theorem dC_Mod_init_1673 : decode cC_Mod_init 1673 = .ok (.iastore, 1) := by decide +kernel
theorem dC_Mod_init_1674 : decode cC_Mod_init 1674 = .ok (.dup, 1) := by decide +kernel
theorem dC_Mod_init_1675 : decode cC_Mod_init 1675 = .ok (.iconst (5), 1) := by decide +kernel
theorem dC_Mod_init_1676 : decode cC_Mod_init 1676 = .ok (.sipush (16435), 3) := by decide +kernel
theorem dC_Mod_init_1679 : decode cC_Mod_init 1679 = .ok (.iastore, 1) := by decide +kernel
theorem dC_Mod_init_1680 : decode cC_Mod_init 1680 = .ok (.dup, 1) := by decide +kernel
theorem dC_Mod_init_1681 : decode cC_Mod_init 1681 = .ok (.bipush (6), 2) := by decide +kernel
theorem dC_Mod_init_1683 : decode cC_Mod_init 1683 = .ok (.sipush (20531), 3) := by decide +kernel
theorem dC_Mod_init_1686 : decode cC_Mod_init 1686 = .ok (.iastore, 1) := by decide +kernel
theorem dC_Mod_init_1687 : decode cC_Mod_init 1687 = .ok (.dup, 1) := by decide +kernel
theorem dC_Mod_init_1688 : decode cC_Mod_init 1688 = .ok (.bipush (7), 2) := by decide +kernel
theorem dC_Mod_init_1690 : decode cC_Mod_init 1690 = .ok (.ldc_w 274, 3) := by decide +kernel
theorem dC_Mod_init_1693 : decode cC_Mod_init 1693 = .ok (.iastore, 1) := by decide +kernel
theorem dC_Mod_init_1694 : decode cC_Mod_init 1694 = .ok (.dup, 1) := by decide +kernel
theorem dC_Mod_init_1695 : decode cC_Mod_init 1695 = .ok (.bipush (8), 2) := by decide +kernel
theorem dC_Mod_init_1697 : decode cC_Mod_init 1697 = .ok (.sipush (24627), 3) := by decide +kernel
theorem dC_Mod_init_1700 : decode cC_Mod_init 1700 = .ok (.iastore, 1) := by decide +kernel
theorem dC_Mod_init_1701 : decode cC_Mod_init 1701 = .ok (.dup, 1) := by decide +kernel
theorem dC_Mod_init_1702 : decode cC_Mod_init 1702 = .ok (.bipush (9), 2) := by decide +kernel
theorem dC_Mod_init_1704 : decode cC_Mod_init 1704 = .ok (.sipush (28723), 3) := by decide +kernel
theorem dC_Mod_init_1707 : decode cC_Mod_init 1707 = .ok (.iastore, 1) := by decide +kernel
theorem dC_Mod_init_1708 : decode cC_Mod_init 1708 = .ok (.dup, 1) := by decide +kernel
theorem dC_Mod_init_1709 : decode cC_Mod_init 1709 = .ok (.bipush (10), 2) := by decide +kernel
theorem dC_Mod_init_1711 : decode cC_Mod_init 1711 = .ok (.ldc_w 275, 3) := by decide +kernel
theorem dC_Mod_init_1714 : decode cC_Mod_init 1714 = .ok (.iastore, 1) := by decide +kernel
theorem dC_Mod_init_1715 : decode cC_Mod_init 1715 = .ok (.dup, 1) := by decide +kernel
theorem dC_Mod_init_1716 : decode cC_Mod_init 1716 = .ok (.bipush (11), 2) := by decide +kernel
theorem dC_Mod_init_1718 : decode cC_Mod_init 1718 = .ok (.ldc_w 276, 3) := by decide +kernel
theorem dC_Mod_init_1721 : decode cC_Mod_init 1721 = .ok (.iastore, 1) := by decide +kernel
theorem dC_Mod_init_1722 : decode cC_Mod_init 1722 = .ok (.dup, 1) := by decide +kernel
theorem dC_Mod_init_1723 : decode cC_Mod_init 1723 = .ok (.bipush (12), 2) := by decide +kernel
theorem dC_Mod_init_1725 : decode cC_Mod_init 1725 = .ok (.ldc_w 277, 3) := by decide +kernel
theorem dC_Mod_init_1728 : decode cC_Mod_init 1728 = .ok (.iastore, 1) := by decide +kernel
theorem dC_Mod_init_1729 : decode cC_Mod_init 1729 = .ok (.dup, 1) := by decide +kernel
theorem dC_Mod_init_1730 : decode cC_Mod_init 1730 = .ok (.bipush (13), 2) := by decide +kernel
theorem dC_Mod_init_1732 : decode cC_Mod_init 1732 = .ok (.ldc_w 278, 3) := by decide +kernel
theorem dC_Mod_init_1735 : decode cC_Mod_init 1735 = .ok (.iastore, 1) := by decide +kernel
theorem dC_Mod_init_1736 : decode cC_Mod_init 1736 = .ok (.dup, 1) := by decide +kernel
theorem dC_Mod_init_1737 : decode cC_Mod_init 1737 = .ok (.bipush (14), 2) := by decide +kernel
theorem dC_Mod_init_1739 : decode cC_Mod_init 1739 = .ok (.ldc_w 279, 3) := by decide +kernel
theorem dC_Mod_init_1742 : decode cC_Mod_init 1742 = .ok (.iastore, 1) := by decide +kernel
theorem dC_Mod_init_1743 : decode cC_Mod_init 1743 = .ok (.dup, 1) := by decide +kernel
theorem dC_Mod_init_1744 : decode cC_Mod_init 1744 = .ok (.bipush (15), 2) := by decide +kernel
theorem dC_Mod_init_1746 : decode cC_Mod_init 1746 = .ok (.ldc_w 280, 3) := by decide +kernel
theorem dC_Mod_init_1749 : decode cC_Mod_init 1749 = .ok (.iastore, 1) := by decide +kernel
theorem dC_Mod_init_1750 : decode cC_Mod_init 1750 = .ok (.dup, 1) := by decide +kernel
theorem dC_Mod_init_1751 : decode cC_Mod_init 1751 = .ok (.bipush (16), 2) := by decide +kernel
theorem dC_Mod_init_1753 : decode cC_Mod_init 1753 = .ok (.ldc_w 281, 3) := by decide +kernel
theorem dC_Mod_init_1756 : decode cC_Mod_init 1756 = .ok (.iastore, 1) := by decide +kernel
theorem dC_Mod_init_1757 : decode cC_Mod_init 1757 = .ok (.dup, 1) := by decide +kernel
theorem dC_Mod_init_1758 : decode cC_Mod_init 1758 = .ok (.bipush (17), 2) := by decide +kernel
theorem dC_Mod_init_1760 : decode cC_Mod_init 1760 = .ok (.ldc_w 282, 3) := by decide +kernel
theorem dC_Mod_init_1763 : decode cC_Mod_init 1763 = .ok (.iastore, 1) := by decide +kernel
theorem dC_Mod_init_1764 : decode cC_Mod_init 1764 = .ok (.dup, 1) := by decide +kernel
theorem dC_Mod_init_1765 : decode cC_Mod_init 1765 = .ok (.bipush (18), 2) := by decide +kernel
theorem dC_Mod_init_1767 : decode cC_Mod_init 1767 = .ok (.bipush (19), 2) := by decide +kernel
theorem dC_Mod_init_1769 : decode cC_Mod_init 1769 = .ok (.iastore, 1) := by decide +kernel
theorem dC_Mod_init_1770 : decode cC_Mod_init 1770 = .ok (.dup, 1) := by decide +kernel
theorem dC_Mod_init_1771 : decode cC_Mod_init 1771 = .ok (.bipush (19), 2) := by decide +kernel
theorem dC_Mod_init_1773 : decode cC_Mod_init 1773 = .ok (.sipush (8211), 3) := by decide +kernel
theorem dC_Mod_init_1776 : decode cC_Mod_init 1776 = .ok (.iastore, 1) := by decide +kernel
theorem dC_Mod_init_1777 : decode cC_Mod_init 1777 = .ok (.dup, 1) := by decide +kernel
theorem dC_Mod_init_1778 : decode cC_Mod_init 1778 = .ok (.bipush (20), 2) := by decide +kernel
theorem dC_Mod_init_1780 : decode cC_Mod_init 1780 = .ok (.sipush (12307), 3) := by decide +kernel
theorem dC_Mod_init_1783 : decode cC_Mod_init 1783 = .ok (.iastore, 1) := by decide +kernel
theorem dC_Mod_init_1784 : decode cC_Mod_init 1784 = .ok (.dup, 1) := by decide +kernel
theorem dC_Mod_init_1785 : decode cC_Mod_init 1785 = .ok (.bipush (21), 2) := by decide +kernel
theorem dC_Mod_init_1787 : decode cC_Mod_init 1787 = .ok (.sipush (16403), 3) := by decide +kernel
theorem dC_Mod_init_1790 : decode cC_Mod_init 1790 = .ok (.iastore, 1) := by decide +kernel
theorem dC_Mod_init_1791 : decode cC_Mod_init 1791 = .ok (.dup, 1) := by decide +kernel
theorem dC_Mod_init_1792 : decode cC_Mod_init 1792 = .ok (.bipush (22), 2) := by decide +kernel
theorem dC_Mod_init_1794 : decode cC_Mod_init 1794 = .ok (.sipush (24595), 3) := by decide +kernel
theorem dC_Mod_init_1797 : decode cC_Mod_init 1797 = .ok (.iastore, 1) := by decide +kernel
theorem dC_Mod_init_1798 : decode cC_Mod_init 1798 = .ok (.dup, 1) := by decide +kernel
theorem dC_Mod_init_1799 : decode cC_Mod_init 1799 = .ok (.bipush (23), 2) := by decide +kernel
theorem dC_Mod_init_1801 : decode cC_Mod_init 1801 = .ok (.sipush (28691), 3) := by decide +kernel
theorem dC_Mod_init_1804 : decode cC_Mod_init 1804 = .ok (.iastore, 1) := by decide +kernel
theorem dC_Mod_init_1805 : decode cC_Mod_init 1805 = .ok (.dup, 1) := by decide +kernel
theorem dC_Mod_init_1806 : decode cC_Mod_init 1806 = .ok (.bipush (24), 2) := by decide +kernel
theorem dC_Mod_init_1808 : decode cC_Mod_init 1808 = .ok (.sipush (4115), 3) := by decide +kernel
theorem dC_Mod_init_1811 : decode cC_Mod_init 1811 = .ok (.iastore, 1) := by decide +kernel
theorem dC_Mod_init_1812 : decode cC_Mod_init 1812 = .ok (.dup, 1) := by decide +kernel
theorem dC_Mod_init_1813 : decode cC_Mod_init 1813 = .ok (.bipush (25), 2) := by decide +kernel
theorem dC_Mod_init_1815 : decode cC_Mod_init 1815 = .ok (.sipush (20499), 3) := by decide +kernel
theorem dC_Mod_init_1818 : decode cC_Mod_init 1818 = .ok (.iastore, 1) := by decide +kernel
theorem dC_Mod_init_1819 : decode cC_Mod_init 1819 = .ok (.dup, 1) := by decide +kernel
theorem dC_Mod_init_1820 : decode cC_Mod_init 1820 = .ok (.bipush (26), 2) := by decide +kernel
theorem dC_Mod_init_1822 : decode cC_Mod_init 1822 = .ok (.ldc_w 283, 3) := by decide +kernel
theorem dC_Mod_init_1825 : decode cC_Mod_init 1825 = .ok (.iastore, 1) := by decide +kernel
theorem dC_Mod_init_1826 : decode cC_Mod_init 1826 = .ok (.dup, 1) := by decide +kernel
theorem dC_Mod_init_1827 : decode cC_Mod_init 1827 = .ok (.bipush (27), 2) := by decide +kernel
theorem dC_Mod_init_1829 : decode cC_Mod_init 1829 = .ok (.iconst (3), 1) := by decide +kernel
theorem dC_Mod_init_1830 : decode cC_Mod_init 1830 = .ok (.iastore, 1) := by decide +kernel
theorem dC_Mod_init_1831 : decode cC_Mod_init 1831 = .ok (.dup, 1) := by decide +kernel
theorem dC_Mod_init_1832 : decode cC_Mod_init 1832 = .ok (.bipush (28), 2) := by decide +kernel
theorem dC_Mod_init_1834 : decode cC_Mod_init 1834 = .ok (.sipush (4099), 3) := by decide +kernel
theorem dC_Mod_init_1837 : decode cC_Mod_init 1837 = .ok (.iastore, 1) := by decide +kernel
theorem dC_Mod_init_1838 : decode cC_Mod_init 1838 = .ok (.dup, 1) := by decide +kernel
theorem dC_Mod_init_1839 : decode cC_Mod_init 1839 = .ok (.bipush (29), 2) := by decide +kernel
theorem dC_Mod_init_1841 : decode cC_Mod_init 1841 = .ok (.sipush (8195), 3) := by decide +kernel
theorem dC_Mod_init_1844 : decode cC_Mod_init 1844 = .ok (.iastore, 1) := by decide +kernel
theorem dC_Mod_init_1845 : decode cC_Mod_init 1845 = .ok (.dup, 1) := by decide +kernel
theorem dC_Mod_init_1846 : decode cC_Mod_init 1846 = .ok (.bipush (30), 2) := by decide +kernel
theorem dC_Mod_init_1848 : decode cC_Mod_init 1848 = .ok (.sipush (16387), 3) := by decide +kernel
theorem dC_Mod_init_1851 : decode cC_Mod_init 1851 = .ok (.iastore, 1) := by decide +kernel
theorem dC_Mod_init_1852 : decode cC_Mod_init 1852 = .ok (.dup, 1) := by decide +kernel
theorem dC_Mod_init_1853 : decode cC_Mod_init 1853 = .ok (.bipush (31), 2) := by decide +kernel
theorem dC_Mod_init_1855 : decode cC_Mod_init 1855 = .ok (.sipush (20483), 3) := by decide +kernel
theorem dC_Mod_init_1858 : decode cC_Mod_init 1858 = .ok (.iastore, 1) := by decide +kernel
theorem dC_Mod_init_1859 : decode cC_Mod_init 1859 = .ok (.dup, 1) := by decide +kernel
theorem dC_Mod_init_1860 : decode cC_Mod_init 1860 = .ok (.bipush (32), 2) := by decide +kernel
theorem dC_Mod_init_1862 : decode cC_Mod_init 1862 = .ok (.bipush (103), 2) := by decide +kernel
theorem dC_Mod_init_1864 : decode cC_Mod_init 1864 = .ok (.iastore, 1) := by decide +kernel
theorem dC_Mod_init_1865 : decode cC_Mod_init 1865 = .ok (.dup, 1) := by decide +kernel
theorem dC_Mod_init_1866 : decode cC_Mod_init 1866 = .ok (.bipush (33), 2) := by decide +kernel
theorem dC_Mod_init_1868 : decode cC_Mod_init 1868 = .ok (.bipush (35), 2) := by decide +kernel
theorem dC_Mod_init_1870 : decode cC_Mod_init 1870 = .ok (.iastore, 1) := by decide +kernel
theorem dC_Mod_init_1871 : decode cC_Mod_init 1871 = .ok (.dup, 1) := by decide +kernel
theorem dC_Mod_init_1872 : decode cC_Mod_init 1872 = .ok (.bipush (34), 2) := by decide +kernel
theorem dC_Mod_init_1874 : decode cC_Mod_init 1874 = .ok (.sipush (4131), 3) := by decide +kernel
theorem dC_Mod_init_1877 : decode cC_Mod_init 1877 = .ok (.iastore, 1) := by decide +kernel
theorem dC_Mod_init_1878 : decode cC_Mod_init 1878 = .ok (.dup, 1) := by decide +kernel
theorem dC_Mod_init_1879 : decode cC_Mod_init 1879 = .ok (.bipush (35), 2) := by decide +kernel
theorem dC_Mod_init_1881 : decode cC_Mod_init 1881 = .ok (.sipush (8227), 3) := by decide +kernel
theorem dC_Mod_init_1884 : decode cC_Mod_init 1884 = .ok (.iastore, 1) := by decide +kernel
theorem dC_Mod_init_1885 : decode cC_Mod_init 1885 = .ok (.dup, 1) := by decide +kernel
theorem dC_Mod_init_1886 : decode cC_Mod_init 1886 = .ok (.bipush (36), 2) := by decide +kernel
theorem dC_Mod_init_1888 : decode cC_Mod_init 1888 = .ok (.bipush (55), 2) := by decide +kernel
theorem dC_Mod_init_1890 : decode cC_Mod_init 1890 = .ok (.iastore, 1) := by decide +kernel
theorem dC_Mod_init_1891 : decode cC_Mod_init 1891 = .ok (.dup, 1) := by decide +kernel
theorem dC_Mod_init_1892 : decode cC_Mod_init 1892 = .ok (.bipush (37), 2) := by decide +kernel
theorem dC_Mod_init_1894 : decode cC_Mod_init 1894 = .ok (.bipush (23), 2) := by decide +kernel
theorem dC_Mod_init_1896 : decode cC_Mod_init 1896 = .ok (.iastore, 1) := by decide +kernel
theorem dC_Mod_init_1897 : decode cC_Mod_init 1897 = .ok (.dup, 1) := by decide +kernel
theorem dC_Mod_init_1898 : decode cC_Mod_init 1898 = .ok (.bipush (38), 2) := by decide +kernel
theorem dC_Mod_init_1900 : decode cC_Mod_init 1900 = .ok (.bipush (99), 2) := by decide +kernel
theorem dC_Mod_init_1902 : decode cC_Mod_init 1902 = .ok (.iastore, 1) := by decide +kernel
theorem dC_Mod_init_1903 : decode cC_Mod_init 1903 = .ok (.dup, 1) := by decide +kernel
theorem dC_Mod_init_1904 : decode cC_Mod_init 1904 = .ok (.bipush (39), 2) := by decide +kernel
theorem dC_Mod_init_1906 : decode cC_Mod_init 1906 = .ok (.sipush (4195), 3) := by decide +kernel
theorem dC_Mod_init_1909 : decode cC_Mod_init 1909 = .ok (.iastore, 1) := by decide +kernel
theorem dC_Mod_init_1910 : decode cC_Mod_init 1910 = .ok (.dup, 1) := by decide +kernel
theorem dC_Mod_init_1911 : decode cC_Mod_init 1911 = .ok (.bipush (40), 2) := by decide +kernel
theorem dC_Mod_init_1913 : decode cC_Mod_init 1913 = .ok (.sipush (16483), 3) := by decide +kernel
theorem dC_Mod_init_1916 : decode cC_Mod_init 1916 = .ok (.iastore, 1) := by decide +kernel
theorem dC_Mod_init_1917 : decode cC_Mod_init 1917 = .ok (.dup, 1) := by decide +kernel
theorem dC_Mod_init_1918 : decode cC_Mod_init 1918 = .ok (.bipush (41), 2) := by decide +kernel
theorem dC_Mod_init_1920 : decode cC_Mod_init 1920 = .ok (.sipush (20579), 3) := by decide +kernel
theorem dC_Mod_init_1923 : decode cC_Mod_init 1923 = .ok (.iastore, 1) := by decide +kernel
theorem dC_Mod_init_1924 : decode cC_Mod_init 1924 = .ok (.dup, 1) := by decide +kernel
theorem dC_Mod_init_1925 : decode cC_Mod_init 1925 = .ok (.bipush (42), 2) := by decide +kernel
theorem dC_Mod_init_1927 : decode cC_Mod_init 1927 = .ok (.sipush (24675), 3) := by decide +kernel
theorem dC_Mod_init_1930 : decode cC_Mod_init 1930 = .ok (.iastore, 1) := by decide +kernel
theorem dC_Mod_init_1931 : decode cC_Mod_init 1931 = .ok (.dup, 1) := by decide +kernel
theorem dC_Mod_init_1932 : decode cC_Mod_init 1932 = .ok (.bipush (43), 2) := by decide +kernel
theorem dC_Mod_init_1934 : decode cC_Mod_init 1934 = .ok (.sipush (28771), 3) := by decide +kernel
theorem dC_Mod_init_1937 : decode cC_Mod_init 1937 = .ok (.iastore, 1) := by decide +kernel
theorem dC_Mod_init_1938 : decode cC_Mod_init 1938 = .ok (.dup, 1) := by decide +kernel
theorem dC_Mod_init_1939 : decode cC_Mod_init 1939 = .ok (.bipush (44), 2) := by decide +kernel
theorem dC_Mod_init_1941 : decode cC_Mod_init 1941 = .ok (.bipush (111), 2) := by decide +kernel
theorem dC_Mod_init_1943 : decode cC_Mod_init 1943 = .ok (.iastore, 1) := by decide +kernel
theorem dC_Mod_init_1944 : decode cC_Mod_init 1944 = .ok (.dup, 1) := by decide +kernel
theorem dC_Mod_init_1945 : decode cC_Mod_init 1945 = .ok (.bipush (45), 2) := by decide +kernel
theorem dC_Mod_init_1947 : decode cC_Mod_init 1947 = .ok (.ldc_w 284, 3) := by decide +kernel
theorem dC_Mod_init_1950 : decode cC_Mod_init 1950 = .ok (.iastore, 1) := by decide +kernel
theorem dC_Mod_init_1951 : decode cC_Mod_init 1951 = .ok (.dup, 1) := by decide +kernel
theorem dC_Mod_init_1952 : decode cC_Mod_init 1952 = .ok (.bipush (46), 2) := by decide +kernel
theorem dC_Mod_init_1954 : decode cC_Mod_init 1954 = .ok (.ldc_w 285, 3) := by decide +kernel
theorem dC_Mod_init_1957 : decode cC_Mod_init 1957 = .ok (.iastore, 1) := by decide +kernel
theorem dC_Mod_init_1958 : decode cC_Mod_init 1958 = .ok (.dup, 1) := by decide +kernel
theorem dC_Mod_init_1959 : decode cC_Mod_init 1959 = .ok (.bipush (47), 2) := by decide +kernel
theorem dC_Mod_init_1961 : decode cC_Mod_init 1961 = .ok (.sipush (8239), 3) := by decide +kernel
theorem dC_Mod_init_1964 : decode cC_Mod_init 1964 = .ok (.iastore, 1) := by decide +kernel
theorem dC_Mod_init_1965 : decode cC_Mod_init 1965 = .ok (.dup, 1) := by decide +kernel
theorem dC_Mod_init_1966 : decode cC_Mod_init 1966 = .ok (.bipush (48), 2) := by decide +kernel
theorem dC_Mod_init_1968 : decode cC_Mod_init 1968 = .ok (.ldc_w 286, 3) := by decide +kernel
theorem dC_Mod_init_1971 : decode cC_Mod_init 1971 = .ok (.iastore, 1) := by decide +kernel
theorem dC_Mod_init_1972 : decode cC_Mod_init 1972 = .ok (.dup, 1) := by decide +kernel
theorem dC_Mod_init_1973 : decode cC_Mod_init 1973 = .ok (.bipush (49), 2) := by decide +kernel
theorem dC_Mod_init_1975 : decode cC_Mod_init 1975 = .ok (.ldc_w 287, 3) := by decide +kernel
theorem dC_Mod_init_1978 : decode cC_Mod_init 1978 = .ok (.iastore, 1) := by decide +kernel
theorem dC_Mod_init_1979 : decode cC_Mod_init 1979 = .ok (.dup, 1) := by decide +kernel
theorem dC_Mod_init_1980 : decode cC_Mod_init 1980 = .ok (.bipush (50), 2) := by decide +kernel
theorem dC_Mod_init_1982 : decode cC_Mod_init 1982 = .ok (.ldc_w 288, 3) := by decide +kernel
theorem dC_Mod_init_1985 : decode cC_Mod_init 1985 = .ok (.iastore, 1) := by decide +kernel
theorem dC_Mod_init_1986 : decode cC_Mod_init 1986 = .ok (.dup, 1) := by decide +kernel
theorem dC_Mod_init_1987 : decode cC_Mod_init 1987 = .ok (.bipush (51), 2) := by decide +kernel
theorem dC_Mod_init_1989 : decode cC_Mod_init 1989 = .ok (.ldc_w 289, 3) := by decide +kernel
theorem dC_Mod_init_1992 : decode cC_Mod_init 1992 = .ok (.iastore, 1) := by decide +kernel
theorem dC_Mod_init_1993 : decode cC_Mod_init 1993 = .ok (.dup, 1) := by decide +kernel
theorem dC_Mod_init_1994 : decode cC_Mod_init 1994 = .ok (.bipush (52), 2) := by decide +kernel
theorem dC_Mod_init_1996 : decode cC_Mod_init 1996 = .ok (.ldc_w 290, 3) := by decide +kernel
theorem dC_Mod_init_1999 : decode cC_Mod_init 1999 = .ok (.iastore, 1) := by decide +kernel
theorem dC_Mod_init_2000 : decode cC_Mod_init 2000 = .ok (.dup, 1) := by decide +kernel
theorem dC_Mod_init_2001 : decode cC_Mod_init 2001 = .ok (.bipush (53), 2) := by decide +kernel
theorem dC_Mod_init_2003 : decode cC_Mod_init 2003 = .ok (.ldc_w 291, 3) := by decide +kernel
theorem dC_Mod_init_2006 : decode cC_Mod_init 2006 = .ok (.iastore, 1) := by decide +kernel
theorem dC_Mod_init_2007 : decode cC_Mod_init 2007 = .ok (.dup, 1) := by decide +kernel
theorem dC_Mod_init_2008 : decode cC_Mod_init 2008 = .ok (.bipush (54), 2) := by decide +kernel
theorem dC_Mod_init_2010 : decode cC_Mod_init 2010 = .ok (.ldc_w 292, 3) := by decide +kernel
theorem dC_Mod_init_2013 : decode cC_Mod_init 2013 = .ok (.iastore, 1) := by decide +kernel
theorem dC_Mod_init_2014 : decode cC_Mod_init 2014 = .ok (.dup, 1) := by decide +kernel
theorem dC_Mod_init_2015 : decode cC_Mod_init 2015 = .ok (.bipush (55), 2) := by decide +kernel
theorem dC_Mod_init_2017 : decode cC_Mod_init 2017 = .ok (.ldc_w 293, 3) := by decide +kernel
theorem dC_Mod_init_2020 : decode cC_Mod_init 2020 = .ok (.iastore, 1) := by decide +kernel
theorem dC_Mod_init_2021 : decode cC_Mod_init 2021 = .ok (.dup, 1) := by decide +kernel
theorem dC_Mod_init_2022 : decode cC_Mod_init 2022 = .ok (.bipush (56), 2) := by decide +kernel
theorem dC_Mod_init_2024 : decode cC_Mod_init 2024 = .ok (.ldc_w 294, 3) := by decide +kernel
theorem dC_Mod_init_2027 : decode cC_Mod_init 2027 = .ok (.iastore, 1) := by decide +kernel
theorem dC_Mod_init_2028 : decode cC_Mod_init 2028 = .ok (.dup, 1) := by decide +kernel
theorem dC_Mod_init_2029 : decode cC_Mod_init 2029 = .ok (.bipush (57), 2) := by decide +kernel
theorem dC_Mod_init_2031 : decode cC_Mod_init 2031 = .ok (.ldc_w 295, 3) := by decide +kernel
theorem dC_Mod_init_2034 : decode cC_Mod_init 2034 = .ok (.iastore, 1) := by decide +kernel
theorem dC_Mod_init_2035 : decode cC_Mod_init 2035 = .ok (.dup, 1) := by decide +kernel
theorem dC_Mod_init_2036 : decode cC_Mod_init 2036 = .ok (.bipush (58), 2) := by decide +kernel
theorem dC_Mod_init_2038 : decode cC_Mod_init 2038 = .ok (.ldc_w 296, 3) := by decide +kernel
theorem dC_Mod_init_2041 : decode cC_Mod_init 2041 = .ok (.iastore, 1) := by decide +kernel
theorem dC_Mod_init_2042 : decode cC_Mod_init 2042 = .ok (.dup, 1) := by decide +kernel
theorem dC_Mod_init_2043 : decode cC_Mod_init 2043 = .ok (.bipush (59), 2) := by decide +kernel
theorem dC_Mod_init_2045 : decode cC_Mod_init 2045 = .ok (.ldc_w 297, 3) := by decide +kernel
theorem dC_Mod_init_2048 : decode cC_Mod_init 2048 = .ok (.iastore, 1) := by decide +kernel
theorem dC_Mod_init_2049 : decode cC_Mod_init 2049 = .ok (.dup, 1) := by decide +kernel
theorem dC_Mod_init_2050 : decode cC_Mod_init 2050 = .ok (.bipush (60), 2) := by decide +kernel
theorem dC_Mod_init_2052 : decode cC_Mod_init 2052 = .ok (.ldc_w 298, 3) := by decide +kernel
theorem dC_Mod_init_2055 : decode cC_Mod_init 2055 = .ok (.iastore, 1) := by decide +kernel
theorem dC_Mod_init_2056 : decode cC_Mod_init 2056 = .ok (.dup, 1) := by decide +kernel
theorem dC_Mod_init_2057 : decode cC_Mod_init 2057 = .ok (.bipush (61), 2) := by decide +kernel
theorem dC_Mod_init_2059 : decode cC_Mod_init 2059 = .ok (.ldc_w 299, 3) := by decide +kernel
theorem dC_Mod_init_2062 : decode cC_Mod_init 2062 = .ok (.iastore, 1) := by decide +kernel
theorem dC_Mod_init_2063 : decode cC_Mod_init 2063 = .ok (.dup, 1) := by decide +kernel
theorem dC_Mod_init_2064 : decode cC_Mod_init 2064 = .ok (.bipush (62), 2) := by decide +kernel
theorem dC_Mod_init_2066 : decode cC_Mod_init 2066 = .ok (.ldc_w 300, 3) := by decide +kernel
theorem dC_Mod_init_2069 : decode cC_Mod_init 2069 = .ok (.iastore, 1) := by decide +kernel
theorem dC_Mod_init_2070 : decode cC_Mod_init 2070 = .ok (.dup, 1) := by decide +kernel
theorem dC_Mod_init_2071 : decode cC_Mod_init 2071 = .ok (.bipush (63), 2) := by decide +kernel
theorem dC_Mod_init_2073 : decode cC_Mod_init 2073 = .ok (.sipush (4111), 3) := by decide +kernel
theorem dC_Mod_init_2076 : decode cC_Mod_init 2076 = .ok (.iastore, 1) := by decide +kernel
theorem dC_Mod_init_2077 : decode cC_Mod_init 2077 = .ok (.dup, 1) := by decide +kernel
theorem dC_Mod_init_2078 : decode cC_Mod_init 2078 = .ok (.bipush (64), 2) := by decide +kernel
theorem dC_Mod_init_2080 : decode cC_Mod_init 2080 = .ok (.bipush (115), 2) := by decide +kernel
theorem dC_Mod_init_2082 : decode cC_Mod_init 2082 = .ok (.iastore, 1) := by decide +kernel
theorem dC_Mod_init_2083 : decode cC_Mod_init 2083 = .ok (.dup, 1) := by decide +kernel
theorem dC_Mod_init_2084 : decode cC_Mod_init 2084 = .ok (.bipush (65), 2) := by decide +kernel
theorem dC_Mod_init_2086 : decode cC_Mod_init 2086 = .ok (.ldc_w 301, 3) := by decide +kernel
theorem dC_Mod_init_2089 : decode cC_Mod_init 2089 = .ok (.iastore, 1) := by decide +kernel
theorem dC_Mod_init_2090 : decode cC_Mod_init 2090 = .ok (.dup, 1) := by decide +kernel
theorem dC_Mod_init_2091 : decode cC_Mod_init 2091 = .ok (.bipush (66), 2) := by decide +kernel
theorem dC_Mod_init_2093 : decode cC_Mod_init 2093 = .ok (.bipush (19), 2) := by decide +kernel
theorem dC_Mod_init_2095 : decode cC_Mod_init 2095 = .ok (.iastore, 1) := by decide +kernel
theorem dC_Mod_init_2096 : decode cC_Mod_init 2096 = .ok (.dup, 1) := by decide +kernel
theorem dC_Mod_init_2097 : decode cC_Mod_init 2097 = .ok (.bipush (67), 2) := by decide +kernel
theorem dC_Mod_init_2099 : decode cC_Mod_init 2099 = .ok (.ldc_w 302, 3) := by decide +kernel
theorem dC_Mod_init_2102 : decode cC_Mod_init 2102 = .ok (.iastore, 1) := by decide +kernel
theorem dC_Mod_init_2103 : decode cC_Mod_init 2103 = .ok (.dup, 1) := by decide +kernel
theorem dC_Mod_init_2104 : decode cC_Mod_init 2104 = .ok (.bipush (68), 2) := by decide +kernel
theorem dC_Mod_init_2106 : decode cC_Mod_init 2106 = .ok (.iconst (0), 1) := by decide +kernel
theorem dC_Mod_init_2107 : decode cC_Mod_init 2107 = .ok (.iastore, 1) := by decide +kernel
theorem dC_Mod_init_2108 : decode cC_Mod_init 2108 = .ok (.dup, 1) := by decide +kernel
theorem dC_Mod_init_2109 : decode cC_Mod_init 2109 = .ok (.bipush (69), 2) := by decide +kernel
theorem dC_Mod_init_2111 : decode cC_Mod_init 2111 = .ok (.sipush (16384), 3) := by decide +kernel
theorem dC_Mod_init_2114 : decode cC_Mod_init 2114 = .ok (.iastore, 1) := by decide +kernel
theorem dC_Mod_init_2115 : decode cC_Mod_init 2115 = .ok (.dup, 1) := by decide +kernel
theorem dC_Mod_init_2116 : decode cC_Mod_init 2116 = .ok (.bipush (70), 2) := by decide +kernel
theorem dC_Mod_init_2118 : decode cC_Mod_init 2118 = .ok (.ldc_w 303, 3) := by decide +kernel
theorem dC_Mod_init_2121 : decode cC_Mod_init 2121 = .ok (.iastore, 1) := by decide +kernel
theorem dC_Mod_init_2122 : decode cC_Mod_init 2122 = .ok (.dup, 1) := by decide +kernel
theorem dC_Mod_init_2123 : decode cC_Mod_init 2123 = .ok (.bipush (71), 2) := by decide +kernel
theorem dC_Mod_init_2125 : decode cC_Mod_init 2125 = .ok (.iconst (1), 1) := by decide +kernel
theorem dC_Mod_init_2126 : decode cC_Mod_init 2126 = .ok (.iastore, 1) := by decide +kernel
theorem dC_Mod_init_2127 : decode cC_Mod_init 2127 = .ok (.dup, 1) := by decide +kernel
theorem dC_Mod_init_2128 : decode cC_Mod_init 2128 = .ok (.bipush (72), 2) := by decide +kernel
theorem dC_Mod_init_2130 : decode cC_Mod_init 2130 = .ok (.ldc_w 304, 3) := by decide +kernel
theorem dC_Mod_init_2133 : decode cC_Mod_init 2133 = .ok (.iastore, 1) := by decide +kernel
theorem dC_Mod_init_2134 : decode cC_Mod_init 2134 = .ok (.dup, 1) := by decide +kernel
theorem dC_Mod_init_2135 : decode cC_Mod_init 2135 = .ok (.bipush (73), 2) := by decide +kernel
theorem dC_Mod_init_2137 : decode cC_Mod_init 2137 = .ok (.iconst (1), 1) := by decide +kernel
theorem dC_Mod_init_2138 : decode cC_Mod_init 2138 = .ok (.iastore, 1) := by decide +kernel
theorem dC_Mod_init_2139 : decode cC_Mod_init 2139 = .ok (.dup, 1) := by decide +kernel
theorem dC_Mod_init_2140 : decode cC_Mod_init 2140 = .ok (.bipush (74), 2) := by decide +kernel
theorem dC_Mod_init_2142 : decode cC_Mod_init 2142 = .ok (.sipush (16385), 3) := by decide +kernel
theorem dC_Mod_init_2145 : decode cC_Mod_init 2145 = .ok (.iastore, 1) := by decide +kernel
theorem dC_Mod_init_2146 : decode cC_Mod_init 2146 = .ok (.dup, 1) := by decide +kernel
theorem dC_Mod_init_2147 : decode cC_Mod_init 2147 = .ok (.bipush (75), 2) := by decide +kernel
theorem dC_Mod_init_2149 : decode cC_Mod_init 2149 = .ok (.sipush (24577), 3) := by decide +kernel
theorem dC_Mod_init_2152 : decode cC_Mod_init 2152 = .ok (.iastore, 1) := by decide +kernel
theorem dC_Mod_init_2153 : decode cC_Mod_init 2153 = .ok (.dup, 1) := by decide +kernel
theorem dC_Mod_init_2154 : decode cC_Mod_init 2154 = .ok (.bipush (76), 2) := by decide +kernel
theorem dC_Mod_init_2156 : decode cC_Mod_init 2156 = .ok (.sipush (8193), 3) := by decide +kernel
theorem dC_Mod_init_2159 : decode cC_Mod_init 2159 = .ok (.iastore, 1) := by decide +kernel
theorem dC_Mod_init_2160 : decode cC_Mod_init 2160 = .ok (.dup, 1) := by decide +kernel
theorem dC_Mod_init_2161 : decode cC_Mod_init 2161 = .ok (.bipush (77), 2) := by decide +kernel
theorem dC_Mod_init_2163 : decode cC_Mod_init 2163 = .ok (.ldc_w 305, 3) := by decide +kernel
theorem dC_Mod_init_2166 : decode cC_Mod_init 2166 = .ok (.iastore, 1) := by decide +kernel
theorem dC_Mod_init_2167 : decode cC_Mod_init 2167 = .ok (.dup, 1) := by decide +kernel
theorem dC_Mod_init_2168 : decode cC_Mod_init 2168 = .ok (.bipush (78), 2) := by decide +kernel
theorem dC_Mod_init_2170 : decode cC_Mod_init 2170 = .ok (.sipush (24833), 3) := by decide +kernel
theorem dC_Mod_init_2173 : decode cC_Mod_init 2173 = .ok (.iastore, 1) := by decide +kernel
theorem dC_Mod_init_2174 : decode cC_Mod_init 2174 = .ok (.dup, 1) := by decide +kernel
theorem dC_Mod_init_2175 : decode cC_Mod_init 2175 = .ok (.bipush (79), 2) := by decide +kernel
theorem dC_Mod_init_2177 : decode cC_Mod_init 2177 = .ok (.ldc_w 306, 3) := by decide +kernel
theorem dC_Mod_init_2180 : decode cC_Mod_init 2180 = .ok (.iastore, 1) := by decide +kernel
theorem dC_Mod_init_2181 : decode cC_Mod_init 2181 = .ok (.dup, 1) := by decide +kernel
theorem dC_Mod_init_2182 : decode cC_Mod_init 2182 = .ok (.bipush (80), 2) := by decide +kernel
theorem dC_Mod_init_2184 : decode cC_Mod_init 2184 = .ok (.ldc_w 307, 3) := by decide +kernel
theorem dC_Mod_init_2187 : decode cC_Mod_init 2187 = .ok (.iastore, 1) := by decide +kernel
theorem dC_Mod_init_2188 : decode cC_Mod_init 2188 = .ok (.dup, 1) := by decide +kernel
theorem dC_Mod_init_2189 : decode cC_Mod_init 2189 = .ok (.bipush (81), 2) := by decide +kernel
theorem dC_Mod_init_2191 : decode cC_Mod_init 2191 = .ok (.ldc_w 308, 3) := by decide +kernel
theorem dC_Mod_init_2194 : decode cC_Mod_init 2194 = .ok (.iastore, 1) := by decide +kernel
theorem dC_Mod_init_2195 : decode cC_Mod_init 2195 = .ok (.dup, 1) := by decide +kernel
theorem dC_Mod_init_2196 : decode cC_Mod_init 2196 = .ok (.bipush (82), 2) := by decide +kernel
theorem dC_Mod_init_2198 : decode cC_Mod_init 2198 = .ok (.ldc_w 309, 3) := by decide +kernel
theorem dC_Mod_init_2201 : decode cC_Mod_init 2201 = .ok (.iastore, 1) := by decide +kernel
theorem dC_Mod_init_2202 : decode cC_Mod_init 2202 = .ok (.dup, 1) := by decide +kernel
theorem dC_Mod_init_2203 : decode cC_Mod_init 2203 = .ok (.bipush (83), 2) := by decide +kernel
theorem dC_Mod_init_2205 : decode cC_Mod_init 2205 = .ok (.ldc_w 310, 3) := by decide +kernel
theorem dC_Mod_init_2208 : decode cC_Mod_init 2208 = .ok (.iastore, 1) := by decide +kernel
theorem dC_Mod_init_2209 : decode cC_Mod_init 2209 = .ok (.dup, 1) := by decide +kernel
theorem dC_Mod_init_2210 : decode cC_Mod_init 2210 = .ok (.bipush (84), 2) := by decide +kernel
theorem dC_Mod_init_2212 : decode cC_Mod_init 2212 = .ok (.ldc_w 311, 3) := by decide +kernel
theorem dC_Mod_init_2215 : decode cC_Mod_init 2215 = .ok (.iastore, 1) := by decide +kernel
theorem dC_Mod_init_2216 : decode cC_Mod_init 2216 = .ok (.dup, 1) := by decide +kernel
theorem dC_Mod_init_2217 : decode cC_Mod_init 2217 = .ok (.bipush (85), 2) := by decide +kernel
theorem dC_Mod_init_2219 : decode cC_Mod_init 2219 = .ok (.ldc_w 312, 3) := by decide +kernel
theorem dC_Mod_init_2222 : decode cC_Mod_init 2222 = .ok (.iastore, 1) := by decide +kernel
theorem dC_Mod_init_2223 : decode cC_Mod_init 2223 = .ok (.dup, 1) := by decide +kernel
theorem dC_Mod_init_2224 : decode cC_Mod_init 2224 = .ok (.bipush (86), 2) := by decide +kernel
theorem dC_Mod_init_2226 : decode cC_Mod_init 2226 = .ok (.ldc_w 313, 3) := by decide +kernel
theorem dC_Mod_init_2229 : decode cC_Mod_init 2229 = .ok (.iastore, 1) := by decide +kernel
theorem dC_Mod_init_2230 : decode cC_Mod_init 2230 = .ok (.dup, 1) := by decide +kernel
theorem dC_Mod_init_2231 : decode cC_Mod_init 2231 = .ok (.bipush (87), 2) := by decide +kernel
theorem dC_Mod_init_2233 : decode cC_Mod_init 2233 = .ok (.ldc_w 314, 3) := by decide +kernel
theorem dC_Mod_init_2236 : decode cC_Mod_init 2236 = .ok (.iastore, 1) := by decide +kernel
theorem dC_Mod_init_2237 : decode cC_Mod_init 2237 = .ok (.dup, 1) := by decide +kernel
theorem dC_Mod_init_2238 : decode cC_Mod_init 2238 = .ok (.bipush (88), 2) := by decide +kernel
theorem dC_Mod_init_2240 : decode cC_Mod_init 2240 = .ok (.iconst (2), 1) := by decide +kernel
theorem dC_Mod_init_2241 : decode cC_Mod_init 2241 = .ok (.iastore, 1) := by decide +kernel
theorem dC_Mod_init_2242 : decode cC_Mod_init 2242 = .ok (.dup, 1) := by decide +kernel
theorem dC_Mod_init_2243 : decode cC_Mod_init 2243 = .ok (.bipush (89), 2) := by decide +kernel
theorem dC_Mod_init_2245 : decode cC_Mod_init 2245 = .ok (.sipush (16386), 3) := by decide +kernel
theorem dC_Mod_init_2248 : decode cC_Mod_init 2248 = .ok (.iastore, 1) := by decide +kernel
theorem dC_Mod_init_2249 : decode cC_Mod_init 2249 = .ok (.dup, 1) := by decide +kernel
theorem dC_Mod_init_2250 : decode cC_Mod_init 2250 = .ok (.bipush (90), 2) := by decide +kernel
theorem dC_Mod_init_2252 : decode cC_Mod_init 2252 = .ok (.ldc_w 315, 3) := by decide +kernel
theorem dC_Mod_init_2255 : decode cC_Mod_init 2255 = .ok (.iastore, 1) := by decide +kernel
theorem dC_Mod_init_2256 : decode cC_Mod_init 2256 = .ok (.dup, 1) := by decide +kernel
theorem dC_Mod_init_2257 : decode cC_Mod_init 2257 = .ok (.bipush (91), 2) := by decide +kernel
theorem dC_Mod_init_2259 : decode cC_Mod_init 2259 = .ok (.ldc_w 304, 3) := by decide +kernel
theorem dC_Mod_init_2262 : decode cC_Mod_init 2262 = .ok (.iastore, 1) := by decide +kernel
theorem dC_Mod_init_2263 : decode cC_Mod_init 2263 = .ok (.dup, 1) := by decide +kernel
theorem dC_Mod_init_2264 : decode cC_Mod_init 2264 = .ok (.bipush (92), 2) := by decide +kernel
theorem dC_Mod_init_2266 : decode cC_Mod_init 2266 = .ok (.ldc_w 315, 3) := by decide +kernel
theorem dC_Mod_init_2269 : decode cC_Mod_init 2269 = .ok (.iastore, 1) := by decide +kernel
theorem dC_Mod_init_2270 : decode cC_Mod_init 2270 = .ok (.dup, 1) := by decide +kernel
theorem dC_Mod_init_2271 : decode cC_Mod_init 2271 = .ok (.bipush (93), 2) := by decide +kernel
theorem dC_Mod_init_2273 : decode cC_Mod_init 2273 = .ok (.ldc_w 304, 3) := by decide +kernel
theorem dC_Mod_init_2276 : decode cC_Mod_init 2276 = .ok (.iastore, 1) := by decide +kernel
theorem dC_Mod_init_2277 : decode cC_Mod_init 2277 = .ok (.dup, 1) := by decide +kernel
theorem dC_Mod_init_2278 : decode cC_Mod_init 2278 = .ok (.bipush (94), 2) := by decide +kernel
theorem dC_Mod_init_2280 : decode cC_Mod_init 2280 = .ok (.ldc_w 316, 3) := by decide +kernel
theorem dC_Mod_init_2283 : decode cC_Mod_init 2283 = .ok (.iastore, 1) := by decide +kernel
theorem dC_Mod_init_2284 : decode cC_Mod_init 2284 = .ok (.dup, 1) := by decide +kernel
theorem dC_Mod_init_2285 : decode cC_Mod_init 2285 = .ok (.bipush (95), 2) := by decide +kernel
theorem dC_Mod_init_2287 : decode cC_Mod_init 2287 = .ok (.bipush (19), 2) := by decide +kernel
theorem dC_Mod_init_2289 : decode cC_Mod_init 2289 = .ok (.iastore, 1) := by decide +kernel
theorem dC_Mod_init_2290 : decode cC_Mod_init 2290 = .ok (.dup, 1) := by decide +kernel
theorem dC_Mod_init_2291 : decode cC_Mod_init 2291 = .ok (.bipush (96), 2) := by decide +kernel
theorem dC_Mod_init_2293 : decode cC_Mod_init 2293 = .ok (.ldc_w 317, 3) := by decide +kernel
theorem dC_Mod_init_2296 : decode cC_Mod_init 2296 = .ok (.iastore, 1) := by decide +kernel
theorem dC_Mod_init_2297 : decode cC_Mod_init 2297 = .ok (.dup, 1) := by decide +kernel
theorem dC_Mod_init_2298 : decode cC_Mod_init 2298 = .ok (.bipush (97), 2) := by decide +kernel
theorem dC_Mod_init_2300 : decode cC_Mod_init 2300 = .ok (.ldc_w 318, 3) := by decide +kernel
theorem dC_Mod_init_2303 : decode cC_Mod_init 2303 = .ok (.iastore, 1) := by decide +kernel
theorem dC_Mod_init_2304 : decode cC_Mod_init 2304 = .ok (.dup, 1) := by decide +kernel
theorem dC_Mod_init_2305 : decode cC_Mod_init 2305 = .ok (.bipush (98), 2) := by decide +kernel
theorem dC_Mod_init_2307 : decode cC_Mod_init 2307 = .ok (.sipush (8243), 3) := by decide +kernel
theorem dC_Mod_init_2310 : decode cC_Mod_init 2310 = .ok (.iastore, 1) := by decide +kernel
theorem dC_Mod_init_2311 : decode cC_Mod_init 2311 = .ok (.dup, 1) := by decide +kernel
theorem dC_Mod_init_2312 : decode cC_Mod_init 2312 = .ok (.bipush (99), 2) := by decide +kernel
theorem dC_Mod_init_2314 : decode cC_Mod_init 2314 = .ok (.ldc_w 273, 3) := by decide +kernel
theorem dC_Mod_init_2317 : decode cC_Mod_init 2317 = .ok (.iastore, 1) := by decide +kernel
theorem dC_Mod_init_2318 : decode cC_Mod_init 2318 = .ok (.dup, 1) := by decide +kernel
theorem dC_Mod_init_2319 : decode cC_Mod_init 2319 = .ok (.bipush (100), 2) := by decide +kernel
theorem dC_Mod_init_2321 : decode cC_Mod_init 2321 = .ok (.sipush (12339), 3) := by decide +kernel
theorem dC_Mod_init_2324 : decode cC_Mod_init 2324 = .ok (.iastore, 1) := by decide +kernel
theorem dC_Mod_init_2325 : decode cC_Mod_init 2325 = .ok (.dup, 1) := by decide +kernel
theorem dC_Mod_init_2326 : decode cC_Mod_init 2326 = .ok (.bipush (101), 2) := by decide +kernel
theorem dC_Mod_init_2328 : decode cC_Mod_init 2328 = .ok (.sipush (8243), 3) := by decide +kernel
theorem dC_Mod_init_2331 : decode cC_Mod_init 2331 = .ok (.iastore, 1) := by decide +kernel
theorem dC_Mod_init_2332 : decode cC_Mod_init 2332 = .ok (.dup, 1) := by decide +kernel
theorem dC_Mod_init_2333 : decode cC_Mod_init 2333 = .ok (.bipush (102), 2) := by decide +kernel
theorem dC_Mod_init_2335 : decode cC_Mod_init 2335 = .ok (.bipush (103), 2) := by decide +kernel
theorem dC_Mod_init_2337 : decode cC_Mod_init 2337 = .ok (.iastore, 1) := by decide +kernel
theorem dC_Mod_init_2338 : decode cC_Mod_init 2338 = .ok (.dup, 1) := by decide +kernel
theorem dC_Mod_init_2339 : decode cC_Mod_init 2339 = .ok (.bipush (103), 2) := by decide +kernel
theorem dC_Mod_init_2341 : decode cC_Mod_init 2341 = .ok (.iconst (1), 1) := by decide +kernel
theorem dC_Mod_init_2342 : decode cC_Mod_init 2342 = .ok (.iastore, 1) := by decide +kernel
theorem dC_Mod_init_2343 : decode cC_Mod_init 2343 = .ok (.dup, 1) := by decide +kernel
theorem dC_Mod_init_2344 : decode cC_Mod_init 2344 = .ok (.bipush (104), 2) := by decide +kernel
theorem dC_Mod_init_2346 : decode cC_Mod_init 2346 = .ok (.iconst (0), 1) := by decide +kernel
theorem dC_Mod_init_2347 : decode cC_Mod_init 2347 = .ok (.iastore, 1) := by decide +kernel
theorem dC_Mod_init_2348 : decode cC_Mod_init 2348 = .ok (.dup, 1) := by decide +kernel
theorem dC_Mod_init_2349 : decode cC_Mod_init 2349 = .ok (.bipush (105), 2) := by decide +kernel
theorem dC_Mod_init_2351 : decode cC_Mod_init 2351 = .ok (.iconst (0), 1) := by decide +kernel
theorem dC_Mod_init_2352 : decode cC_Mod_init 2352 = .ok (.iastore, 1) := by decide +kernel
theorem dC_Mod_init_2353 : decode cC_Mod_init 2353 = .ok (.dup, 1) := by decide +kernel
theorem dC_Mod_init_2354 : decode cC_Mod_init 2354 = .ok (.bipush (106), 2) := by decide +kernel
theorem dC_Mod_init_2356 : decode cC_Mod_init 2356 = .ok (.bipush (99), 2) := by decide +kernel
theorem dC_Mod_init_2358 : decode cC_Mod_init 2358 = .ok (.iastore, 1) := by decide +kernel
theorem dC_Mod_init_2359 : decode cC_Mod_init 2359 = .ok (.dup, 1) := by decide +kernel
theorem dC_Mod_init_2360 : decode cC_Mod_init 2360 = .ok (.bipush (107), 2) := by decide +kernel
theorem dC_Mod_init_2362 : decode cC_Mod_init 2362 = .ok (.sipush (4195), 3) := by decide +kernel
theorem dC_Mod_init_2365 : decode cC_Mod_init 2365 = .ok (.iastore, 1) := by decide +kernel
theorem dC_Mod_init_2366 : decode cC_Mod_init 2366 = .ok (.dup, 1) := by decide +kernel
theorem dC_Mod_init_2367 : decode cC_Mod_init 2367 = .ok (.bipush (108), 2) := by decide +kernel
theorem dC_Mod_init_2369 : decode cC_Mod_init 2369 = .ok (.sipush (20579), 3) := by decide +kernel
theorem dC_Mod_init_2372 : decode cC_Mod_init 2372 = .ok (.iastore, 1) := by decide +kernel
theorem dC_Mod_init_2373 : decode cC_Mod_init 2373 = .ok (.dup, 1) := by decide +kernel
theorem dC_Mod_init_2374 : decode cC_Mod_init 2374 = .ok (.bipush (109), 2) := by decide +kernel
theorem dC_Mod_init_2376 : decode cC_Mod_init 2376 = .ok (.sipush (16483), 3) := by decide +kernel
theorem dC_Mod_init_2379 : decode cC_Mod_init 2379 = .ok (.iastore, 1) := by decide +kernel
theorem dC_Mod_init_2380 : decode cC_Mod_init 2380 = .ok (.dup, 1) := by decide +kernel
theorem dC_Mod_init_2381 : decode cC_Mod_init 2381 = .ok (.bipush (110), 2) := by decide +kernel
theorem dC_Mod_init_2383 : decode cC_Mod_init 2383 = .ok (.sipush (20579), 3) := by decide +kernel
theorem dC_Mod_init_2386 : decode cC_Mod_init 2386 = .ok (.iastore, 1) := by decide +kernel
theorem dC_Mod_init_2387 : decode cC_Mod_init 2387 = .ok (.dup, 1) := by decide +kernel
theorem dC_Mod_init_2388 : decode cC_Mod_init 2388 = .ok (.bipush (111), 2) := by decide +kernel
theorem dC_Mod_init_2390 : decode cC_Mod_init 2390 = .ok (.sipush (16483), 3) := by decide +kernel
theorem dC_Mod_init_2393 : decode cC_Mod_init 2393 = .ok (.iastore, 1) := by decide +kernel
theorem dC_Mod_init_2394 : decode cC_Mod_init 2394 = .ok (.dup, 1) := by decide +kernel
theorem dC_Mod_init_2395 : decode cC_Mod_init 2395 = .ok (.bipush (112), 2) := by decide +kernel
theorem dC_Mod_init_2397 : decode cC_Mod_init 2397 = .ok (.sipush (16483), 3) := by decide +kernel
theorem dC_Mod_init_2400 : decode cC_Mod_init 2400 = .ok (.iastore, 1) := by decide +kernel
theorem dC_Mod_init_2401 : decode cC_Mod_init 2401 = .ok (.dup, 1) := by decide +kernel
theorem dC_Mod_init_2402 : decode cC_Mod_init 2402 = .ok (.bipush (113), 2) := by decide +kernel
theorem dC_Mod_init_2404 : decode cC_Mod_init 2404 = .ok (.sipush (20579), 3) := by decide +kernel
theorem dC_Mod_init_2407 : decode cC_Mod_init 2407 = .ok (.iastore, 1) := by decide +kernel
theorem dC_Mod_init_2408 : decode cC_Mod_init 2408 = .ok (.dup, 1) := by decide +kernel
theorem dC_Mod_init_2409 : decode cC_Mod_init 2409 = .ok (.bipush (114), 2) := by decide +kernel
theorem dC_Mod_init_2411 : decode cC_Mod_init 2411 = .ok (.sipush (24675), 3) := by decide +kernel
theorem dC_Mod_init_2414 : decode cC_Mod_init 2414 = .ok (.iastore, 1) := by decide +kernel
theorem dC_Mod_init_2415 : decode cC_Mod_init 2415 = .ok (.dup, 1) := by decide +kernel
theorem dC_Mod_init_2416 : decode cC_Mod_init 2416 = .ok (.bipush (115), 2) := by decide +kernel
theorem dC_Mod_init_2418 : decode cC_Mod_init 2418 = .ok (.sipush (28771), 3) := by decide +kernel
theorem dC_Mod_init_2421 : decode cC_Mod_init 2421 = .ok (.iastore, 1) := by decide +kernel
theorem dC_Mod_init_2422 : decode cC_Mod_init 2422 = .ok (.dup, 1) := by decide +kernel
theorem dC_Mod_init_2423 : decode cC_Mod_init 2423 = .ok (.bipush (116), 2) := by decide +kernel
theorem dC_Mod_init_2425 : decode cC_Mod_init 2425 = .ok (.iconst (0), 1) := by decide +kernel
theorem dC_Mod_init_2426 : decode cC_Mod_init 2426 = .ok (.iastore, 1) := by decide +kernel
theorem dC_Mod_init_2427 : decode cC_Mod_init 2427 = .ok (.dup, 1) := by decide +kernel
theorem dC_Mod_init_2428 : decode cC_Mod_init 2428 = .ok (.bipush (117), 2) := by decide +kernel
theorem dC_Mod_init_2430 : decode cC_Mod_init 2430 = .ok (.iconst (0), 1) := by decide +kernel
theorem dC_Mod_init_2431 : decode cC_Mod_init 2431 = .ok (.iastore, 1) := by decide +kernel
theorem dC_Mod_init_2432 : decode cC_Mod_init 2432 = .ok (.dup, 1) := by decide +kernel
theorem dC_Mod_init_2433 : decode cC_Mod_init 2433 = .ok (.bipush (118), 2) := by decide +kernel
theorem dC_Mod_init_2435 : decode cC_Mod_init 2435 = .ok (.iconst (0), 1) := by decide +kernel
theorem dC_Mod_init_2436 : decode cC_Mod_init 2436 = .ok (.iastore, 1) := by decide +kernel
theorem dC_Mod_init_2437 : decode cC_Mod_init 2437 = .ok (.dup, 1) := by decide +kernel
theorem dC_Mod_init_2438 : decode cC_Mod_init 2438 = .ok (.bipush (119), 2) := by decide +kernel
theorem dC_Mod_init_2440 : decode cC_Mod_init 2440 = .ok (.iconst (0), 1) := by decide +kernel
theorem dC_Mod_init_2441 : decode cC_Mod_init 2441 = .ok (.iastore, 1) := by decide +kernel
theorem dC_Mod_init_2442 : decode cC_Mod_init 2442 = .ok (.dup, 1) := by decide +kernel
theorem dC_Mod_init_2443 : decode cC_Mod_init 2443 = .ok (.bipush (120), 2) := by decide +kernel
theorem dC_Mod_init_2445 : decode cC_Mod_init 2445 = .ok (.iconst (0), 1) := by decide +kernel
theorem dC_Mod_init_2446 : decode cC_Mod_init 2446 = .ok (.iastore, 1) := by decide +kernel
theorem dC_Mod_init_2447 : decode cC_Mod_init 2447 = .ok (.dup, 1) := by decide +kernel
theorem dC_Mod_init_2448 : decode cC_Mod_init 2448 = .ok (.bipush (121), 2) := by decide +kernel
theorem dC_Mod_init_2450 : decode cC_Mod_init 2450 = .ok (.iconst (1), 1) := by decide +kernel
theorem dC_Mod_init_2451 : decode cC_Mod_init 2451 = .ok (.iastore, 1) := by decide +kernel
theorem dC_Mod_init_2452 : decode cC_Mod_init 2452 = .ok (.dup, 1) := by decide +kernel
theorem dC_Mod_init_2453 : decode cC_Mod_init 2453 = .ok (.bipush (122), 2) := by decide +kernel
theorem dC_Mod_init_2455 : decode cC_Mod_init 2455 = .ok (.iconst (2), 1) := by decide +kernel
theorem dC_Mod_init_2456 : decode cC_Mod_init 2456 = .ok (.iastore, 1) := by decide +kernel
theorem dC_Mod_init_2457 : decode cC_Mod_init 2457 = .ok (.dup, 1) := by decide +kernel
theorem dC_Mod_init_2458 : decode cC_Mod_init 2458 = .ok (.bipush (123), 2) := by decide +kernel
theorem dC_Mod_init_2460 : decode cC_Mod_init 2460 = .ok (.iconst (4), 1) := by decide +kernel
theorem dC_Mod_init_2461 : decode cC_Mod_init 2461 = .ok (.iastore, 1) := by decide +kernel
theorem dC_Mod_init_2462 : decode cC_Mod_init 2462 = .ok (.dup, 1) := by decide +kernel
theorem dC_Mod_init_2463 : decode cC_Mod_init 2463 = .ok (.bipush (124), 2) := by decide +kernel
theorem dC_Mod_init_2465 : decode cC_Mod_init 2465 = .ok (.iconst (0), 1) := by decide +kernel
theorem dC_Mod_init_2466 : decode cC_Mod_init 2466 = .ok (.iastore, 1) := by decide +kernel
theorem dC_Mod_init_2467 : decode cC_Mod_init 2467 = .ok (.dup, 1) := by decide +kernel
theorem dC_Mod_init_2468 : decode cC_Mod_init 2468 = .ok (.bipush (125), 2) := by decide +kernel
theorem dC_Mod_init_2470 : decode cC_Mod_init 2470 = .ok (.iconst (0), 1) := by decide +kernel
theorem dC_Mod_init_2471 : decode cC_Mod_init 2471 = .ok (.iastore, 1) := by decide +kernel
theorem dC_Mod_init_2472 : decode cC_Mod_init 2472 = .ok (.dup, 1) := by decide +kernel
theorem dC_Mod_init_2473 : decode cC_Mod_init 2473 = .ok (.bipush (126), 2) := by decide +kernel
theorem dC_Mod_init_2475 : decode cC_Mod_init 2475 = .ok (.iconst (0), 1) := by decide +kernel
theorem dC_Mod_init_2476 : decode cC_Mod_init 2476 = .ok (.iastore, 1) := by decide +kernel
theorem dC_Mod_init_2477 : decode cC_Mod_init 2477 = .ok (.dup, 1) := by decide +kernel
theorem dC_Mod_init_2478 : decode cC_Mod_init 2478 = .ok (.bipush (127), 2) := by decide +kernel
theorem dC_Mod_init_2480 : decode cC_Mod_init 2480 = .ok (.iconst (0), 1) := by decide +kernel
theorem dC_Mod_init_2481 : decode cC_Mod_init 2481 = .ok (.iastore, 1) := by decide +kernel
theorem dC_Mod_init_2482 : decode cC_Mod_init 2482 = .ok (.putfield 319, 3) := by decide +kernel
theorem dC_Mod_init_2485 : decode cC_Mod_init 2485 = .ok (.aload_n 0, 1) := by decide +kernel
theorem dC_Mod_init_2486 : decode cC_Mod_init 2486 = .ok (.sipush (4100), 3) := by decide +kernel
theorem dC_Mod_init_2489 : decode cC_Mod_init 2489 = .ok (.newarray .char, 2) := by decide +kernel
theorem dC_Mod_init_2491 : decode cC_Mod_init 2491 = .ok (.putfield 323, 3) := by decide +kernel
theorem dC_Mod_init_2494 : decode cC_Mod_init 2494 = .ok (.aload_n 0, 1) := by decide +kernel
theorem dC_Mod_init_2495 : decode cC_Mod_init 2495 = .ok (.sipush (4100), 3) := by decide +kernel
theorem dC_Mod_init_2498 : decode cC_Mod_init 2498 = .ok (.newarray .char, 2) := by decide +kernel
theorem dC_Mod_init_2500 : decode cC_Mod_init 2500 = .ok (.putfield 327, 3) := by decide +kernel
theorem dC_Mod_init_2503 : decode cC_Mod_init 2503 = .ok (.aload_n 0, 1) := by decide +kernel
theorem dC_Mod_init_2504 : decode cC_Mod_init 2504 = .ok (.sipush (1030), 3) := by decide +kernel
theorem dC_Mod_init_2507 : decode cC_Mod_init 2507 = .ok (.newarray .int, 2) := by decide +kernel
theorem dC_Mod_init_2509 : decode cC_Mod_init 2509 = .ok (.putfield 330, 3) := by decide +kernel
theorem dC_Mod_init_2512 : decode cC_Mod_init 2512 = .ok (.aload_n 0, 1) := by decide +kernel
theorem dC_Mod_init_2513 : decode cC_Mod_init 2513 = .ok (.sipush (1030), 3) := by decide +kernel
theorem dC_Mod_init_2516 : decode cC_Mod_init 2516 = .ok (.newarray .int, 2) := by decide +kernel
theorem dC_Mod_init_2518 : decode cC_Mod_init 2518 = .ok (.putfield 333, 3) := by decide +kernel
theorem dC_Mod_init_2521 : decode cC_Mod_init 2521 = .ok (.aload_n 0, 1) := by decide +kernel
theorem dC_Mod_init_2522 : decode cC_Mod_init 2522 = .ok (.sipush (1030), 3) := by decide +kernel
theorem dC_Mod_init_2525 : decode cC_Mod_init 2525 = .ok (.newarray .int, 2) := by decide +kernel
theorem dC_Mod_init_2527 : decode cC_Mod_init 2527 = .ok (.putfield 336, 3) := by decide +kernel
theorem dC_Mod_init_2530 : decode cC_Mod_init 2530 = .ok (.aload_n 0, 1) := by decide +kernel
theorem dC_Mod_init_2531 : decode cC_Mod_init 2531 = .ok (.sipush (2060), 3) := by decide +kernel
theorem dC_Mod_init_2534 : decode cC_Mod_init 2534 = .ok (.newarray .int, 2) := by decide +kernel
theorem dC_Mod_init_2536 : decode cC_Mod_init 2536 = .ok (.putfield 339, 3) := by decide +kernel
theorem dC_Mod_init_2539 : decode cC_Mod_init 2539 = .ok (.aload_n 0, 1) := by decide +kernel
theorem dC_Mod_init_2540 : decode cC_Mod_init 2540 = .ok (.sipush (2060), 3) := by decide +kernel
theorem dC_Mod_init_2543 : decode cC_Mod_init 2543 = .ok (.newarray .int, 2) := by decide +kernel
theorem dC_Mod_init_2545 : decode cC_Mod_init 2545 = .ok (.putfield 342, 3) := by decide +kernel
theorem dC_Mod_init_2548 : decode cC_Mod_init 2548 = .ok (.aload_n 0, 1) := by decide +kernel
theorem dC_Mod_init_2549 : decode cC_Mod_init 2549 = .ok (.sipush (4100), 3) := by decide +kernel
theorem dC_Mod_init_2552 : decode cC_Mod_init 2552 = .ok (.newarray .int, 2) := by decide +kernel
theorem dC_Mod_init_2554 : decode cC_Mod_init 2554 = .ok (.putfield 345, 3) := by decide +kernel
theorem dC_Mod_init_2557 : decode cC_Mod_init 2557 = .ok (.return_, 1) := by decide +kernel
