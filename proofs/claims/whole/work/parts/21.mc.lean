theorem dX12_oneMore_0 : decode cX12_oneMore 0 = .ok (.iconst 0, 1) := by decide +kernel
theorem dX12_oneMore_1 : decode cX12_oneMore 1 = .ok (.istore_n 3, 1) := by decide +kernel
theorem dX12_oneMore_2 : decode cX12_oneMore 2 = .ok (.iload_n 3, 1) := by decide +kernel
theorem dX12_oneMore_3 : decode cX12_oneMore 3 = .ok (.aload_n 0, 1) := by decide +kernel
theorem dX12_oneMore_4 : decode cX12_oneMore 4 = .ok (.getfield 276, 3) := by decide +kernel
theorem dX12_oneMore_7 : decode cX12_oneMore 7 = .ok (.if_icmp .ge 16, 3) := by decide +kernel
theorem dX12_oneMore_10 : decode cX12_oneMore 10 = .ok (.aload_n 0, 1) := by decide +kernel
theorem dX12_oneMore_11 : decode cX12_oneMore 11 = .ok (.getfield 63, 3) := by decide +kernel
theorem dX12_oneMore_14 : decode cX12_oneMore 14 = .ok (.iload_n 3, 1) := by decide +kernel
theorem dX12_oneMore_15 : decode cX12_oneMore 15 = .ok (.iconst (-1), 1) := by decide +kernel
theorem dX12_oneMore_16 : decode cX12_oneMore 16 = .ok (.iastore, 1) := by decide +kernel
theorem dX12_oneMore_17 : decode cX12_oneMore 17 = .ok (.iinc 3 1, 3) := by decide +kernel
theorem dX12_oneMore_20 : decode cX12_oneMore 20 = .ok (.goto (-18), 3) := by decide +kernel
theorem dX12_oneMore_23 : decode cX12_oneMore 23 = .ok (.iconst 1, 1) := by decide +kernel
theorem dX12_oneMore_24 : decode cX12_oneMore 24 = .ok (.iload_n 1, 1) := by decide +kernel
theorem dX12_oneMore_25 : decode cX12_oneMore 25 = .ok (.ishl, 1) := by decide +kernel
theorem dX12_oneMore_26 : decode cX12_oneMore 26 = .ok (.istore_n 3, 1) := by decide +kernel
theorem dX12_oneMore_27 : decode cX12_oneMore 27 = .ok (.iconst 0, 1) := by decide +kernel
theorem dX12_oneMore_28 : decode cX12_oneMore 28 = .ok (.istore 4, 2) := by decide +kernel
theorem dX12_oneMore_30 : decode cX12_oneMore 30 = .ok (.iload_n 3, 1) := by decide +kernel
theorem dX12_oneMore_31 : decode cX12_oneMore 31 = .ok (.iload 4, 2) := by decide +kernel
theorem dX12_oneMore_33 : decode cX12_oneMore 33 = .ok (.if_icmp .eq 228, 3) := by decide +kernel
theorem dX12_oneMore_36 : decode cX12_oneMore 36 = .ok (.iload_n 3, 1) := by decide +kernel
theorem dX12_oneMore_37 : decode cX12_oneMore 37 = .ok (.istore 4, 2) := by decide +kernel
theorem dX12_oneMore_39 : decode cX12_oneMore 39 = .ok (.iconst 0, 1) := by decide +kernel
theorem dX12_oneMore_40 : decode cX12_oneMore 40 = .ok (.istore 5, 2) := by decide +kernel
theorem dX12_oneMore_42 : decode cX12_oneMore 42 = .ok (.iload 5, 2) := by decide +kernel
theorem dX12_oneMore_44 : decode cX12_oneMore 44 = .ok (.aload_n 0, 1) := by decide +kernel
theorem dX12_oneMore_45 : decode cX12_oneMore 45 = .ok (.getfield 279, 3) := by decide +kernel
theorem dX12_oneMore_48 : decode cX12_oneMore 48 = .ok (.if_icmp .gt 210, 3) := by decide +kernel
theorem dX12_oneMore_51 : decode cX12_oneMore 51 = .ok (.aload_n 0, 1) := by decide +kernel
theorem dX12_oneMore_52 : decode cX12_oneMore 52 = .ok (.iload 5, 2) := by decide +kernel
theorem dX12_oneMore_54 : decode cX12_oneMore 54 = .ok (.invokevirtual 327, 3) := by decide +kernel
theorem dX12_oneMore_57 : decode cX12_oneMore 57 = .ok (.ifCond .ne 6, 3) := by decide +kernel
theorem dX12_oneMore_60 : decode cX12_oneMore 60 = .ok (.goto 192, 3) := by decide +kernel
theorem dX12_oneMore_63 : decode cX12_oneMore 63 = .ok (.aload_n 0, 1) := by decide +kernel
theorem dX12_oneMore_64 : decode cX12_oneMore 64 = .ok (.getfield 66, 3) := by decide +kernel
theorem dX12_oneMore_67 : decode cX12_oneMore 67 = .ok (.iload 5, 2) := by decide +kernel
theorem dX12_oneMore_69 : decode cX12_oneMore 69 = .ok (.iaload, 1) := by decide +kernel
theorem dX12_oneMore_70 : decode cX12_oneMore 70 = .ok (.iconst 2, 1) := by decide +kernel
theorem dX12_oneMore_71 : decode cX12_oneMore 71 = .ok (.if_icmp .eq 13, 3) := by decide +kernel
theorem dX12_oneMore_74 : decode cX12_oneMore 74 = .ok (.aload_n 0, 1) := by decide +kernel
theorem dX12_oneMore_75 : decode cX12_oneMore 75 = .ok (.getfield 66, 3) := by decide +kernel
theorem dX12_oneMore_78 : decode cX12_oneMore 78 = .ok (.iload 5, 2) := by decide +kernel
theorem dX12_oneMore_80 : decode cX12_oneMore 80 = .ok (.iaload, 1) := by decide +kernel
theorem dX12_oneMore_81 : decode cX12_oneMore 81 = .ok (.ifCond .ne 7, 3) := by decide +kernel
theorem dX12_oneMore_84 : decode cX12_oneMore 84 = .ok (.iconst 1, 1) := by decide +kernel
theorem dX12_oneMore_85 : decode cX12_oneMore 85 = .ok (.goto 4, 3) := by decide +kernel
theorem dX12_oneMore_88 : decode cX12_oneMore 88 = .ok (.iconst 0, 1) := by decide +kernel
theorem dX12_oneMore_89 : decode cX12_oneMore 89 = .ok (.istore 6, 2) := by decide +kernel
theorem dX12_oneMore_91 : decode cX12_oneMore 91 = .ok (.aload_n 0, 1) := by decide +kernel
theorem dX12_oneMore_92 : decode cX12_oneMore 92 = .ok (.getfield 66, 3) := by decide +kernel
theorem dX12_oneMore_95 : decode cX12_oneMore 95 = .ok (.iload 5, 2) := by decide +kernel
theorem dX12_oneMore_97 : decode cX12_oneMore 97 = .ok (.iaload, 1) := by decide +kernel
theorem dX12_oneMore_98 : decode cX12_oneMore 98 = .ok (.iconst 1, 1) := by decide +kernel
theorem dX12_oneMore_99 : decode cX12_oneMore 99 = .ok (.if_icmp .eq 23, 3) := by decide +kernel
theorem dX12_oneMore_102 : decode cX12_oneMore 102 = .ok (.aload_n 0, 1) := by decide +kernel
theorem dX12_oneMore_103 : decode cX12_oneMore 103 = .ok (.getfield 66, 3) := by decide +kernel
theorem dX12_oneMore_106 : decode cX12_oneMore 106 = .ok (.iload 5, 2) := by decide +kernel
theorem dX12_oneMore_108 : decode cX12_oneMore 108 = .ok (.iaload, 1) := by decide +kernel
theorem dX12_oneMore_109 : decode cX12_oneMore 109 = .ok (.ifCond .ne 17, 3) := by decide +kernel
theorem dX12_oneMore_112 : decode cX12_oneMore 112 = .ok (.aload_n 0, 1) := by decide +kernel
theorem dX12_oneMore_113 : decode cX12_oneMore 113 = .ok (.getfield 41, 3) := by decide +kernel
theorem dX12_oneMore_116 : decode cX12_oneMore 116 = .ok (.iload 5, 2) := by decide +kernel
theorem dX12_oneMore_118 : decode cX12_oneMore 118 = .ok (.baload, 1) := by decide +kernel
theorem dX12_oneMore_119 : decode cX12_oneMore 119 = .ok (.ifCond .eq 7, 3) := by decide +kernel
theorem dX12_oneMore_122 : decode cX12_oneMore 122 = .ok (.iconst 1, 1) := by decide +kernel
theorem dX12_oneMore_123 : decode cX12_oneMore 123 = .ok (.goto 4, 3) := by decide +kernel
theorem dX12_oneMore_126 : decode cX12_oneMore 126 = .ok (.iconst 0, 1) := by decide +kernel
theorem dX12_oneMore_127 : decode cX12_oneMore 127 = .ok (.istore 7, 2) := by decide +kernel
theorem dX12_oneMore_129 : decode cX12_oneMore 129 = .ok (.iload 6, 2) := by decide +kernel
theorem dX12_oneMore_131 : decode cX12_oneMore 131 = .ok (.ifCond .eq 61, 3) := by decide +kernel
theorem dX12_oneMore_134 : decode cX12_oneMore 134 = .ok (.iload_n 3, 1) := by decide +kernel
theorem dX12_oneMore_135 : decode cX12_oneMore 135 = .ok (.aload_n 0, 1) := by decide +kernel
theorem dX12_oneMore_136 : decode cX12_oneMore 136 = .ok (.getfield 32, 3) := by decide +kernel
theorem dX12_oneMore_139 : decode cX12_oneMore 139 = .ok (.iload 5, 2) := by decide +kernel
theorem dX12_oneMore_141 : decode cX12_oneMore 141 = .ok (.iaload, 1) := by decide +kernel
theorem dX12_oneMore_142 : decode cX12_oneMore 142 = .ok (.ishr, 1) := by decide +kernel
theorem dX12_oneMore_143 : decode cX12_oneMore 143 = .ok (.iconst 1, 1) := by decide +kernel
theorem dX12_oneMore_144 : decode cX12_oneMore 144 = .ok (.iand, 1) := by decide +kernel
theorem dX12_oneMore_145 : decode cX12_oneMore 145 = .ok (.iconst 1, 1) := by decide +kernel
theorem dX12_oneMore_146 : decode cX12_oneMore 146 = .ok (.if_icmp .ne 46, 3) := by decide +kernel
theorem dX12_oneMore_149 : decode cX12_oneMore 149 = .ok (.iload_n 3, 1) := by decide +kernel
theorem dX12_oneMore_150 : decode cX12_oneMore 150 = .ok (.aload_n 0, 1) := by decide +kernel
theorem dX12_oneMore_151 : decode cX12_oneMore 151 = .ok (.getfield 35, 3) := by decide +kernel
theorem dX12_oneMore_154 : decode cX12_oneMore 154 = .ok (.iload 5, 2) := by decide +kernel
theorem dX12_oneMore_156 : decode cX12_oneMore 156 = .ok (.iaload, 1) := by decide +kernel
theorem dX12_oneMore_157 : decode cX12_oneMore 157 = .ok (.ishr, 1) := by decide +kernel
theorem dX12_oneMore_158 : decode cX12_oneMore 158 = .ok (.iconst 1, 1) := by decide +kernel
theorem dX12_oneMore_159 : decode cX12_oneMore 159 = .ok (.iand, 1) := by decide +kernel
theorem dX12_oneMore_160 : decode cX12_oneMore 160 = .ok (.ifCond .ne 32, 3) := by decide +kernel
theorem dX12_oneMore_163 : decode cX12_oneMore 163 = .ok (.iload_n 3, 1) := by decide +kernel
theorem dX12_oneMore_164 : decode cX12_oneMore 164 = .ok (.iconst 1, 1) := by decide +kernel
theorem dX12_oneMore_165 : decode cX12_oneMore 165 = .ok (.aload_n 0, 1) := by decide +kernel
theorem dX12_oneMore_166 : decode cX12_oneMore 166 = .ok (.getfield 35, 3) := by decide +kernel
theorem dX12_oneMore_169 : decode cX12_oneMore 169 = .ok (.iload 5, 2) := by decide +kernel
theorem dX12_oneMore_171 : decode cX12_oneMore 171 = .ok (.iaload, 1) := by decide +kernel
theorem dX12_oneMore_172 : decode cX12_oneMore 172 = .ok (.ishl, 1) := by decide +kernel
theorem dX12_oneMore_173 : decode cX12_oneMore 173 = .ok (.ior, 1) := by decide +kernel
theorem dX12_oneMore_174 : decode cX12_oneMore 174 = .ok (.istore_n 3, 1) := by decide +kernel
theorem dX12_oneMore_175 : decode cX12_oneMore 175 = .ok (.aload_n 0, 1) := by decide +kernel
theorem dX12_oneMore_176 : decode cX12_oneMore 176 = .ok (.getfield 63, 3) := by decide +kernel
theorem dX12_oneMore_179 : decode cX12_oneMore 179 = .ok (.aload_n 0, 1) := by decide +kernel
theorem dX12_oneMore_180 : decode cX12_oneMore 180 = .ok (.getfield 35, 3) := by decide +kernel
theorem dX12_oneMore_183 : decode cX12_oneMore 183 = .ok (.iload 5, 2) := by decide +kernel
theorem dX12_oneMore_185 : decode cX12_oneMore 185 = .ok (.iaload, 1) := by decide +kernel
theorem dX12_oneMore_186 : decode cX12_oneMore 186 = .ok (.iload 5, 2) := by decide +kernel
theorem dX12_oneMore_188 : decode cX12_oneMore 188 = .ok (.iastore, 1) := by decide +kernel
theorem dX12_oneMore_189 : decode cX12_oneMore 189 = .ok (.goto 63, 3) := by decide +kernel
theorem dX12_oneMore_192 : decode cX12_oneMore 192 = .ok (.iload 7, 2) := by decide +kernel
theorem dX12_oneMore_194 : decode cX12_oneMore 194 = .ok (.ifCond .eq 58, 3) := by decide +kernel
theorem dX12_oneMore_197 : decode cX12_oneMore 197 = .ok (.iload_n 3, 1) := by decide +kernel
theorem dX12_oneMore_198 : decode cX12_oneMore 198 = .ok (.aload_n 0, 1) := by decide +kernel
theorem dX12_oneMore_199 : decode cX12_oneMore 199 = .ok (.getfield 35, 3) := by decide +kernel
theorem dX12_oneMore_202 : decode cX12_oneMore 202 = .ok (.iload 5, 2) := by decide +kernel
theorem dX12_oneMore_204 : decode cX12_oneMore 204 = .ok (.iaload, 1) := by decide +kernel
theorem dX12_oneMore_205 : decode cX12_oneMore 205 = .ok (.ishr, 1) := by decide +kernel
theorem dX12_oneMore_206 : decode cX12_oneMore 206 = .ok (.iconst 1, 1) := by decide +kernel
theorem dX12_oneMore_207 : decode cX12_oneMore 207 = .ok (.iand, 1) := by decide +kernel
theorem dX12_oneMore_208 : decode cX12_oneMore 208 = .ok (.iconst 1, 1) := by decide +kernel
theorem dX12_oneMore_209 : decode cX12_oneMore 209 = .ok (.if_icmp .ne 43, 3) := by decide +kernel
theorem dX12_oneMore_212 : decode cX12_oneMore 212 = .ok (.iload_n 3, 1) := by decide +kernel
theorem dX12_oneMore_213 : decode cX12_oneMore 213 = .ok (.aload_n 0, 1) := by decide +kernel
theorem dX12_oneMore_214 : decode cX12_oneMore 214 = .ok (.getfield 32, 3) := by decide +kernel
theorem dX12_oneMore_217 : decode cX12_oneMore 217 = .ok (.iload 5, 2) := by decide +kernel
theorem dX12_oneMore_219 : decode cX12_oneMore 219 = .ok (.iaload, 1) := by decide +kernel
theorem dX12_oneMore_220 : decode cX12_oneMore 220 = .ok (.ishr, 1) := by decide +kernel
theorem dX12_oneMore_221 : decode cX12_oneMore 221 = .ok (.iconst 1, 1) := by decide +kernel
theorem dX12_oneMore_222 : decode cX12_oneMore 222 = .ok (.iand, 1) := by decide +kernel
theorem dX12_oneMore_223 : decode cX12_oneMore 223 = .ok (.ifCond .ne 29, 3) := by decide +kernel
theorem dX12_oneMore_226 : decode cX12_oneMore 226 = .ok (.iload_n 3, 1) := by decide +kernel
theorem dX12_oneMore_227 : decode cX12_oneMore 227 = .ok (.iconst 1, 1) := by decide +kernel
theorem dX12_oneMore_228 : decode cX12_oneMore 228 = .ok (.aload_n 0, 1) := by decide +kernel
theorem dX12_oneMore_229 : decode cX12_oneMore 229 = .ok (.getfield 32, 3) := by decide +kernel
theorem dX12_oneMore_232 : decode cX12_oneMore 232 = .ok (.iload 5, 2) := by decide +kernel
theorem dX12_oneMore_234 : decode cX12_oneMore 234 = .ok (.iaload, 1) := by decide +kernel
theorem dX12_oneMore_235 : decode cX12_oneMore 235 = .ok (.ishl, 1) := by decide +kernel
theorem dX12_oneMore_236 : decode cX12_oneMore 236 = .ok (.ior, 1) := by decide +kernel
theorem dX12_oneMore_237 : decode cX12_oneMore 237 = .ok (.istore_n 3, 1) := by decide +kernel
theorem dX12_oneMore_238 : decode cX12_oneMore 238 = .ok (.aload_n 0, 1) := by decide +kernel
theorem dX12_oneMore_239 : decode cX12_oneMore 239 = .ok (.getfield 63, 3) := by decide +kernel
theorem dX12_oneMore_242 : decode cX12_oneMore 242 = .ok (.aload_n 0, 1) := by decide +kernel
theorem dX12_oneMore_243 : decode cX12_oneMore 243 = .ok (.getfield 32, 3) := by decide +kernel
theorem dX12_oneMore_246 : decode cX12_oneMore 246 = .ok (.iload 5, 2) := by decide +kernel
theorem dX12_oneMore_248 : decode cX12_oneMore 248 = .ok (.iaload, 1) := by decide +kernel
theorem dX12_oneMore_249 : decode cX12_oneMore 249 = .ok (.iload 5, 2) := by decide +kernel
theorem dX12_oneMore_251 : decode cX12_oneMore 251 = .ok (.iastore, 1) := by decide +kernel
theorem dX12_oneMore_252 : decode cX12_oneMore 252 = .ok (.iinc 5 1, 3) := by decide +kernel
theorem dX12_oneMore_255 : decode cX12_oneMore 255 = .ok (.goto (-213), 3) := by decide +kernel
theorem dX12_oneMore_258 : decode cX12_oneMore 258 = .ok (.goto (-228), 3) := by decide +kernel
theorem dX12_oneMore_261 : decode cX12_oneMore 261 = .ok (.iload_n 3, 1) := by decide +kernel
theorem dX12_oneMore_262 : decode cX12_oneMore 262 = .ok (.iload_n 2, 1) := by decide +kernel
theorem dX12_oneMore_263 : decode cX12_oneMore 263 = .ok (.ishr, 1) := by decide +kernel
theorem dX12_oneMore_264 : decode cX12_oneMore 264 = .ok (.iconst 1, 1) := by decide +kernel
theorem dX12_oneMore_265 : decode cX12_oneMore 265 = .ok (.iand, 1) := by decide +kernel
theorem dX12_oneMore_266 : decode cX12_oneMore 266 = .ok (.ifCond .ne 5, 3) := by decide +kernel
theorem dX12_oneMore_269 : decode cX12_oneMore 269 = .ok (.iconst 0, 1) := by decide +kernel
theorem dX12_oneMore_270 : decode cX12_oneMore 270 = .ok (.ireturn, 1) := by decide +kernel
theorem dX12_oneMore_271 : decode cX12_oneMore 271 = .ok (.iload_n 2, 1) := by decide +kernel
theorem dX12_oneMore_272 : decode cX12_oneMore 272 = .ok (.istore 5, 2) := by decide +kernel
theorem dX12_oneMore_274 : decode cX12_oneMore 274 = .ok (.iload 5, 2) := by decide +kernel
theorem dX12_oneMore_276 : decode cX12_oneMore 276 = .ok (.iload_n 1, 1) := by decide +kernel
theorem dX12_oneMore_277 : decode cX12_oneMore 277 = .ok (.if_icmp .eq 89, 3) := by decide +kernel
theorem dX12_oneMore_280 : decode cX12_oneMore 280 = .ok (.aload_n 0, 1) := by decide +kernel
theorem dX12_oneMore_281 : decode cX12_oneMore 281 = .ok (.getfield 63, 3) := by decide +kernel
theorem dX12_oneMore_284 : decode cX12_oneMore 284 = .ok (.iload 5, 2) := by decide +kernel
theorem dX12_oneMore_286 : decode cX12_oneMore 286 = .ok (.iaload, 1) := by decide +kernel
theorem dX12_oneMore_287 : decode cX12_oneMore 287 = .ok (.istore 6, 2) := by decide +kernel
theorem dX12_oneMore_289 : decode cX12_oneMore 289 = .ok (.aload_n 0, 1) := by decide +kernel
theorem dX12_oneMore_290 : decode cX12_oneMore 290 = .ok (.getfield 35, 3) := by decide +kernel
theorem dX12_oneMore_293 : decode cX12_oneMore 293 = .ok (.iload 6, 2) := by decide +kernel
theorem dX12_oneMore_295 : decode cX12_oneMore 295 = .ok (.iaload, 1) := by decide +kernel
theorem dX12_oneMore_296 : decode cX12_oneMore 296 = .ok (.iload 5, 2) := by decide +kernel
theorem dX12_oneMore_298 : decode cX12_oneMore 298 = .ok (.if_icmp .ne 7, 3) := by decide +kernel
theorem dX12_oneMore_301 : decode cX12_oneMore 301 = .ok (.iconst 1, 1) := by decide +kernel
theorem dX12_oneMore_302 : decode cX12_oneMore 302 = .ok (.goto 4, 3) := by decide +kernel
theorem dX12_oneMore_305 : decode cX12_oneMore 305 = .ok (.iconst 0, 1) := by decide +kernel
theorem dX12_oneMore_306 : decode cX12_oneMore 306 = .ok (.istore 7, 2) := by decide +kernel
theorem dX12_oneMore_308 : decode cX12_oneMore 308 = .ok (.aload_n 0, 1) := by decide +kernel
theorem dX12_oneMore_309 : decode cX12_oneMore 309 = .ok (.getfield 66, 3) := by decide +kernel
theorem dX12_oneMore_312 : decode cX12_oneMore 312 = .ok (.iload 6, 2) := by decide +kernel
theorem dX12_oneMore_314 : decode cX12_oneMore 314 = .ok (.aload_n 0, 1) := by decide +kernel
theorem dX12_oneMore_315 : decode cX12_oneMore 315 = .ok (.getfield 66, 3) := by decide +kernel
theorem dX12_oneMore_318 : decode cX12_oneMore 318 = .ok (.iload 6, 2) := by decide +kernel
theorem dX12_oneMore_320 : decode cX12_oneMore 320 = .ok (.iaload, 1) := by decide +kernel
theorem dX12_oneMore_321 : decode cX12_oneMore 321 = .ok (.ifCond .le 7, 3) := by decide +kernel
theorem dX12_oneMore_324 : decode cX12_oneMore 324 = .ok (.iconst 0, 1) := by decide +kernel
theorem dX12_oneMore_325 : decode cX12_oneMore 325 = .ok (.goto 13, 3) := by decide +kernel
theorem dX12_oneMore_328 : decode cX12_oneMore 328 = .ok (.iload 7, 2) := by decide +kernel
theorem dX12_oneMore_330 : decode cX12_oneMore 330 = .ok (.ifCond .eq 7, 3) := by decide +kernel
theorem dX12_oneMore_333 : decode cX12_oneMore 333 = .ok (.iconst 1, 1) := by decide +kernel
theorem dX12_oneMore_334 : decode cX12_oneMore 334 = .ok (.goto 4, 3) := by decide +kernel
theorem dX12_oneMore_337 : decode cX12_oneMore 337 = .ok (.iconst 2, 1) := by decide +kernel
theorem dX12_oneMore_338 : decode cX12_oneMore 338 = .ok (.iastore, 1) := by decide +kernel
theorem dX12_oneMore_339 : decode cX12_oneMore 339 = .ok (.iload 7, 2) := by decide +kernel
theorem dX12_oneMore_341 : decode cX12_oneMore 341 = .ok (.ifCond .eq 13, 3) := by decide +kernel
theorem dX12_oneMore_344 : decode cX12_oneMore 344 = .ok (.aload_n 0, 1) := by decide +kernel
theorem dX12_oneMore_345 : decode cX12_oneMore 345 = .ok (.getfield 32, 3) := by decide +kernel
theorem dX12_oneMore_348 : decode cX12_oneMore 348 = .ok (.iload 6, 2) := by decide +kernel
theorem dX12_oneMore_350 : decode cX12_oneMore 350 = .ok (.iaload, 1) := by decide +kernel
theorem dX12_oneMore_351 : decode cX12_oneMore 351 = .ok (.goto 10, 3) := by decide +kernel
theorem dX12_oneMore_354 : decode cX12_oneMore 354 = .ok (.aload_n 0, 1) := by decide +kernel
theorem dX12_oneMore_355 : decode cX12_oneMore 355 = .ok (.getfield 35, 3) := by decide +kernel
theorem dX12_oneMore_358 : decode cX12_oneMore 358 = .ok (.iload 6, 2) := by decide +kernel
theorem dX12_oneMore_360 : decode cX12_oneMore 360 = .ok (.iaload, 1) := by decide +kernel
theorem dX12_oneMore_361 : decode cX12_oneMore 361 = .ok (.istore 5, 2) := by decide +kernel
theorem dX12_oneMore_363 : decode cX12_oneMore 363 = .ok (.goto (-89), 3) := by decide +kernel
theorem dX12_oneMore_366 : decode cX12_oneMore 366 = .ok (.iconst 1, 1) := by decide +kernel
theorem dX12_oneMore_367 : decode cX12_oneMore 367 = .ok (.ireturn, 1) := by decide +kernel
abbrev o_X12_oneMore : Type := Int32 × (Nat → Int32) × (Nat → Int32)
def f_X12_oneMore_L274 (S : wd_W) (p1 : Int32) (a5 : Nat → Int32) (r9 : (Int32) → (Nat → Int32) → (Option o_X12_oneMore)) (x7 : Int32) (a8 : Nat → Int32) : Option o_X12_oneMore :=
if x7 = p1 then (
some ((1 : Int32), a5, a8)) else (
gd (okx x7 10) <|
lz (a5 x7.toNatClampNeg) fun x11 =>
gd (okx x11 13) <|
lk (fun x13 =>
gd (okx x11 13) <|
lk (fun x16 x17 =>
gd (okx x17 13) <|
lz (upd a8 x17.toNatClampNeg x16) fun a20 =>
lk (fun x21 =>
r9 x21 a20) fun k361_22 =>
if x13 = 0 then (
gd (okx x11 13) <|
k361_22 ((S.2.2.1 9) x11.toNatClampNeg)) else (
gd (okx x11 13) <|
k361_22 ((S.2.2.1 8) x11.toNatClampNeg))) fun k338_18 =>
if (a8 x11.toNatClampNeg) ≤ 0 then (
if x13 = 0 then (
k338_18 (2 : Int32) x11) else (
k338_18 (1 : Int32) x11)) else (
k338_18 (0 : Int32) x11)) fun k306_14 =>
if ((S.2.2.1 9) x11.toNatClampNeg) = x7 then (
k306_14 (1 : Int32)) else (
k306_14 (0 : Int32)))
def f_X12_oneMore_L42 (S : wd_W) (k258_38 : (Int32) → (Nat → Int32) → (Option o_X12_oneMore)) (r42 : (Int32) → (Int32) → (Nat → Int32) → (Option o_X12_oneMore)) (x39 : Int32) (x40 : Int32) (a41 : Nat → Int32) : Option o_X12_oneMore :=
if (S.1 21) < x40 then (
k258_38 x39 a41) else (
bd (f_X12_isOpen (wd_o S [] [] [(18, a41), (19, (S.2.2.1 19))] [] []) x40) fun o43 =>
lk (fun x44 a45 =>
r42 x44 (x40 + (1 : Int32)) a45) fun k252_46 =>
if o43 = 0 then (
k252_46 x39 a41) else (
gd (okx x40 13) <|
lk (fun x48 =>
gd (okx x40 13) <|
lk (fun x51 =>
lk (if x51 = 0 then (
k252_46 x39 a41) else (
gd (okx x40 13) <|
if ((x39 >>> (((S.2.2.1 9) x40.toNatClampNeg) &&& 31)) &&& (1 : Int32)) = (1 : Int32) then (
gd (okx x40 13) <|
if ((x39 >>> (((S.2.2.1 8) x40.toNatClampNeg) &&& 31)) &&& (1 : Int32)) = 0 then (
gd (okx x40 13) <|
lz (x39 ||| ((1 : Int32) <<< (((S.2.2.1 8) x40.toNatClampNeg) &&& 31))) fun x57 =>
gd (okx x40 13) <|
gd (okx ((S.2.2.1 8) x40.toNatClampNeg) 10) <|
lz (upd a41 ((S.2.2.1 8) x40.toNatClampNeg).toNatClampNeg x40) fun a60 =>
k252_46 x57 a60) else (
k252_46 x39 a41)) else (
k252_46 x39 a41))) fun k192_53 =>
if x48 = 0 then (
k192_53) else (
gd (okx x40 13) <|
if ((x39 >>> (((S.2.2.1 8) x40.toNatClampNeg) &&& 31)) &&& (1 : Int32)) = (1 : Int32) then (
gd (okx x40 13) <|
if ((x39 >>> (((S.2.2.1 9) x40.toNatClampNeg) &&& 31)) &&& (1 : Int32)) = 0 then (
gd (okx x40 13) <|
lz (x39 ||| ((1 : Int32) <<< (((S.2.2.1 9) x40.toNatClampNeg) &&& 31))) fun x67 =>
gd (okx x40 13) <|
gd (okx ((S.2.2.1 9) x40.toNatClampNeg) 10) <|
lz (upd a41 ((S.2.2.1 9) x40.toNatClampNeg).toNatClampNeg x40) fun a70 =>
k252_46 x67 a70) else (
k192_53)) else (
k192_53))) fun k127_52 =>
lk (k127_52 (1 : Int32)) fun k122_74 =>
if ((S.2.2.1 19) x40.toNatClampNeg) = (1 : Int32) then (
k122_74) else (
gd (okx x40 13) <|
lk (k127_52 (0 : Int32)) fun k126_76 =>
if ((S.2.2.1 19) x40.toNatClampNeg) = 0 then (
gd (okx x40 13) <|
if ((S.2.2.1 11) x40.toNatClampNeg) = 0 then (
k126_76) else (
k122_74)) else (
k126_76))) fun k89_49 =>
lk (k89_49 (1 : Int32)) fun k84_81 =>
if ((S.2.2.1 19) x40.toNatClampNeg) = (2 : Int32) then (
k84_81) else (
gd (okx x40 13) <|
if ((S.2.2.1 19) x40.toNatClampNeg) = 0 then (
k84_81) else (
k89_49 (0 : Int32)))))
def f_X12_oneMore_L30 (S : wd_W) (k261_6 : (Int32) → (Nat → Int32) → (Option o_X12_oneMore)) (r35 : (Int32) → (Int32) → (Nat → Int32) → (Option o_X12_oneMore)) (x32 : Int32) (x33 : Int32) (a34 : Nat → Int32) : Option o_X12_oneMore :=
if x32 = x33 then (
k261_6 x32 a34) else (
lk (fun x36 a37 =>
r35 x36 x32 a37) fun k258_38 =>
it3 (f_X12_oneMore_L42 S k258_38) fuel x32 (0 : Int32) a34)
def f_X12_oneMore_L2 (S : wd_W) (k23_2 : (Nat → Int32) → (Option o_X12_oneMore)) (r92 : (Int32) → (Nat → Int32) → (Option o_X12_oneMore)) (x90 : Int32) (a91 : Nat → Int32) : Option o_X12_oneMore :=
if (S.1 20) ≤ x90 then (
k23_2 a91) else (
gd (okx x90 10) <|
lz (upd a91 x90.toNatClampNeg (-1 : Int32)) fun a94 =>
r92 (x90 + (1 : Int32)) a94)
def f_X12_oneMore (S : wd_W) (p1 : Int32) (p2 : Int32) : Option o_X12_oneMore :=
lk (fun a1 =>
lz ((1 : Int32) <<< (p1 &&& 31)) fun x3 =>
lk (fun x4 a5 =>
if ((x4 >>> (p2 &&& 31)) &&& (1 : Int32)) = 0 then (
some ((0 : Int32), a5, (S.2.2.1 19))) else (
it2 (f_X12_oneMore_L274 S p1 a5) fuel p2 (S.2.2.1 19))) fun k261_6 =>
it3 (f_X12_oneMore_L30 S k261_6) fuel x3 (0 : Int32) a1) fun k23_2 =>
it2 (f_X12_oneMore_L2 S k23_2) fuel (0 : Int32) (S.2.2.1 18)
set_option maxRecDepth 100000 in
set_option maxHeartbeats 4000000 in
theorem c_X12_oneMore (l : Launch) (D : va_G) (q g : Nat → Nat) (cy : Nat → ClassId) (z : (Nat → Nat) × (Nat → Nat) × Nat) (S : wd_W) (p1 : Int32) (p2 : Int32) (o : o_X12_oneMore) (hf : f_X12_oneMore S p1 p2 = some o) : MX layM l yX12_oneMore cX12_oneMore 8 (some .boolean) ({ frames := 1, cells := 0, slots := 0, locals := 21 } : Room) D q g cy z [.ref (q 0), .int p1, .int p2] S (some (.int o.1)) (wd_o S [] [] [(18, o.2.1), (19, o.2.2)] [] []) 0 0 := by
  refine mx_of (own := RX12) (lc := [(0, .ref (q 0)), (1, .int p1), (2, .int p2)]) (by decide +kernel) rfl layM_ok (Nat.le_of_ble_eq_true rfl) rfl ?_
  intro X hXl hXq hXS hC hQ
  subst hXl; subst hXq; subst hXS
  unfold f_X12_oneMore at hf
  refine go_keys (L1 := []) (L2 := []) (L3 := [(18, ((x_S X).2.2.1 18)), (19, ((x_S X).2.2.1 19))]) (L4 := []) (L5 := []) [] [] [18, 19] [] [] rfl rfl rfl rfl rfl ?_
  refine go_iconst (pc' := 1) hC dX12_oneMore_0 ki_0 rfl ?_
  refine go_istore_n (lc' := [(0, .ref (x_q X 0)), (1, .int p1), (2, .int p2), (3, .int (0 : Int32))]) (pc' := 2) hC dX12_oneMore_1 (Nat.le_of_ble_eq_true rfl) rfl rfl ?_
  obtain ⟨k23_2, hk23_2, hf⟩ := lk_e1 hf
  have jk23_2 : ∀ (a1 : Nat → Int32) (g : Nat → Nat), k23_2 a1 = some o → Go X layM 23 [(0, .ref (x_q X 0)), (1, .int p1), (2, .int p2)] [] g [] [] [(18, a1), (19, ((x_S X).2.2.1 19))] [] [] 0 0 := by
    intro a1 g hf
    have hf := hk23_2 a1 hf
    clear hk23_2
    refine go_iconst (pc' := 24) hC dX12_oneMore_23 ki_1 rfl ?_
    refine go_iload_n (pc' := 25) hC dX12_oneMore_24 rfl rfl ?_
    refine go_ishl (pc' := 26) hC dX12_oneMore_25 rfl ?_
    refine go_namei (fun x3 hx => ?_)
    have hf := lz_r hx hf
    clear hx
    refine go_istore_n (lc' := [(0, .ref (x_q X 0)), (1, .int p1), (2, .int p2), (3, .int x3)]) (pc' := 27) hC dX12_oneMore_26 (Nat.le_of_ble_eq_true rfl) rfl rfl ?_
    refine go_iconst (pc' := 28) hC dX12_oneMore_27 ki_0 rfl ?_
    refine go_istore (lc' := [(0, .ref (x_q X 0)), (1, .int p1), (2, .int p2), (3, .int x3), (4, .int (0 : Int32))]) (pc' := 30) hC dX12_oneMore_28 (Nat.le_of_ble_eq_true rfl) rfl rfl ?_
    obtain ⟨k261_6, hk261_6, hf⟩ := lk_e2 hf
    have jk261_6 : ∀ (x4 : Int32) (a5 : Nat → Int32) (g : Nat → Nat), k261_6 x4 a5 = some o → Go X layM 261 [(0, .ref (x_q X 0)), (1, .int p1), (2, .int p2), (3, .int x4)] [] g [] [] [(18, a5), (19, ((x_S X).2.2.1 19))] [] [] 0 0 := by
      intro x4 a5 g hf
      have hf := hk261_6 x4 a5 hf
      clear hk261_6
      refine go_iload_n (pc' := 262) hC dX12_oneMore_261 rfl rfl ?_
      refine go_iload_n (pc' := 263) hC dX12_oneMore_262 rfl rfl ?_
      refine go_ishr (pc' := 264) hC dX12_oneMore_263 rfl ?_
      refine go_iconst (pc' := 265) hC dX12_oneMore_264 ki_1 rfl ?_
      refine go_iand (pc' := 266) hC dX12_oneMore_265 rfl ?_
      refine go_if_ne (tgt := 271) (pc' := 269) hC dX12_oneMore_266 (by decide) rfl (fun h31 => ?_) (fun h31 => ?_)
      · have hf := ite_f h31 hf
        refine go_iload_n (pc' := 272) hC dX12_oneMore_271 rfl rfl ?_
        refine go_istore (lc' := [(0, .ref (x_q X 0)), (1, .int p1), (2, .int p2), (3, .int x4), (5, .int p2)]) (pc' := 274) hC dX12_oneMore_272 (Nat.le_of_ble_eq_true rfl) rfl rfl ?_
        have l274_30 : ∀ (nn : Nat) (x7 : Int32) (a8 : Nat → Int32) (g : Nat → Nat), it2 (f_X12_oneMore_L274 (x_S X) p1 a5) nn x7 a8 = some o → Go X layM 274 [(0, .ref (x_q X 0)), (1, .int p1), (5, .int x7)] [] g [] [] [(18, a5), (19, a8)] [] [] 0 0 := by
          intro nn
          induction nn with
          | zero =>
            intro x7 a8 g hf
            exact none_no hf
          | succ nn ih =>
            intro x7 a8 g hf
            have hf : f_X12_oneMore_L274 (x_S X) p1 a5 (it2 (f_X12_oneMore_L274 (x_S X) p1 a5) nn) x7 a8 = some o := hf
            generalize it2 (f_X12_oneMore_L274 (x_S X) p1 a5) nn = r9 at ih hf
            unfold f_X12_oneMore_L274 at hf
            refine go_iload (pc' := 276) hC dX12_oneMore_274 rfl rfl ?_
            refine go_iload_n (pc' := 277) hC dX12_oneMore_276 rfl rfl ?_
            refine go_icmp_eq (tgt := 366) (pc' := 280) hC dX12_oneMore_277 (by decide) rfl (fun h29 => ?_) (fun h29 => ?_)
            · have hf := ite_t h29 hf
              refine go_iconst (pc' := 367) hC dX12_oneMore_366 ki_1 rfl ?_
              obtain rfl := Option.some.inj hf
              exact go_iret hC hQ dX12_oneMore_367 rfl rfl rfl rfl rfl rfl
            · have hf := ite_f h29 hf
              refine go_aload_n (pc' := 281) hC dX12_oneMore_280 rfl rfl ?_
              refine go_getq (pc' := 284) hC 0 41 layM_0 rfl rfl inlX12 (Nat.le_of_ble_eq_true rfl) mw_198 rfl dX12_oneMore_281 rfl ?_
              refine go_iload (pc' := 286) hC dX12_oneMore_284 rfl rfl ?_
              obtain ⟨h10, hf⟩ := gd_e hf
              refine go_iald (f := a5) (pc' := 287) hC 18 layM_18 rfl rfl dX12_oneMore_286 (okx_in h10) rfl ?_
              refine go_namei (fun x11 hx => ?_)
              have hf := lz_r hx hf
              clear hx
              refine go_istore (lc' := [(0, .ref (x_q X 0)), (1, .int p1), (5, .int x7), (6, .int x11)]) (pc' := 289) hC dX12_oneMore_287 (Nat.le_of_ble_eq_true rfl) rfl rfl ?_
              refine go_aload_n (pc' := 290) hC dX12_oneMore_289 rfl rfl ?_
              refine go_getq (pc' := 293) hC 0 23 layM_0 rfl rfl inlX12 (Nat.le_of_ble_eq_true rfl) mw_188 rfl dX12_oneMore_290 rfl ?_
              refine go_iload (pc' := 295) hC dX12_oneMore_293 rfl rfl ?_
              obtain ⟨h12, hf⟩ := gd_e hf
              refine go_iald (f := ((x_S X).2.2.1 9)) (pc' := 296) hC 9 layM_9 rfl rfl dX12_oneMore_295 (okx_in h12) rfl ?_
              refine go_iload (pc' := 298) hC dX12_oneMore_296 rfl rfl ?_
              obtain ⟨k306_14, hk306_14, hf⟩ := lk_e1 hf
              have jk306_14 : ∀ (x13 : Int32) (g : Nat → Nat), k306_14 x13 = some o → Go X layM 306 [(0, .ref (x_q X 0)), (1, .int p1), (6, .int x11)] [.int x13] g [] [] [(18, a5), (19, a8)] [] [] 0 0 := by
                intro x13 g hf
                have hf := hk306_14 x13 hf
                clear hk306_14
                refine go_istore (lc' := [(0, .ref (x_q X 0)), (1, .int p1), (6, .int x11), (7, .int x13)]) (pc' := 308) hC dX12_oneMore_306 (Nat.le_of_ble_eq_true rfl) rfl rfl ?_
                refine go_aload_n (pc' := 309) hC dX12_oneMore_308 rfl rfl ?_
                refine go_getq (pc' := 312) hC 0 42 layM_0 rfl rfl inlX12 (Nat.le_of_ble_eq_true rfl) mw_199 rfl dX12_oneMore_309 rfl ?_
                refine go_iload (pc' := 314) hC dX12_oneMore_312 rfl rfl ?_
                refine go_aload_n (pc' := 315) hC dX12_oneMore_314 rfl rfl ?_
                refine go_getq (pc' := 318) hC 0 42 layM_0 rfl rfl inlX12 (Nat.le_of_ble_eq_true rfl) mw_199 rfl dX12_oneMore_315 rfl ?_
                refine go_iload (pc' := 320) hC dX12_oneMore_318 rfl rfl ?_
                obtain ⟨h15, hf⟩ := gd_e hf
                refine go_iald (f := a8) (pc' := 321) hC 19 layM_19 rfl rfl dX12_oneMore_320 (okx_in h15) rfl ?_
                obtain ⟨k338_18, hk338_18, hf⟩ := lk_e2 hf
                have jk338_18 : ∀ (x16 : Int32) (x17 : Int32) (g : Nat → Nat), k338_18 x16 x17 = some o → Go X layM 338 [(0, .ref (x_q X 0)), (1, .int p1), (6, .int x11), (7, .int x13)] [.int x16, .int x17, .ref (x_q X 19)] g [] [] [(18, a5), (19, a8)] [] [] 0 0 := by
                  intro x16 x17 g hf
                  have hf := hk338_18 x16 x17 hf
                  clear hk338_18
                  obtain ⟨h19, hf⟩ := gd_e hf
                  refine go_iast (f := a8) (pc' := 339) hC 19 layM_19 rfl rfl dX12_oneMore_338 (okx_in h19) rfl rfl (fun a20 ha L3' hL => ?_)
                  have hf := lz_r ha hf
                  clear ha
                  obtain rfl : L3' = [(18, a5), (19, a20)] := hL.symm
                  refine go_iload (pc' := 341) hC dX12_oneMore_339 rfl rfl ?_
                  obtain ⟨k361_22, hk361_22, hf⟩ := lk_e1 hf
                  have jk361_22 : ∀ (x21 : Int32) (g : Nat → Nat), k361_22 x21 = some o → Go X layM 361 [(0, .ref (x_q X 0)), (1, .int p1)] [.int x21] g [] [] [(18, a5), (19, a20)] [] [] 0 0 := by
                    intro x21 g hf
                    have hf := hk361_22 x21 hf
                    clear hk361_22
                    refine go_istore (lc' := [(0, .ref (x_q X 0)), (1, .int p1), (5, .int x21)]) (pc' := 363) hC dX12_oneMore_361 (Nat.le_of_ble_eq_true rfl) rfl rfl ?_
                    refine go_goto (tgt := 274) hC dX12_oneMore_363 (by decide) ?_
                    exact ih x21 a20 g hf
                  clear hk361_22
                  refine go_if_eq (tgt := 354) (pc' := 344) hC dX12_oneMore_341 (by decide) rfl (fun h25 => ?_) (fun h25 => ?_)
                  · have hf := ite_t h25 hf
                    refine go_aload_n (pc' := 355) hC dX12_oneMore_354 rfl rfl ?_
                    refine go_getq (pc' := 358) hC 0 23 layM_0 rfl rfl inlX12 (Nat.le_of_ble_eq_true rfl) mw_188 rfl dX12_oneMore_355 rfl ?_
                    refine go_iload (pc' := 360) hC dX12_oneMore_358 rfl rfl ?_
                    obtain ⟨h23, hf⟩ := gd_e hf
                    refine go_iald (f := ((x_S X).2.2.1 9)) (pc' := 361) hC 9 layM_9 rfl rfl dX12_oneMore_360 (okx_in h23) rfl ?_
                    refine go_sub [0, 1] rfl ?_
                    exact jk361_22 (((x_S X).2.2.1 9) x11.toNatClampNeg) g hf
                  · have hf := ite_f h25 hf
                    refine go_aload_n (pc' := 345) hC dX12_oneMore_344 rfl rfl ?_
                    refine go_getq (pc' := 348) hC 0 22 layM_0 rfl rfl inlX12 (Nat.le_of_ble_eq_true rfl) mw_187 rfl dX12_oneMore_345 rfl ?_
                    refine go_iload (pc' := 350) hC dX12_oneMore_348 rfl rfl ?_
                    obtain ⟨h24, hf⟩ := gd_e hf
                    refine go_iald (f := ((x_S X).2.2.1 8)) (pc' := 351) hC 8 layM_8 rfl rfl dX12_oneMore_350 (okx_in h24) rfl ?_
                    refine go_goto (tgt := 361) hC dX12_oneMore_351 (by decide) ?_
                    refine go_sub [0, 1] rfl ?_
                    exact jk361_22 (((x_S X).2.2.1 8) x11.toNatClampNeg) g hf
                clear hk338_18
                refine go_if_le (tgt := 328) (pc' := 324) hC dX12_oneMore_321 (by decide) rfl (fun h27 => ?_) (fun h27 => ?_)
                · have hf := ite_t h27 hf
                  refine go_iload (pc' := 330) hC dX12_oneMore_328 rfl rfl ?_
                  refine go_if_eq (tgt := 337) (pc' := 333) hC dX12_oneMore_330 (by decide) rfl (fun h26 => ?_) (fun h26 => ?_)
                  · have hf := ite_t h26 hf
                    refine go_iconst (pc' := 338) hC dX12_oneMore_337 ki_2 rfl ?_
                    exact jk338_18 (2 : Int32) x11 g hf
                  · have hf := ite_f h26 hf
                    refine go_iconst (pc' := 334) hC dX12_oneMore_333 ki_1 rfl ?_
                    refine go_goto (tgt := 338) hC dX12_oneMore_334 (by decide) ?_
                    exact jk338_18 (1 : Int32) x11 g hf
                · have hf := ite_f h27 hf
                  refine go_iconst (pc' := 325) hC dX12_oneMore_324 ki_0 rfl ?_
                  refine go_goto (tgt := 338) hC dX12_oneMore_325 (by decide) ?_
                  exact jk338_18 (0 : Int32) x11 g hf
              clear hk306_14
              refine go_icmp_ne (tgt := 305) (pc' := 301) hC dX12_oneMore_298 (by decide) rfl (fun h28 => ?_) (fun h28 => ?_)
              · have hf := ite_f h28 hf
                refine go_iconst (pc' := 306) hC dX12_oneMore_305 ki_0 rfl ?_
                refine go_sub [0, 1, 6] rfl ?_
                exact jk306_14 (0 : Int32) g hf
              · have hf := ite_t h28 hf
                refine go_iconst (pc' := 302) hC dX12_oneMore_301 ki_1 rfl ?_
                refine go_goto (tgt := 306) hC dX12_oneMore_302 (by decide) ?_
                refine go_sub [0, 1, 6] rfl ?_
                exact jk306_14 (1 : Int32) g hf
        refine go_sub [0, 1, 5] rfl ?_
        exact l274_30 fuel p2 ((x_S X).2.2.1 19) g hf
      · have hf := ite_t h31 hf
        refine go_iconst (pc' := 270) hC dX12_oneMore_269 ki_0 rfl ?_
        obtain rfl := Option.some.inj hf
        exact go_iret hC hQ dX12_oneMore_270 rfl rfl rfl rfl rfl rfl
    clear hk261_6
    have l30_89 : ∀ (nn : Nat) (x32 : Int32) (x33 : Int32) (a34 : Nat → Int32) (g : Nat → Nat), it3 (f_X12_oneMore_L30 (x_S X) k261_6) nn x32 x33 a34 = some o → Go X layM 30 [(0, .ref (x_q X 0)), (1, .int p1), (2, .int p2), (3, .int x32), (4, .int x33)] [] g [] [] [(18, a34), (19, ((x_S X).2.2.1 19))] [] [] 0 0 := by
      intro nn
      induction nn with
      | zero =>
        intro x32 x33 a34 g hf
        exact none_no hf
      | succ nn ih =>
        intro x32 x33 a34 g hf
        have hf : f_X12_oneMore_L30 (x_S X) k261_6 (it3 (f_X12_oneMore_L30 (x_S X) k261_6) nn) x32 x33 a34 = some o := hf
        generalize it3 (f_X12_oneMore_L30 (x_S X) k261_6) nn = r35 at ih hf
        unfold f_X12_oneMore_L30 at hf
        refine go_iload_n (pc' := 31) hC dX12_oneMore_30 rfl rfl ?_
        refine go_iload (pc' := 33) hC dX12_oneMore_31 rfl rfl ?_
        refine go_icmp_eq (tgt := 261) (pc' := 36) hC dX12_oneMore_33 (by decide) rfl (fun h88 => ?_) (fun h88 => ?_)
        · have hf := ite_t h88 hf
          refine go_sub [0, 1, 2, 3] rfl ?_
          exact jk261_6 x32 a34 g hf
        · have hf := ite_f h88 hf
          refine go_iload_n (pc' := 37) hC dX12_oneMore_36 rfl rfl ?_
          refine go_istore (lc' := [(0, .ref (x_q X 0)), (1, .int p1), (2, .int p2), (3, .int x32), (4, .int x32)]) (pc' := 39) hC dX12_oneMore_37 (Nat.le_of_ble_eq_true rfl) rfl rfl ?_
          refine go_iconst (pc' := 40) hC dX12_oneMore_39 ki_0 rfl ?_
          refine go_istore (lc' := [(0, .ref (x_q X 0)), (1, .int p1), (2, .int p2), (3, .int x32), (4, .int x32), (5, .int (0 : Int32))]) (pc' := 42) hC dX12_oneMore_40 (Nat.le_of_ble_eq_true rfl) rfl rfl ?_
          obtain ⟨k258_38, hk258_38, hf⟩ := lk_e2 hf
          have jk258_38 : ∀ (x36 : Int32) (a37 : Nat → Int32) (g : Nat → Nat), k258_38 x36 a37 = some o → Go X layM 258 [(0, .ref (x_q X 0)), (1, .int p1), (2, .int p2), (3, .int x36), (4, .int x32)] [] g [] [] [(18, a37), (19, ((x_S X).2.2.1 19))] [] [] 0 0 := by
            intro x36 a37 g hf
            have hf := hk258_38 x36 a37 hf
            clear hk258_38
            refine go_goto (tgt := 30) hC dX12_oneMore_258 (by decide) ?_
            exact ih x36 x32 a37 g hf
          clear hk258_38
          have l42_87 : ∀ (nn : Nat) (x39 : Int32) (x40 : Int32) (a41 : Nat → Int32) (g : Nat → Nat), it3 (f_X12_oneMore_L42 (x_S X) k258_38) nn x39 x40 a41 = some o → Go X layM 42 [(0, .ref (x_q X 0)), (1, .int p1), (2, .int p2), (3, .int x39), (4, .int x32), (5, .int x40)] [] g [] [] [(18, a41), (19, ((x_S X).2.2.1 19))] [] [] 0 0 := by
            intro nn
            induction nn with
            | zero =>
              intro x39 x40 a41 g hf
              exact none_no hf
            | succ nn ih =>
              intro x39 x40 a41 g hf
              have hf : f_X12_oneMore_L42 (x_S X) k258_38 (it3 (f_X12_oneMore_L42 (x_S X) k258_38) nn) x39 x40 a41 = some o := hf
              generalize it3 (f_X12_oneMore_L42 (x_S X) k258_38) nn = r42 at ih hf
              unfold f_X12_oneMore_L42 at hf
              refine go_iload (pc' := 44) hC dX12_oneMore_42 rfl rfl ?_
              refine go_aload_n (pc' := 45) hC dX12_oneMore_44 rfl rfl ?_
              refine go_geti (v := ((x_S X).1 21)) (pc' := 48) hC 0 21 layM_0 rfl rfl inlX12 (Nat.le_of_ble_eq_true rfl) mw_247 rfl dX12_oneMore_45 rfl rfl ?_
              refine go_icmp_gt (tgt := 258) (pc' := 51) hC dX12_oneMore_48 (by decide) rfl (fun h86 => ?_) (fun h86 => ?_)
              · have hf := ite_t h86 hf
                refine go_sub [0, 1, 2, 3, 4] rfl ?_
                exact jk258_38 x39 a41 g hf
              · have hf := ite_f h86 hf
                refine go_aload_n (pc' := 52) hC dX12_oneMore_51 rfl rfl ?_
                refine go_iload (pc' := 54) hC dX12_oneMore_52 rfl rfl ?_
                obtain ⟨o43, ho43, hf⟩ := bd_e hf
                refine go_callV0 (pc' := 57) (As := [.int x40]) (st := []) (st' := [.int o43])   (b := 0) hC dX12_oneMore_54 ⟨mw_886, mw_889, mw_5, yd_yX12_isOpen, yp_yX12_isOpen, Nat.le_of_ble_eq_true rfl, Nat.le_of_ble_eq_true rfl, Nat.le_of_ble_eq_true rfl, Nat.le_of_ble_eq_true rfl⟩ mw_887 mw_888 layM_0 rfl rfl rfl (Nat.le_of_ble_eq_true rfl) (c_X12_isOpen (x_l X) (x_D X) (x_q X) g (x_cy X) (x_z X) _ x40 o43 ho43) rfl rfl (fun g => ?_)
                obtain ⟨k252_46, hk252_46, hf⟩ := lk_e2 hf
                have jk252_46 : ∀ (x44 : Int32) (a45 : Nat → Int32) (g : Nat → Nat), k252_46 x44 a45 = some o → Go X layM 252 [(0, .ref (x_q X 0)), (1, .int p1), (2, .int p2), (3, .int x44), (4, .int x32), (5, .int x40)] [] g [] [] [(18, a45), (19, ((x_S X).2.2.1 19))] [] [] 0 0 := by
                  intro x44 a45 g hf
                  have hf := hk252_46 x44 a45 hf
                  clear hk252_46
                  refine go_iinc (lc' := [(0, .ref (x_q X 0)), (1, .int p1), (2, .int p2), (3, .int x44), (4, .int x32), (5, .int (x40 + (1 : Int32)))]) (pc' := 255) hC dX12_oneMore_252 rfl ki_1 (Nat.le_of_ble_eq_true rfl) rfl rfl ?_
                  refine go_goto (tgt := 42) hC dX12_oneMore_255 (by decide) ?_
                  exact ih x44 (x40 + (1 : Int32)) a45 g hf
                clear hk252_46
                refine go_if_ne (tgt := 63) (pc' := 60) hC dX12_oneMore_57 (by decide) rfl (fun h85 => ?_) (fun h85 => ?_)
                · have hf := ite_f h85 hf
                  refine go_aload_n (pc' := 64) hC dX12_oneMore_63 rfl rfl ?_
                  refine go_getq (pc' := 67) hC 0 42 layM_0 rfl rfl inlX12 (Nat.le_of_ble_eq_true rfl) mw_199 rfl dX12_oneMore_64 rfl ?_
                  refine go_iload (pc' := 69) hC dX12_oneMore_67 rfl rfl ?_
                  obtain ⟨h47, hf⟩ := gd_e hf
                  refine go_iald (f := ((x_S X).2.2.1 19)) (pc' := 70) hC 19 layM_19 rfl rfl dX12_oneMore_69 (okx_in h47) rfl ?_
                  refine go_iconst (pc' := 71) hC dX12_oneMore_70 ki_2 rfl ?_
                  obtain ⟨k89_49, hk89_49, hf⟩ := lk_e1 hf
                  have jk89_49 : ∀ (x48 : Int32) (g : Nat → Nat), k89_49 x48 = some o → Go X layM 89 [(0, .ref (x_q X 0)), (1, .int p1), (2, .int p2), (3, .int x39), (4, .int x32), (5, .int x40)] [.int x48] g [] [] [(18, a41), (19, ((x_S X).2.2.1 19))] [] [] 0 0 := by
                    intro x48 g hf
                    have hf := hk89_49 x48 hf
                    clear hk89_49
                    refine go_istore (lc' := [(0, .ref (x_q X 0)), (1, .int p1), (2, .int p2), (3, .int x39), (4, .int x32), (5, .int x40), (6, .int x48)]) (pc' := 91) hC dX12_oneMore_89 (Nat.le_of_ble_eq_true rfl) rfl rfl ?_
                    refine go_aload_n (pc' := 92) hC dX12_oneMore_91 rfl rfl ?_
                    refine go_getq (pc' := 95) hC 0 42 layM_0 rfl rfl inlX12 (Nat.le_of_ble_eq_true rfl) mw_199 rfl dX12_oneMore_92 rfl ?_
                    refine go_iload (pc' := 97) hC dX12_oneMore_95 rfl rfl ?_
                    obtain ⟨h50, hf⟩ := gd_e hf
                    refine go_iald (f := ((x_S X).2.2.1 19)) (pc' := 98) hC 19 layM_19 rfl rfl dX12_oneMore_97 (okx_in h50) rfl ?_
                    refine go_iconst (pc' := 99) hC dX12_oneMore_98 ki_1 rfl ?_
                    obtain ⟨k127_52, hk127_52, hf⟩ := lk_e1 hf
                    have jk127_52 : ∀ (x51 : Int32) (g : Nat → Nat), k127_52 x51 = some o → Go X layM 127 [(0, .ref (x_q X 0)), (1, .int p1), (2, .int p2), (3, .int x39), (4, .int x32), (5, .int x40), (6, .int x48)] [.int x51] g [] [] [(18, a41), (19, ((x_S X).2.2.1 19))] [] [] 0 0 := by
                      intro x51 g hf
                      have hf := hk127_52 x51 hf
                      clear hk127_52
                      refine go_istore (lc' := [(0, .ref (x_q X 0)), (1, .int p1), (2, .int p2), (3, .int x39), (4, .int x32), (5, .int x40), (6, .int x48), (7, .int x51)]) (pc' := 129) hC dX12_oneMore_127 (Nat.le_of_ble_eq_true rfl) rfl rfl ?_
                      refine go_iload (pc' := 131) hC dX12_oneMore_129 rfl rfl ?_
                      obtain ⟨k192_53, hk192_53, hf⟩ := lk_e0 hf
                      have jk192_53 : ∀ (g : Nat → Nat), k192_53 = some o → Go X layM 192 [(0, .ref (x_q X 0)), (1, .int p1), (2, .int p2), (3, .int x39), (4, .int x32), (5, .int x40), (7, .int x51)] [] g [] [] [(18, a41), (19, ((x_S X).2.2.1 19))] [] [] 0 0 := by
                        intro  g hf
                        have hf := hk192_53 hf
                        clear hk192_53
                        refine go_iload (pc' := 194) hC dX12_oneMore_192 rfl rfl ?_
                        refine go_if_eq (tgt := 252) (pc' := 197) hC dX12_oneMore_194 (by decide) rfl (fun h63 => ?_) (fun h63 => ?_)
                        · have hf := ite_t h63 hf
                          refine go_sub [0, 1, 2, 3, 4, 5] rfl ?_
                          exact jk252_46 x39 a41 g hf
                        · have hf := ite_f h63 hf
                          refine go_iload_n (pc' := 198) hC dX12_oneMore_197 rfl rfl ?_
                          refine go_aload_n (pc' := 199) hC dX12_oneMore_198 rfl rfl ?_
                          refine go_getq (pc' := 202) hC 0 23 layM_0 rfl rfl inlX12 (Nat.le_of_ble_eq_true rfl) mw_188 rfl dX12_oneMore_199 rfl ?_
                          refine go_iload (pc' := 204) hC dX12_oneMore_202 rfl rfl ?_
                          obtain ⟨h54, hf⟩ := gd_e hf
                          refine go_iald (f := ((x_S X).2.2.1 9)) (pc' := 205) hC 9 layM_9 rfl rfl dX12_oneMore_204 (okx_in h54) rfl ?_
                          refine go_ishr (pc' := 206) hC dX12_oneMore_205 rfl ?_
                          refine go_iconst (pc' := 207) hC dX12_oneMore_206 ki_1 rfl ?_
                          refine go_iand (pc' := 208) hC dX12_oneMore_207 rfl ?_
                          refine go_iconst (pc' := 209) hC dX12_oneMore_208 ki_1 rfl ?_
                          refine go_icmp_ne (tgt := 252) (pc' := 212) hC dX12_oneMore_209 (by decide) rfl (fun h62 => ?_) (fun h62 => ?_)
                          · have hf := ite_f h62 hf
                            refine go_sub [0, 1, 2, 3, 4, 5] rfl ?_
                            exact jk252_46 x39 a41 g hf
                          · have hf := ite_t h62 hf
                            refine go_iload_n (pc' := 213) hC dX12_oneMore_212 rfl rfl ?_
                            refine go_aload_n (pc' := 214) hC dX12_oneMore_213 rfl rfl ?_
                            refine go_getq (pc' := 217) hC 0 22 layM_0 rfl rfl inlX12 (Nat.le_of_ble_eq_true rfl) mw_187 rfl dX12_oneMore_214 rfl ?_
                            refine go_iload (pc' := 219) hC dX12_oneMore_217 rfl rfl ?_
                            obtain ⟨h55, hf⟩ := gd_e hf
                            refine go_iald (f := ((x_S X).2.2.1 8)) (pc' := 220) hC 8 layM_8 rfl rfl dX12_oneMore_219 (okx_in h55) rfl ?_
                            refine go_ishr (pc' := 221) hC dX12_oneMore_220 rfl ?_
                            refine go_iconst (pc' := 222) hC dX12_oneMore_221 ki_1 rfl ?_
                            refine go_iand (pc' := 223) hC dX12_oneMore_222 rfl ?_
                            refine go_if_ne (tgt := 252) (pc' := 226) hC dX12_oneMore_223 (by decide) rfl (fun h61 => ?_) (fun h61 => ?_)
                            · have hf := ite_f h61 hf
                              refine go_sub [0, 1, 2, 3, 4, 5] rfl ?_
                              exact jk252_46 x39 a41 g hf
                            · have hf := ite_t h61 hf
                              refine go_iload_n (pc' := 227) hC dX12_oneMore_226 rfl rfl ?_
                              refine go_iconst (pc' := 228) hC dX12_oneMore_227 ki_1 rfl ?_
                              refine go_aload_n (pc' := 229) hC dX12_oneMore_228 rfl rfl ?_
                              refine go_getq (pc' := 232) hC 0 22 layM_0 rfl rfl inlX12 (Nat.le_of_ble_eq_true rfl) mw_187 rfl dX12_oneMore_229 rfl ?_
                              refine go_iload (pc' := 234) hC dX12_oneMore_232 rfl rfl ?_
                              obtain ⟨h56, hf⟩ := gd_e hf
                              refine go_iald (f := ((x_S X).2.2.1 8)) (pc' := 235) hC 8 layM_8 rfl rfl dX12_oneMore_234 (okx_in h56) rfl ?_
                              refine go_ishl (pc' := 236) hC dX12_oneMore_235 rfl ?_
                              refine go_ior (pc' := 237) hC dX12_oneMore_236 rfl ?_
                              refine go_namei (fun x57 hx => ?_)
                              have hf := lz_r hx hf
                              clear hx
                              refine go_istore_n (lc' := [(0, .ref (x_q X 0)), (1, .int p1), (2, .int p2), (3, .int x57), (4, .int x32), (5, .int x40), (7, .int x51)]) (pc' := 238) hC dX12_oneMore_237 (Nat.le_of_ble_eq_true rfl) rfl rfl ?_
                              refine go_aload_n (pc' := 239) hC dX12_oneMore_238 rfl rfl ?_
                              refine go_getq (pc' := 242) hC 0 41 layM_0 rfl rfl inlX12 (Nat.le_of_ble_eq_true rfl) mw_198 rfl dX12_oneMore_239 rfl ?_
                              refine go_aload_n (pc' := 243) hC dX12_oneMore_242 rfl rfl ?_
                              refine go_getq (pc' := 246) hC 0 22 layM_0 rfl rfl inlX12 (Nat.le_of_ble_eq_true rfl) mw_187 rfl dX12_oneMore_243 rfl ?_
                              refine go_iload (pc' := 248) hC dX12_oneMore_246 rfl rfl ?_
                              obtain ⟨h58, hf⟩ := gd_e hf
                              refine go_iald (f := ((x_S X).2.2.1 8)) (pc' := 249) hC 8 layM_8 rfl rfl dX12_oneMore_248 (okx_in h58) rfl ?_
                              refine go_iload (pc' := 251) hC dX12_oneMore_249 rfl rfl ?_
                              obtain ⟨h59, hf⟩ := gd_e hf
                              refine go_iast (f := a41) (pc' := 252) hC 18 layM_18 rfl rfl dX12_oneMore_251 (okx_in h59) rfl rfl (fun a60 ha L3' hL => ?_)
                              have hf := lz_r ha hf
                              clear ha
                              obtain rfl : L3' = [(18, a60), (19, ((x_S X).2.2.1 19))] := hL.symm
                              refine go_sub [0, 1, 2, 3, 4, 5] rfl ?_
                              exact jk252_46 x57 a60 g hf
                      clear hk192_53
                      refine go_if_eq (tgt := 192) (pc' := 134) hC dX12_oneMore_131 (by decide) rfl (fun h73 => ?_) (fun h73 => ?_)
                      · have hf := ite_t h73 hf
                        refine go_sub [0, 1, 2, 3, 4, 5, 7] rfl ?_
                        exact jk192_53 g hf
                      · have hf := ite_f h73 hf
                        refine go_iload_n (pc' := 135) hC dX12_oneMore_134 rfl rfl ?_
                        refine go_aload_n (pc' := 136) hC dX12_oneMore_135 rfl rfl ?_
                        refine go_getq (pc' := 139) hC 0 22 layM_0 rfl rfl inlX12 (Nat.le_of_ble_eq_true rfl) mw_187 rfl dX12_oneMore_136 rfl ?_
                        refine go_iload (pc' := 141) hC dX12_oneMore_139 rfl rfl ?_
                        obtain ⟨h64, hf⟩ := gd_e hf
                        refine go_iald (f := ((x_S X).2.2.1 8)) (pc' := 142) hC 8 layM_8 rfl rfl dX12_oneMore_141 (okx_in h64) rfl ?_
                        refine go_ishr (pc' := 143) hC dX12_oneMore_142 rfl ?_
                        refine go_iconst (pc' := 144) hC dX12_oneMore_143 ki_1 rfl ?_
                        refine go_iand (pc' := 145) hC dX12_oneMore_144 rfl ?_
                        refine go_iconst (pc' := 146) hC dX12_oneMore_145 ki_1 rfl ?_
                        refine go_icmp_ne (tgt := 192) (pc' := 149) hC dX12_oneMore_146 (by decide) rfl (fun h72 => ?_) (fun h72 => ?_)
                        · have hf := ite_f h72 hf
                          refine go_sub [0, 1, 2, 3, 4, 5, 7] rfl ?_
                          exact jk192_53 g hf
                        · have hf := ite_t h72 hf
                          refine go_iload_n (pc' := 150) hC dX12_oneMore_149 rfl rfl ?_
                          refine go_aload_n (pc' := 151) hC dX12_oneMore_150 rfl rfl ?_
                          refine go_getq (pc' := 154) hC 0 23 layM_0 rfl rfl inlX12 (Nat.le_of_ble_eq_true rfl) mw_188 rfl dX12_oneMore_151 rfl ?_
                          refine go_iload (pc' := 156) hC dX12_oneMore_154 rfl rfl ?_
                          obtain ⟨h65, hf⟩ := gd_e hf
                          refine go_iald (f := ((x_S X).2.2.1 9)) (pc' := 157) hC 9 layM_9 rfl rfl dX12_oneMore_156 (okx_in h65) rfl ?_
                          refine go_ishr (pc' := 158) hC dX12_oneMore_157 rfl ?_
                          refine go_iconst (pc' := 159) hC dX12_oneMore_158 ki_1 rfl ?_
                          refine go_iand (pc' := 160) hC dX12_oneMore_159 rfl ?_
                          refine go_if_ne (tgt := 192) (pc' := 163) hC dX12_oneMore_160 (by decide) rfl (fun h71 => ?_) (fun h71 => ?_)
                          · have hf := ite_f h71 hf
                            refine go_sub [0, 1, 2, 3, 4, 5, 7] rfl ?_
                            exact jk192_53 g hf
                          · have hf := ite_t h71 hf
                            refine go_iload_n (pc' := 164) hC dX12_oneMore_163 rfl rfl ?_
                            refine go_iconst (pc' := 165) hC dX12_oneMore_164 ki_1 rfl ?_
                            refine go_aload_n (pc' := 166) hC dX12_oneMore_165 rfl rfl ?_
                            refine go_getq (pc' := 169) hC 0 23 layM_0 rfl rfl inlX12 (Nat.le_of_ble_eq_true rfl) mw_188 rfl dX12_oneMore_166 rfl ?_
                            refine go_iload (pc' := 171) hC dX12_oneMore_169 rfl rfl ?_
                            obtain ⟨h66, hf⟩ := gd_e hf
                            refine go_iald (f := ((x_S X).2.2.1 9)) (pc' := 172) hC 9 layM_9 rfl rfl dX12_oneMore_171 (okx_in h66) rfl ?_
                            refine go_ishl (pc' := 173) hC dX12_oneMore_172 rfl ?_
                            refine go_ior (pc' := 174) hC dX12_oneMore_173 rfl ?_
                            refine go_namei (fun x67 hx => ?_)
                            have hf := lz_r hx hf
                            clear hx
                            refine go_istore_n (lc' := [(0, .ref (x_q X 0)), (1, .int p1), (2, .int p2), (3, .int x67), (4, .int x32), (5, .int x40), (6, .int x48), (7, .int x51)]) (pc' := 175) hC dX12_oneMore_174 (Nat.le_of_ble_eq_true rfl) rfl rfl ?_
                            refine go_aload_n (pc' := 176) hC dX12_oneMore_175 rfl rfl ?_
                            refine go_getq (pc' := 179) hC 0 41 layM_0 rfl rfl inlX12 (Nat.le_of_ble_eq_true rfl) mw_198 rfl dX12_oneMore_176 rfl ?_
                            refine go_aload_n (pc' := 180) hC dX12_oneMore_179 rfl rfl ?_
                            refine go_getq (pc' := 183) hC 0 23 layM_0 rfl rfl inlX12 (Nat.le_of_ble_eq_true rfl) mw_188 rfl dX12_oneMore_180 rfl ?_
                            refine go_iload (pc' := 185) hC dX12_oneMore_183 rfl rfl ?_
                            obtain ⟨h68, hf⟩ := gd_e hf
                            refine go_iald (f := ((x_S X).2.2.1 9)) (pc' := 186) hC 9 layM_9 rfl rfl dX12_oneMore_185 (okx_in h68) rfl ?_
                            refine go_iload (pc' := 188) hC dX12_oneMore_186 rfl rfl ?_
                            obtain ⟨h69, hf⟩ := gd_e hf
                            refine go_iast (f := a41) (pc' := 189) hC 18 layM_18 rfl rfl dX12_oneMore_188 (okx_in h69) rfl rfl (fun a70 ha L3' hL => ?_)
                            have hf := lz_r ha hf
                            clear ha
                            obtain rfl : L3' = [(18, a70), (19, ((x_S X).2.2.1 19))] := hL.symm
                            refine go_goto (tgt := 252) hC dX12_oneMore_189 (by decide) ?_
                            refine go_sub [0, 1, 2, 3, 4, 5] rfl ?_
                            exact jk252_46 x67 a70 g hf
                    clear hk127_52
                    obtain ⟨k122_74, hk122_74, hf⟩ := lk_e0 hf
                    have jk122_74 : ∀ (g : Nat → Nat), k122_74 = some o → Go X layM 122 [(0, .ref (x_q X 0)), (1, .int p1), (2, .int p2), (3, .int x39), (4, .int x32), (5, .int x40), (6, .int x48)] [] g [] [] [(18, a41), (19, ((x_S X).2.2.1 19))] [] [] 0 0 := by
                      intro  g hf
                      have hf := hk122_74 hf
                      clear hk122_74
                      refine go_iconst (pc' := 123) hC dX12_oneMore_122 ki_1 rfl ?_
                      refine go_goto (tgt := 127) hC dX12_oneMore_123 (by decide) ?_
                      exact jk127_52 (1 : Int32) g hf
                    clear hk122_74
                    refine go_icmp_eq (tgt := 122) (pc' := 102) hC dX12_oneMore_99 (by decide) rfl (fun h80 => ?_) (fun h80 => ?_)
                    · have hf := ite_t h80 hf
                      exact jk122_74 g hf
                    · have hf := ite_f h80 hf
                      refine go_aload_n (pc' := 103) hC dX12_oneMore_102 rfl rfl ?_
                      refine go_getq (pc' := 106) hC 0 42 layM_0 rfl rfl inlX12 (Nat.le_of_ble_eq_true rfl) mw_199 rfl dX12_oneMore_103 rfl ?_
                      refine go_iload (pc' := 108) hC dX12_oneMore_106 rfl rfl ?_
                      obtain ⟨h75, hf⟩ := gd_e hf
                      refine go_iald (f := ((x_S X).2.2.1 19)) (pc' := 109) hC 19 layM_19 rfl rfl dX12_oneMore_108 (okx_in h75) rfl ?_
                      obtain ⟨k126_76, hk126_76, hf⟩ := lk_e0 hf
                      have jk126_76 : ∀ (g : Nat → Nat), k126_76 = some o → Go X layM 126 [(0, .ref (x_q X 0)), (1, .int p1), (2, .int p2), (3, .int x39), (4, .int x32), (5, .int x40), (6, .int x48)] [] g [] [] [(18, a41), (19, ((x_S X).2.2.1 19))] [] [] 0 0 := by
                        intro  g hf
                        have hf := hk126_76 hf
                        clear hk126_76
                        refine go_iconst (pc' := 127) hC dX12_oneMore_126 ki_0 rfl ?_
                        exact jk127_52 (0 : Int32) g hf
                      clear hk126_76
                      refine go_if_ne (tgt := 126) (pc' := 112) hC dX12_oneMore_109 (by decide) rfl (fun h79 => ?_) (fun h79 => ?_)
                      · have hf := ite_f h79 hf
                        exact jk126_76 g hf
                      · have hf := ite_t h79 hf
                        refine go_aload_n (pc' := 113) hC dX12_oneMore_112 rfl rfl ?_
                        refine go_getq (pc' := 116) hC 0 25 layM_0 rfl rfl inlX12 (Nat.le_of_ble_eq_true rfl) mw_191 rfl dX12_oneMore_113 rfl ?_
                        refine go_iload (pc' := 118) hC dX12_oneMore_116 rfl rfl ?_
                        obtain ⟨h77, hf⟩ := gd_e hf
                        refine go_zald (f := ((x_S X).2.2.1 11)) (pc' := 119) hC 11 layM_11 rfl rfl dX12_oneMore_118 (okx_in h77) rfl ?_
                        refine go_if_eq (tgt := 126) (pc' := 122) hC dX12_oneMore_119 (by decide) rfl (fun h78 => ?_) (fun h78 => ?_)
                        · have hf := ite_t h78 hf
                          exact jk126_76 g hf
                        · have hf := ite_f h78 hf
                          exact jk122_74 g hf
                  clear hk89_49
                  obtain ⟨k84_81, hk84_81, hf⟩ := lk_e0 hf
                  have jk84_81 : ∀ (g : Nat → Nat), k84_81 = some o → Go X layM 84 [(0, .ref (x_q X 0)), (1, .int p1), (2, .int p2), (3, .int x39), (4, .int x32), (5, .int x40)] [] g [] [] [(18, a41), (19, ((x_S X).2.2.1 19))] [] [] 0 0 := by
                    intro  g hf
                    have hf := hk84_81 hf
                    clear hk84_81
                    refine go_iconst (pc' := 85) hC dX12_oneMore_84 ki_1 rfl ?_
                    refine go_goto (tgt := 89) hC dX12_oneMore_85 (by decide) ?_
                    exact jk89_49 (1 : Int32) g hf
                  clear hk84_81
                  refine go_icmp_eq (tgt := 84) (pc' := 74) hC dX12_oneMore_71 (by decide) rfl (fun h84 => ?_) (fun h84 => ?_)
                  · have hf := ite_t h84 hf
                    exact jk84_81 g hf
                  · have hf := ite_f h84 hf
                    refine go_aload_n (pc' := 75) hC dX12_oneMore_74 rfl rfl ?_
                    refine go_getq (pc' := 78) hC 0 42 layM_0 rfl rfl inlX12 (Nat.le_of_ble_eq_true rfl) mw_199 rfl dX12_oneMore_75 rfl ?_
                    refine go_iload (pc' := 80) hC dX12_oneMore_78 rfl rfl ?_
                    obtain ⟨h82, hf⟩ := gd_e hf
                    refine go_iald (f := ((x_S X).2.2.1 19)) (pc' := 81) hC 19 layM_19 rfl rfl dX12_oneMore_80 (okx_in h82) rfl ?_
                    refine go_if_ne (tgt := 88) (pc' := 84) hC dX12_oneMore_81 (by decide) rfl (fun h83 => ?_) (fun h83 => ?_)
                    · have hf := ite_f h83 hf
                      refine go_iconst (pc' := 89) hC dX12_oneMore_88 ki_0 rfl ?_
                      exact jk89_49 (0 : Int32) g hf
                    · have hf := ite_t h83 hf
                      exact jk84_81 g hf
                · have hf := ite_t h85 hf
                  refine go_goto (tgt := 252) hC dX12_oneMore_60 (by decide) ?_
                  exact jk252_46 x39 a41 g hf
          exact l42_87 fuel x32 (0 : Int32) a34 g hf
    exact l30_89 fuel x3 (0 : Int32) a1 g hf
  clear hk23_2
  have l2_96 : ∀ (nn : Nat) (x90 : Int32) (a91 : Nat → Int32) (g : Nat → Nat), it2 (f_X12_oneMore_L2 (x_S X) k23_2) nn x90 a91 = some o → Go X layM 2 [(0, .ref (x_q X 0)), (1, .int p1), (2, .int p2), (3, .int x90)] [] g [] [] [(18, a91), (19, ((x_S X).2.2.1 19))] [] [] 0 0 := by
    intro nn
    induction nn with
    | zero =>
      intro x90 a91 g hf
      exact none_no hf
    | succ nn ih =>
      intro x90 a91 g hf
      have hf : f_X12_oneMore_L2 (x_S X) k23_2 (it2 (f_X12_oneMore_L2 (x_S X) k23_2) nn) x90 a91 = some o := hf
      generalize it2 (f_X12_oneMore_L2 (x_S X) k23_2) nn = r92 at ih hf
      unfold f_X12_oneMore_L2 at hf
      refine go_iload_n (pc' := 3) hC dX12_oneMore_2 rfl rfl ?_
      refine go_aload_n (pc' := 4) hC dX12_oneMore_3 rfl rfl ?_
      refine go_geti (v := ((x_S X).1 20)) (pc' := 7) hC 0 20 layM_0 rfl rfl inlX12 (Nat.le_of_ble_eq_true rfl) mw_246 rfl dX12_oneMore_4 rfl rfl ?_
      refine go_icmp_ge (tgt := 23) (pc' := 10) hC dX12_oneMore_7 (by decide) rfl (fun h95 => ?_) (fun h95 => ?_)
      · have hf := ite_t h95 hf
        refine go_sub [0, 1, 2] rfl ?_
        exact jk23_2 a91 g hf
      · have hf := ite_f h95 hf
        refine go_aload_n (pc' := 11) hC dX12_oneMore_10 rfl rfl ?_
        refine go_getq (pc' := 14) hC 0 41 layM_0 rfl rfl inlX12 (Nat.le_of_ble_eq_true rfl) mw_198 rfl dX12_oneMore_11 rfl ?_
        refine go_iload_n (pc' := 15) hC dX12_oneMore_14 rfl rfl ?_
        refine go_iconst (pc' := 16) hC dX12_oneMore_15 ki_m1 rfl ?_
        obtain ⟨h93, hf⟩ := gd_e hf
        refine go_iast (f := a91) (pc' := 17) hC 18 layM_18 rfl rfl dX12_oneMore_16 (okx_in h93) rfl rfl (fun a94 ha L3' hL => ?_)
        have hf := lz_r ha hf
        clear ha
        obtain rfl : L3' = [(18, a94), (19, ((x_S X).2.2.1 19))] := hL.symm
        refine go_iinc (lc' := [(0, .ref (x_q X 0)), (1, .int p1), (2, .int p2), (3, .int (x90 + (1 : Int32)))]) (pc' := 20) hC dX12_oneMore_17 rfl ki_1 (Nat.le_of_ble_eq_true rfl) rfl rfl ?_
        refine go_goto (tgt := 2) hC dX12_oneMore_20 (by decide) ?_
        exact ih (x90 + (1 : Int32)) a94 g hf
  exact l2_96 fuel (0 : Int32) ((x_S X).2.2.1 18) g hf
theorem dX12_areTwo_0 : decode cX12_areTwo 0 = .ok (.iconst 0, 1) := by decide +kernel
theorem dX12_areTwo_1 : decode cX12_areTwo 1 = .ok (.istore_n 3, 1) := by decide +kernel
theorem dX12_areTwo_2 : decode cX12_areTwo 2 = .ok (.iload_n 3, 1) := by decide +kernel
theorem dX12_areTwo_3 : decode cX12_areTwo 3 = .ok (.aload_n 0, 1) := by decide +kernel
theorem dX12_areTwo_4 : decode cX12_areTwo 4 = .ok (.getfield 279, 3) := by decide +kernel
theorem dX12_areTwo_7 : decode cX12_areTwo 7 = .ok (.if_icmp .gt 16, 3) := by decide +kernel
theorem dX12_areTwo_10 : decode cX12_areTwo 10 = .ok (.aload_n 0, 1) := by decide +kernel
theorem dX12_areTwo_11 : decode cX12_areTwo 11 = .ok (.getfield 66, 3) := by decide +kernel
theorem dX12_areTwo_14 : decode cX12_areTwo 14 = .ok (.iload_n 3, 1) := by decide +kernel
theorem dX12_areTwo_15 : decode cX12_areTwo 15 = .ok (.iconst 0, 1) := by decide +kernel
theorem dX12_areTwo_16 : decode cX12_areTwo 16 = .ok (.iastore, 1) := by decide +kernel
theorem dX12_areTwo_17 : decode cX12_areTwo 17 = .ok (.iinc 3 1, 3) := by decide +kernel
theorem dX12_areTwo_20 : decode cX12_areTwo 20 = .ok (.goto (-18), 3) := by decide +kernel
theorem dX12_areTwo_23 : decode cX12_areTwo 23 = .ok (.aload_n 0, 1) := by decide +kernel
theorem dX12_areTwo_24 : decode cX12_areTwo 24 = .ok (.getfield 318, 3) := by decide +kernel
theorem dX12_areTwo_27 : decode cX12_areTwo 27 = .ok (.iload_n 1, 1) := by decide +kernel
theorem dX12_areTwo_28 : decode cX12_areTwo 28 = .ok (.ishr, 1) := by decide +kernel
theorem dX12_areTwo_29 : decode cX12_areTwo 29 = .ok (.iconst 1, 1) := by decide +kernel
theorem dX12_areTwo_30 : decode cX12_areTwo 30 = .ok (.iand, 1) := by decide +kernel
theorem dX12_areTwo_31 : decode cX12_areTwo 31 = .ok (.iconst 1, 1) := by decide +kernel
theorem dX12_areTwo_32 : decode cX12_areTwo 32 = .ok (.if_icmp .ne 37, 3) := by decide +kernel
theorem dX12_areTwo_35 : decode cX12_areTwo 35 = .ok (.aload_n 0, 1) := by decide +kernel
theorem dX12_areTwo_36 : decode cX12_areTwo 36 = .ok (.getfield 318, 3) := by decide +kernel
theorem dX12_areTwo_39 : decode cX12_areTwo 39 = .ok (.iload_n 2, 1) := by decide +kernel
theorem dX12_areTwo_40 : decode cX12_areTwo 40 = .ok (.ishr, 1) := by decide +kernel
theorem dX12_areTwo_41 : decode cX12_areTwo 41 = .ok (.iconst 1, 1) := by decide +kernel
theorem dX12_areTwo_42 : decode cX12_areTwo 42 = .ok (.iand, 1) := by decide +kernel
theorem dX12_areTwo_43 : decode cX12_areTwo 43 = .ok (.iconst 1, 1) := by decide +kernel
theorem dX12_areTwo_44 : decode cX12_areTwo 44 = .ok (.if_icmp .ne 25, 3) := by decide +kernel
theorem dX12_areTwo_47 : decode cX12_areTwo 47 = .ok (.aload_n 0, 1) := by decide +kernel
theorem dX12_areTwo_48 : decode cX12_areTwo 48 = .ok (.iload_n 1, 1) := by decide +kernel
theorem dX12_areTwo_49 : decode cX12_areTwo 49 = .ok (.iload_n 2, 1) := by decide +kernel
theorem dX12_areTwo_50 : decode cX12_areTwo 50 = .ok (.invokevirtual 334, 3) := by decide +kernel
theorem dX12_areTwo_53 : decode cX12_areTwo 53 = .ok (.ifCond .eq 16, 3) := by decide +kernel
theorem dX12_areTwo_56 : decode cX12_areTwo 56 = .ok (.aload_n 0, 1) := by decide +kernel
theorem dX12_areTwo_57 : decode cX12_areTwo 57 = .ok (.iload_n 1, 1) := by decide +kernel
theorem dX12_areTwo_58 : decode cX12_areTwo 58 = .ok (.iload_n 2, 1) := by decide +kernel
theorem dX12_areTwo_59 : decode cX12_areTwo 59 = .ok (.invokevirtual 334, 3) := by decide +kernel
theorem dX12_areTwo_62 : decode cX12_areTwo 62 = .ok (.ifCond .eq 7, 3) := by decide +kernel
theorem dX12_areTwo_65 : decode cX12_areTwo 65 = .ok (.iconst 1, 1) := by decide +kernel
theorem dX12_areTwo_66 : decode cX12_areTwo 66 = .ok (.goto 4, 3) := by decide +kernel
theorem dX12_areTwo_69 : decode cX12_areTwo 69 = .ok (.iconst 0, 1) := by decide +kernel
theorem dX12_areTwo_70 : decode cX12_areTwo 70 = .ok (.ireturn, 1) := by decide +kernel
abbrev o_X12_areTwo : Type := Int32 × (Nat → Int32) × (Nat → Int32)
def f_X12_areTwo_L2 (S : wd_W) (k23_2 : (Nat → Int32) → (Option o_X12_areTwo)) (r11 : (Int32) → (Nat → Int32) → (Option o_X12_areTwo)) (x9 : Int32) (a10 : Nat → Int32) : Option o_X12_areTwo :=
if (S.1 21) < x9 then (
k23_2 a10) else (
gd (okx x9 13) <|
lz (upd a10 x9.toNatClampNeg (0 : Int32)) fun a13 =>
r11 (x9 + (1 : Int32)) a13)
def f_X12_areTwo (S : wd_W) (p1 : Int32) (p2 : Int32) : Option o_X12_areTwo :=
lk (fun a1 =>
if (((S.1 38) >>> (p1 &&& 31)) &&& (1 : Int32)) = (1 : Int32) then (
if (((S.1 38) >>> (p2 &&& 31)) &&& (1 : Int32)) = (1 : Int32) then (
bd (f_X12_oneMore (wd_o S [] [] [(18, (S.2.2.1 18)), (19, a1)] [] []) p1 p2) fun o3 =>
if o3.1 = 0 then (
some ((0 : Int32), o3.2.1, o3.2.2)) else (
bd (f_X12_oneMore (wd_o S [] [] [(18, o3.2.1), (19, o3.2.2)] [] []) p1 p2) fun o4 =>
if o4.1 = 0 then (
some ((0 : Int32), o4.2.1, o4.2.2)) else (
some ((1 : Int32), o4.2.1, o4.2.2)))) else (
some ((0 : Int32), (S.2.2.1 18), a1))) else (
some ((0 : Int32), (S.2.2.1 18), a1))) fun k23_2 =>
it2 (f_X12_areTwo_L2 S k23_2) fuel (0 : Int32) (S.2.2.1 19)
set_option maxRecDepth 100000 in
set_option maxHeartbeats 4000000 in
theorem c_X12_areTwo (l : Launch) (D : va_G) (q g : Nat → Nat) (cy : Nat → ClassId) (z : (Nat → Nat) × (Nat → Nat) × Nat) (S : wd_W) (p1 : Int32) (p2 : Int32) (o : o_X12_areTwo) (hf : f_X12_areTwo S p1 p2 = some o) : MX layM l yX12_areTwo cX12_areTwo 4 (some .boolean) ({ frames := 2, cells := 0, slots := 0, locals := 48 } : Room) D q g cy z [.ref (q 0), .int p1, .int p2] S (some (.int o.1)) (wd_o S [] [] [(18, o.2.1), (19, o.2.2)] [] []) 0 0 := by
  refine mx_of (own := RX12) (lc := [(0, .ref (q 0)), (1, .int p1), (2, .int p2)]) (by decide +kernel) rfl layM_ok (Nat.le_of_ble_eq_true rfl) rfl ?_
  intro X hXl hXq hXS hC hQ
  subst hXl; subst hXq; subst hXS
  unfold f_X12_areTwo at hf
  refine go_keys (L1 := []) (L2 := []) (L3 := [(18, ((x_S X).2.2.1 18)), (19, ((x_S X).2.2.1 19))]) (L4 := []) (L5 := []) [] [] [18, 19] [] [] rfl rfl rfl rfl rfl ?_
  refine go_iconst (pc' := 1) hC dX12_areTwo_0 ki_0 rfl ?_
  refine go_istore_n (lc' := [(0, .ref (x_q X 0)), (1, .int p1), (2, .int p2), (3, .int (0 : Int32))]) (pc' := 2) hC dX12_areTwo_1 (Nat.le_of_ble_eq_true rfl) rfl rfl ?_
  obtain ⟨k23_2, hk23_2, hf⟩ := lk_e1 hf
  have jk23_2 : ∀ (a1 : Nat → Int32) (g : Nat → Nat), k23_2 a1 = some o → Go X layM 23 [(0, .ref (x_q X 0)), (1, .int p1), (2, .int p2)] [] g [] [] [(18, ((x_S X).2.2.1 18)), (19, a1)] [] [] 0 0 := by
    intro a1 g hf
    have hf := hk23_2 a1 hf
    clear hk23_2
    refine go_aload_n (pc' := 24) hC dX12_areTwo_23 rfl rfl ?_
    refine go_geti (v := ((x_S X).1 38)) (pc' := 27) hC 0 38 layM_0 rfl rfl inlX12 (Nat.le_of_ble_eq_true rfl) mw_872 rfl dX12_areTwo_24 rfl rfl ?_
    refine go_iload_n (pc' := 28) hC dX12_areTwo_27 rfl rfl ?_
    refine go_ishr (pc' := 29) hC dX12_areTwo_28 rfl ?_
    refine go_iconst (pc' := 30) hC dX12_areTwo_29 ki_1 rfl ?_
    refine go_iand (pc' := 31) hC dX12_areTwo_30 rfl ?_
    refine go_iconst (pc' := 32) hC dX12_areTwo_31 ki_1 rfl ?_
    refine go_icmp_ne (tgt := 69) (pc' := 35) hC dX12_areTwo_32 (by decide) rfl (fun h8 => ?_) (fun h8 => ?_)
    · have hf := ite_f h8 hf
      refine go_iconst (pc' := 70) hC dX12_areTwo_69 ki_0 rfl ?_
      obtain rfl := Option.some.inj hf
      exact go_iret hC hQ dX12_areTwo_70 rfl rfl rfl rfl rfl rfl
    · have hf := ite_t h8 hf
      refine go_aload_n (pc' := 36) hC dX12_areTwo_35 rfl rfl ?_
      refine go_geti (v := ((x_S X).1 38)) (pc' := 39) hC 0 38 layM_0 rfl rfl inlX12 (Nat.le_of_ble_eq_true rfl) mw_872 rfl dX12_areTwo_36 rfl rfl ?_
      refine go_iload_n (pc' := 40) hC dX12_areTwo_39 rfl rfl ?_
      refine go_ishr (pc' := 41) hC dX12_areTwo_40 rfl ?_
      refine go_iconst (pc' := 42) hC dX12_areTwo_41 ki_1 rfl ?_
      refine go_iand (pc' := 43) hC dX12_areTwo_42 rfl ?_
      refine go_iconst (pc' := 44) hC dX12_areTwo_43 ki_1 rfl ?_
      refine go_icmp_ne (tgt := 69) (pc' := 47) hC dX12_areTwo_44 (by decide) rfl (fun h7 => ?_) (fun h7 => ?_)
      · have hf := ite_f h7 hf
        refine go_iconst (pc' := 70) hC dX12_areTwo_69 ki_0 rfl ?_
        obtain rfl := Option.some.inj hf
        exact go_iret hC hQ dX12_areTwo_70 rfl rfl rfl rfl rfl rfl
      · have hf := ite_t h7 hf
        refine go_aload_n (pc' := 48) hC dX12_areTwo_47 rfl rfl ?_
        refine go_iload_n (pc' := 49) hC dX12_areTwo_48 rfl rfl ?_
        refine go_iload_n (pc' := 50) hC dX12_areTwo_49 rfl rfl ?_
        obtain ⟨o3, ho3, hf⟩ := bd_e hf
        refine go_callV (pc' := 53) (As := [.int p1, .int p2]) (st := []) (st' := [.int o3.1]) (L1' := []) (L2' := []) (L3' := [(18, o3.2.1), (19, o3.2.2)]) (L4' := []) (L5' := []) (cells' := 0) (slots' := 0) (b := 0) hC dX12_areTwo_50 ⟨mw_901, mw_904, mw_5, yd_yX12_oneMore, yp_yX12_oneMore, Nat.le_of_ble_eq_true rfl, Nat.le_of_ble_eq_true rfl, Nat.le_of_ble_eq_true rfl, Nat.le_of_ble_eq_true rfl⟩ mw_902 mw_903 layM_0 rfl rfl rfl (Nat.le_of_ble_eq_true rfl) (c_X12_oneMore (x_l X) (x_D X) (x_q X) g (x_cy X) (x_z X) _ p1 p2 o3 ho3) rfl rfl rfl rfl rfl rfl rfl rfl rfl rfl rfl rfl rfl rfl (fun g => ?_)
        refine go_if_eq (tgt := 69) (pc' := 56) hC dX12_areTwo_53 (by decide) rfl (fun h6 => ?_) (fun h6 => ?_)
        · have hf := ite_t h6 hf
          refine go_iconst (pc' := 70) hC dX12_areTwo_69 ki_0 rfl ?_
          obtain rfl := Option.some.inj hf
          exact go_iret hC hQ dX12_areTwo_70 rfl rfl rfl rfl rfl rfl
        · have hf := ite_f h6 hf
          refine go_aload_n (pc' := 57) hC dX12_areTwo_56 rfl rfl ?_
          refine go_iload_n (pc' := 58) hC dX12_areTwo_57 rfl rfl ?_
          refine go_iload_n (pc' := 59) hC dX12_areTwo_58 rfl rfl ?_
          obtain ⟨o4, ho4, hf⟩ := bd_e hf
          refine go_callV (pc' := 62) (As := [.int p1, .int p2]) (st := []) (st' := [.int o4.1]) (L1' := []) (L2' := []) (L3' := [(18, o4.2.1), (19, o4.2.2)]) (L4' := []) (L5' := []) (cells' := 0) (slots' := 0) (b := 0) hC dX12_areTwo_59 ⟨mw_901, mw_904, mw_5, yd_yX12_oneMore, yp_yX12_oneMore, Nat.le_of_ble_eq_true rfl, Nat.le_of_ble_eq_true rfl, Nat.le_of_ble_eq_true rfl, Nat.le_of_ble_eq_true rfl⟩ mw_902 mw_903 layM_0 rfl rfl rfl (Nat.le_of_ble_eq_true rfl) (c_X12_oneMore (x_l X) (x_D X) (x_q X) g (x_cy X) (x_z X) _ p1 p2 o4 ho4) rfl rfl rfl rfl rfl rfl rfl rfl rfl rfl rfl rfl rfl rfl (fun g => ?_)
          refine go_if_eq (tgt := 69) (pc' := 65) hC dX12_areTwo_62 (by decide) rfl (fun h5 => ?_) (fun h5 => ?_)
          · have hf := ite_t h5 hf
            refine go_iconst (pc' := 70) hC dX12_areTwo_69 ki_0 rfl ?_
            obtain rfl := Option.some.inj hf
            exact go_iret hC hQ dX12_areTwo_70 rfl rfl rfl rfl rfl rfl
          · have hf := ite_f h5 hf
            refine go_iconst (pc' := 66) hC dX12_areTwo_65 ki_1 rfl ?_
            refine go_goto (tgt := 70) hC dX12_areTwo_66 (by decide) ?_
            obtain rfl := Option.some.inj hf
            exact go_iret hC hQ dX12_areTwo_70 rfl rfl rfl rfl rfl rfl
  clear hk23_2
  have l2_15 : ∀ (nn : Nat) (x9 : Int32) (a10 : Nat → Int32) (g : Nat → Nat), it2 (f_X12_areTwo_L2 (x_S X) k23_2) nn x9 a10 = some o → Go X layM 2 [(0, .ref (x_q X 0)), (1, .int p1), (2, .int p2), (3, .int x9)] [] g [] [] [(18, ((x_S X).2.2.1 18)), (19, a10)] [] [] 0 0 := by
    intro nn
    induction nn with
    | zero =>
      intro x9 a10 g hf
      exact none_no hf
    | succ nn ih =>
      intro x9 a10 g hf
      have hf : f_X12_areTwo_L2 (x_S X) k23_2 (it2 (f_X12_areTwo_L2 (x_S X) k23_2) nn) x9 a10 = some o := hf
      generalize it2 (f_X12_areTwo_L2 (x_S X) k23_2) nn = r11 at ih hf
      unfold f_X12_areTwo_L2 at hf
      refine go_iload_n (pc' := 3) hC dX12_areTwo_2 rfl rfl ?_
      refine go_aload_n (pc' := 4) hC dX12_areTwo_3 rfl rfl ?_
      refine go_geti (v := ((x_S X).1 21)) (pc' := 7) hC 0 21 layM_0 rfl rfl inlX12 (Nat.le_of_ble_eq_true rfl) mw_247 rfl dX12_areTwo_4 rfl rfl ?_
      refine go_icmp_gt (tgt := 23) (pc' := 10) hC dX12_areTwo_7 (by decide) rfl (fun h14 => ?_) (fun h14 => ?_)
      · have hf := ite_t h14 hf
        refine go_sub [0, 1, 2] rfl ?_
        exact jk23_2 a10 g hf
      · have hf := ite_f h14 hf
        refine go_aload_n (pc' := 11) hC dX12_areTwo_10 rfl rfl ?_
        refine go_getq (pc' := 14) hC 0 42 layM_0 rfl rfl inlX12 (Nat.le_of_ble_eq_true rfl) mw_199 rfl dX12_areTwo_11 rfl ?_
        refine go_iload_n (pc' := 15) hC dX12_areTwo_14 rfl rfl ?_
        refine go_iconst (pc' := 16) hC dX12_areTwo_15 ki_0 rfl ?_
        obtain ⟨h12, hf⟩ := gd_e hf
        refine go_iast (f := a10) (pc' := 17) hC 19 layM_19 rfl rfl dX12_areTwo_16 (okx_in h12) rfl rfl (fun a13 ha L3' hL => ?_)
        have hf := lz_r ha hf
        clear ha
        obtain rfl : L3' = [(18, ((x_S X).2.2.1 18)), (19, a13)] := hL.symm
        refine go_iinc (lc' := [(0, .ref (x_q X 0)), (1, .int p1), (2, .int p2), (3, .int (x9 + (1 : Int32)))]) (pc' := 20) hC dX12_areTwo_17 rfl ki_1 (Nat.le_of_ble_eq_true rfl) rfl rfl ?_
        refine go_goto (tgt := 2) hC dX12_areTwo_20 (by decide) ?_
        exact ih (x9 + (1 : Int32)) a13 g hf
  exact l2_15 fuel (0 : Int32) ((x_S X).2.2.1 19) g hf
theorem dX12_bits_0 : decode cX12_bits 0 = .ok (.iconst 0, 1) := by decide +kernel
theorem dX12_bits_1 : decode cX12_bits 1 = .ok (.istore_n 1, 1) := by decide +kernel
theorem dX12_bits_2 : decode cX12_bits 2 = .ok (.iload_n 0, 1) := by decide +kernel
theorem dX12_bits_3 : decode cX12_bits 3 = .ok (.istore_n 2, 1) := by decide +kernel
theorem dX12_bits_4 : decode cX12_bits 4 = .ok (.iload_n 2, 1) := by decide +kernel
theorem dX12_bits_5 : decode cX12_bits 5 = .ok (.ifCond .eq 15, 3) := by decide +kernel
theorem dX12_bits_8 : decode cX12_bits 8 = .ok (.iinc 1 1, 3) := by decide +kernel
theorem dX12_bits_11 : decode cX12_bits 11 = .ok (.iload_n 2, 1) := by decide +kernel
theorem dX12_bits_12 : decode cX12_bits 12 = .ok (.iload_n 2, 1) := by decide +kernel
theorem dX12_bits_13 : decode cX12_bits 13 = .ok (.iconst 1, 1) := by decide +kernel
theorem dX12_bits_14 : decode cX12_bits 14 = .ok (.isub, 1) := by decide +kernel
theorem dX12_bits_15 : decode cX12_bits 15 = .ok (.iand, 1) := by decide +kernel
theorem dX12_bits_16 : decode cX12_bits 16 = .ok (.istore_n 2, 1) := by decide +kernel
theorem dX12_bits_17 : decode cX12_bits 17 = .ok (.goto (-13), 3) := by decide +kernel
theorem dX12_bits_20 : decode cX12_bits 20 = .ok (.iload_n 1, 1) := by decide +kernel
theorem dX12_bits_21 : decode cX12_bits 21 = .ok (.ireturn, 1) := by decide +kernel
abbrev o_X12_bits : Type := Int32
def f_X12_bits_L4 (r3 : (Int32) → (Int32) → (Option o_X12_bits)) (x1 : Int32) (x2 : Int32) : Option o_X12_bits :=
if x2 = 0 then (
some x1) else (
lz (x2 &&& (x2 - (1 : Int32))) fun x4 =>
r3 (x1 + (1 : Int32)) x4)
def f_X12_bits (p1 : Int32) : Option o_X12_bits :=
it2 (f_X12_bits_L4) fuel (0 : Int32) p1
set_option maxRecDepth 100000 in
set_option maxHeartbeats 4000000 in
theorem c_X12_bits (l : Launch) (D : va_G) (q g : Nat → Nat) (cy : Nat → ClassId) (z : (Nat → Nat) × (Nat → Nat) × Nat) (S : wd_W) (p1 : Int32) (o : o_X12_bits) (hf : f_X12_bits p1 = some o) : MX layM l yX12_bits cX12_bits 3 (some .int) ({ frames := 0, cells := 0, slots := 0, locals := 0 } : Room) D q g cy z [.int p1] S (some (.int o)) (wd_o S [] [] [] [] []) 0 0 := by
  refine mx_of (own := RX12) (lc := [(0, .int p1)]) (by decide +kernel) rfl layM_ok (Nat.le_of_ble_eq_true rfl) rfl ?_
  intro X hXl hXq hXS hC hQ
  subst hXl; subst hXq; subst hXS
  unfold f_X12_bits at hf
  refine go_iconst (pc' := 1) hC dX12_bits_0 ki_0 rfl ?_
  refine go_istore_n (lc' := [(0, .int p1), (1, .int (0 : Int32))]) (pc' := 2) hC dX12_bits_1 (Nat.le_of_ble_eq_true rfl) rfl rfl ?_
  refine go_iload_n (pc' := 3) hC dX12_bits_2 rfl rfl ?_
  refine go_istore_n (lc' := [(0, .int p1), (1, .int (0 : Int32)), (2, .int p1)]) (pc' := 4) hC dX12_bits_3 (Nat.le_of_ble_eq_true rfl) rfl rfl ?_
  have l4_6 : ∀ (nn : Nat) (x1 : Int32) (x2 : Int32) (g : Nat → Nat), it2 (f_X12_bits_L4) nn x1 x2 = some o → Go X layM 4 [(1, .int x1), (2, .int x2)] [] g [] [] [] [] [] 0 0 := by
    intro nn
    induction nn with
    | zero =>
      intro x1 x2 g hf
      exact none_no hf
    | succ nn ih =>
      intro x1 x2 g hf
      have hf : f_X12_bits_L4 (it2 (f_X12_bits_L4) nn) x1 x2 = some o := hf
      generalize it2 (f_X12_bits_L4) nn = r3 at ih hf
      unfold f_X12_bits_L4 at hf
      refine go_iload_n (pc' := 5) hC dX12_bits_4 rfl rfl ?_
      refine go_if_eq (tgt := 20) (pc' := 8) hC dX12_bits_5 (by decide) rfl (fun h5 => ?_) (fun h5 => ?_)
      · have hf := ite_t h5 hf
        refine go_iload_n (pc' := 21) hC dX12_bits_20 rfl rfl ?_
        obtain rfl := Option.some.inj hf
        exact go_iret hC hQ dX12_bits_21 rfl rfl rfl rfl rfl rfl
      · have hf := ite_f h5 hf
        refine go_iinc (lc' := [(1, .int (x1 + (1 : Int32))), (2, .int x2)]) (pc' := 11) hC dX12_bits_8 rfl ki_1 (Nat.le_of_ble_eq_true rfl) rfl rfl ?_
        refine go_iload_n (pc' := 12) hC dX12_bits_11 rfl rfl ?_
        refine go_iload_n (pc' := 13) hC dX12_bits_12 rfl rfl ?_
        refine go_iconst (pc' := 14) hC dX12_bits_13 ki_1 rfl ?_
        refine go_isub (pc' := 15) hC dX12_bits_14 rfl ?_
        refine go_iand (pc' := 16) hC dX12_bits_15 rfl ?_
        refine go_namei (fun x4 hx => ?_)
        have hf := lz_r hx hf
        clear hx
        refine go_istore_n (lc' := [(1, .int (x1 + (1 : Int32))), (2, .int x4)]) (pc' := 17) hC dX12_bits_16 (Nat.le_of_ble_eq_true rfl) rfl rfl ?_
        refine go_goto (tgt := 4) hC dX12_bits_17 (by decide) ?_
        exact ih (x1 + (1 : Int32)) x4 g hf
  refine go_sub [1, 2] rfl ?_
  exact l4_6 fuel (0 : Int32) p1 g hf
theorem dX12_isThrough_0 : decode cX12_isThrough 0 = .ok (.aload_n 0, 1) := by decide +kernel
theorem dX12_isThrough_1 : decode cX12_isThrough 1 = .ok (.iload_n 1, 1) := by decide +kernel
theorem dX12_isThrough_2 : decode cX12_isThrough 2 = .ok (.iload_n 2, 1) := by decide +kernel
theorem dX12_isThrough_3 : decode cX12_isThrough 3 = .ok (.invokevirtual 337, 3) := by decide +kernel
theorem dX12_isThrough_6 : decode cX12_isThrough 6 = .ok (.aload_n 0, 1) := by decide +kernel
theorem dX12_isThrough_7 : decode cX12_isThrough 7 = .ok (.getfield 291, 3) := by decide +kernel
theorem dX12_isThrough_10 : decode cX12_isThrough 10 = .ok (.tableswitch 128 0 3 #[30, 43, 79, 103], 30) := by decide +kernel
theorem dX12_isThrough_40 : decode cX12_isThrough 40 = .ok (.aload_n 0, 1) := by decide +kernel
theorem dX12_isThrough_41 : decode cX12_isThrough 41 = .ok (.aload_n 0, 1) := by decide +kernel
theorem dX12_isThrough_42 : decode cX12_isThrough 42 = .ok (.getfield 297, 3) := by decide +kernel
theorem dX12_isThrough_45 : decode cX12_isThrough 45 = .ok (.aload_n 0, 1) := by decide +kernel
theorem dX12_isThrough_46 : decode cX12_isThrough 46 = .ok (.getfield 300, 3) := by decide +kernel
theorem dX12_isThrough_49 : decode cX12_isThrough 49 = .ok (.invokevirtual 341, 3) := by decide +kernel
theorem dX12_isThrough_52 : decode cX12_isThrough 52 = .ok (.ireturn, 1) := by decide +kernel
theorem dX12_isThrough_53 : decode cX12_isThrough 53 = .ok (.iconst 0, 1) := by decide +kernel
theorem dX12_isThrough_54 : decode cX12_isThrough 54 = .ok (.istore_n 3, 1) := by decide +kernel
theorem dX12_isThrough_55 : decode cX12_isThrough 55 = .ok (.iload_n 3, 1) := by decide +kernel
theorem dX12_isThrough_56 : decode cX12_isThrough 56 = .ok (.aload_n 0, 1) := by decide +kernel
theorem dX12_isThrough_57 : decode cX12_isThrough 57 = .ok (.getfield 276, 3) := by decide +kernel
theorem dX12_isThrough_60 : decode cX12_isThrough 60 = .ok (.if_icmp .ge 27, 3) := by decide +kernel
theorem dX12_isThrough_63 : decode cX12_isThrough 63 = .ok (.aload_n 0, 1) := by decide +kernel
theorem dX12_isThrough_64 : decode cX12_isThrough 64 = .ok (.iload_n 3, 1) := by decide +kernel
theorem dX12_isThrough_65 : decode cX12_isThrough 65 = .ok (.invokevirtual 330, 3) := by decide +kernel
theorem dX12_isThrough_68 : decode cX12_isThrough 68 = .ok (.iconst 1, 1) := by decide +kernel
theorem dX12_isThrough_69 : decode cX12_isThrough 69 = .ok (.aload_n 0, 1) := by decide +kernel
theorem dX12_isThrough_70 : decode cX12_isThrough 70 = .ok (.getfield 276, 3) := by decide +kernel
theorem dX12_isThrough_73 : decode cX12_isThrough 73 = .ok (.ishl, 1) := by decide +kernel
theorem dX12_isThrough_74 : decode cX12_isThrough 74 = .ok (.iconst 1, 1) := by decide +kernel
theorem dX12_isThrough_75 : decode cX12_isThrough 75 = .ok (.isub, 1) := by decide +kernel
theorem dX12_isThrough_76 : decode cX12_isThrough 76 = .ok (.if_icmp .eq 5, 3) := by decide +kernel
theorem dX12_isThrough_79 : decode cX12_isThrough 79 = .ok (.iconst 0, 1) := by decide +kernel
theorem dX12_isThrough_80 : decode cX12_isThrough 80 = .ok (.ireturn, 1) := by decide +kernel
theorem dX12_isThrough_81 : decode cX12_isThrough 81 = .ok (.iinc 3 1, 3) := by decide +kernel
theorem dX12_isThrough_84 : decode cX12_isThrough 84 = .ok (.goto (-29), 3) := by decide +kernel
theorem dX12_isThrough_87 : decode cX12_isThrough 87 = .ok (.iconst 1, 1) := by decide +kernel
theorem dX12_isThrough_88 : decode cX12_isThrough 88 = .ok (.ireturn, 1) := by decide +kernel
theorem dX12_isThrough_89 : decode cX12_isThrough 89 = .ok (.aload_n 0, 1) := by decide +kernel
theorem dX12_isThrough_90 : decode cX12_isThrough 90 = .ok (.aload_n 0, 1) := by decide +kernel
theorem dX12_isThrough_91 : decode cX12_isThrough 91 = .ok (.getfield 297, 3) := by decide +kernel
theorem dX12_isThrough_94 : decode cX12_isThrough 94 = .ok (.invokevirtual 330, 3) := by decide +kernel
theorem dX12_isThrough_97 : decode cX12_isThrough 97 = .ok (.invokestatic 344, 3) := by decide +kernel
theorem dX12_isThrough_100 : decode cX12_isThrough 100 = .ok (.aload_n 0, 1) := by decide +kernel
theorem dX12_isThrough_101 : decode cX12_isThrough 101 = .ok (.getfield 294, 3) := by decide +kernel
theorem dX12_isThrough_104 : decode cX12_isThrough 104 = .ok (.if_icmp .lt 7, 3) := by decide +kernel
theorem dX12_isThrough_107 : decode cX12_isThrough 107 = .ok (.iconst 1, 1) := by decide +kernel
theorem dX12_isThrough_108 : decode cX12_isThrough 108 = .ok (.goto 4, 3) := by decide +kernel
theorem dX12_isThrough_111 : decode cX12_isThrough 111 = .ok (.iconst 0, 1) := by decide +kernel
theorem dX12_isThrough_112 : decode cX12_isThrough 112 = .ok (.ireturn, 1) := by decide +kernel
theorem dX12_isThrough_113 : decode cX12_isThrough 113 = .ok (.aload_n 0, 1) := by decide +kernel
theorem dX12_isThrough_114 : decode cX12_isThrough 114 = .ok (.aload_n 0, 1) := by decide +kernel
theorem dX12_isThrough_115 : decode cX12_isThrough 115 = .ok (.getfield 297, 3) := by decide +kernel
theorem dX12_isThrough_118 : decode cX12_isThrough 118 = .ok (.aload_n 0, 1) := by decide +kernel
theorem dX12_isThrough_119 : decode cX12_isThrough 119 = .ok (.getfield 300, 3) := by decide +kernel
theorem dX12_isThrough_122 : decode cX12_isThrough 122 = .ok (.invokevirtual 347, 3) := by decide +kernel
theorem dX12_isThrough_125 : decode cX12_isThrough 125 = .ok (.aload_n 0, 1) := by decide +kernel
theorem dX12_isThrough_126 : decode cX12_isThrough 126 = .ok (.getfield 294, 3) := by decide +kernel
theorem dX12_isThrough_129 : decode cX12_isThrough 129 = .ok (.if_icmp .gt 7, 3) := by decide +kernel
theorem dX12_isThrough_132 : decode cX12_isThrough 132 = .ok (.iconst 1, 1) := by decide +kernel
theorem dX12_isThrough_133 : decode cX12_isThrough 133 = .ok (.goto 4, 3) := by decide +kernel
theorem dX12_isThrough_136 : decode cX12_isThrough 136 = .ok (.iconst 0, 1) := by decide +kernel
theorem dX12_isThrough_137 : decode cX12_isThrough 137 = .ok (.ireturn, 1) := by decide +kernel
theorem dX12_isThrough_138 : decode cX12_isThrough 138 = .ok (.aload_n 0, 1) := by decide +kernel
theorem dX12_isThrough_139 : decode cX12_isThrough 139 = .ok (.aload_n 0, 1) := by decide +kernel
theorem dX12_isThrough_140 : decode cX12_isThrough 140 = .ok (.getfield 297, 3) := by decide +kernel
theorem dX12_isThrough_143 : decode cX12_isThrough 143 = .ok (.aload_n 0, 1) := by decide +kernel
theorem dX12_isThrough_144 : decode cX12_isThrough 144 = .ok (.getfield 300, 3) := by decide +kernel
theorem dX12_isThrough_147 : decode cX12_isThrough 147 = .ok (.invokevirtual 351, 3) := by decide +kernel
theorem dX12_isThrough_150 : decode cX12_isThrough 150 = .ok (.ireturn, 1) := by decide +kernel
abbrev o_X12_isThrough : Type := Int32 × Int32 × Int32 × (Nat → Int32) × (Nat → Int32) × (Nat → Int32)
def f_X12_isThrough_L55 (S : wd_W) (o1 : o_X12_opens) (r6 : (Int32) → (Option o_X12_isThrough)) (x5 : Int32) : Option o_X12_isThrough :=
if (S.1 20) ≤ x5 then (
some ((1 : Int32), o1.1, o1.2, (S.2.2.1 17), (S.2.2.1 18), (S.2.2.1 19))) else (
bd (f_X12_ledTo (wd_o S [(38, o1.1), (39, o1.2)] [] [(17, (S.2.2.1 17)), (18, (S.2.2.1 18)), (19, (S.2.2.1 19))] [] []) x5) fun o7 =>
if o7 = (((1 : Int32) <<< ((S.1 20) &&& 31)) - (1 : Int32)) then (
r6 (x5 + (1 : Int32))) else (
some ((0 : Int32), o1.1, o1.2, (S.2.2.1 17), (S.2.2.1 18), (S.2.2.1 19))))
def f_X12_isThrough (S : wd_W) (p1 : Int32) (p2 : Int32) : Option o_X12_isThrough :=
bd (f_X12_opens (wd_o S [(38, (S.1 38)), (39, (S.1 39))] [] [(17, (S.2.2.1 17)), (18, (S.2.2.1 18)), (19, (S.2.2.1 19))] [] []) p1 p2) fun o1 =>
if (S.1 34) = (0 : Int32) then (
bd (f_X12_leads (wd_o S [(38, o1.1), (39, o1.2)] [] [(17, (S.2.2.1 17)), (18, (S.2.2.1 18)), (19, (S.2.2.1 19))] [] []) (S.1 36) (S.1 37)) fun o2 =>
gd (okz o2) <|
some (o2, o1.1, o1.2, (S.2.2.1 17), (S.2.2.1 18), (S.2.2.1 19))) else (
if (S.1 34) = (1 : Int32) then (
it1 (f_X12_isThrough_L55 S o1) fuel (0 : Int32)) else (
if (S.1 34) = (2 : Int32) then (
bd (f_X12_ledTo (wd_o S [(38, o1.1), (39, o1.2)] [] [(17, (S.2.2.1 17)), (18, (S.2.2.1 18)), (19, (S.2.2.1 19))] [] []) (S.1 36)) fun o12 =>
bd (f_X12_bits o12) fun o13 =>
if o13 < (S.1 35) then (
some ((0 : Int32), o1.1, o1.2, (S.2.2.1 17), (S.2.2.1 18), (S.2.2.1 19))) else (
some ((1 : Int32), o1.1, o1.2, (S.2.2.1 17), (S.2.2.1 18), (S.2.2.1 19)))) else (
if (S.1 34) = (3 : Int32) then (
bd (f_X12_daysTo (wd_o S [(38, o1.1), (39, o1.2)] [] [(17, (S.2.2.1 17)), (18, (S.2.2.1 18)), (19, (S.2.2.1 19))] [] []) (S.1 36) (S.1 37)) fun o16 =>
if (S.1 35) < o16.1 then (
some ((0 : Int32), o1.1, o1.2, o16.2, (S.2.2.1 18), (S.2.2.1 19))) else (
some ((1 : Int32), o1.1, o1.2, o16.2, (S.2.2.1 18), (S.2.2.1 19)))) else (
bd (f_X12_areTwo (wd_o S [(38, o1.1), (39, o1.2)] [] [(17, (S.2.2.1 17)), (18, (S.2.2.1 18)), (19, (S.2.2.1 19))] [] []) (S.1 36) (S.1 37)) fun o19 =>
gd (okz o19.1) <|
some (o19.1, o1.1, o1.2, (S.2.2.1 17), o19.2.1, o19.2.2)))))
set_option maxRecDepth 100000 in
set_option maxHeartbeats 4000000 in
theorem c_X12_isThrough (l : Launch) (D : va_G) (q g : Nat → Nat) (cy : Nat → ClassId) (z : (Nat → Nat) × (Nat → Nat) × Nat) (S : wd_W) (p1 : Int32) (p2 : Int32) (o : o_X12_isThrough) (hf : f_X12_isThrough S p1 p2 = some o) : MX layM l yX12_isThrough cX12_isThrough 4 (some .boolean) ({ frames := 3, cells := 0, slots := 0, locals := 71 } : Room) D q g cy z [.ref (q 0), .int p1, .int p2] S (some (.int o.1)) (wd_o S [(38, o.2.1), (39, o.2.2.1)] [] [(17, o.2.2.2.1), (18, o.2.2.2.2.1), (19, o.2.2.2.2.2)] [] []) 0 0 := by
  refine mx_of (own := RX12) (lc := [(0, .ref (q 0)), (1, .int p1), (2, .int p2)]) (by decide +kernel) rfl layM_ok (Nat.le_of_ble_eq_true rfl) rfl ?_
  intro X hXl hXq hXS hC hQ
  subst hXl; subst hXq; subst hXS
  unfold f_X12_isThrough at hf
  refine go_keys (L1 := [(38, ((x_S X).1 38)), (39, ((x_S X).1 39))]) (L2 := []) (L3 := [(17, ((x_S X).2.2.1 17)), (18, ((x_S X).2.2.1 18)), (19, ((x_S X).2.2.1 19))]) (L4 := []) (L5 := []) [38, 39] [] [17, 18, 19] [] [] rfl rfl rfl rfl rfl ?_
  refine go_aload_n (pc' := 1) hC dX12_isThrough_0 rfl rfl ?_
  refine go_iload_n (pc' := 2) hC dX12_isThrough_1 rfl rfl ?_
  refine go_iload_n (pc' := 3) hC dX12_isThrough_2 rfl rfl ?_
  obtain ⟨o1, ho1, hf⟩ := bd_e hf
  refine go_callV (pc' := 6) (As := [.int p1, .int p2]) (st := []) (st' := []) (L1' := [(38, o1.1), (39, o1.2)]) (L2' := []) (L3' := [(17, ((x_S X).2.2.1 17)), (18, ((x_S X).2.2.1 18)), (19, ((x_S X).2.2.1 19))]) (L4' := []) (L5' := []) (cells' := 0) (slots' := 0) (b := 0) hC dX12_isThrough_3 ⟨mw_868, mw_871, mw_5, yd_yX12_opens, yp_yX12_opens, Nat.le_of_ble_eq_true rfl, Nat.le_of_ble_eq_true rfl, Nat.le_of_ble_eq_true rfl, Nat.le_of_ble_eq_true rfl⟩ mw_869 mw_870 layM_0 rfl rfl rfl (Nat.le_of_ble_eq_true rfl) (c_X12_opens (x_l X) (x_D X) (x_q X) g (x_cy X) (x_z X) _ p1 p2 o1 ho1) rfl rfl rfl rfl rfl rfl rfl rfl rfl rfl rfl rfl rfl rfl (fun g => ?_)
  refine go_aload_n (pc' := 7) hC dX12_isThrough_6 rfl rfl ?_
  refine go_geti (v := ((x_S X).1 34)) (pc' := 10) hC 0 34 layM_0 rfl rfl inlX12 (Nat.le_of_ble_eq_true rfl) mw_251 rfl dX12_isThrough_7 rfl rfl ?_
  by_cases h4 : ((x_S X).1 34) = (0 : Int32)
  · have hf := ite_t h4 hf
    refine go_tabIn' (v := (0 : Int32)) (tgt := 40) hC dX12_isThrough_10 h4 kt_0 (by decide) (by decide) rfl (by decide) ?_
    refine go_aload_n (pc' := 41) hC dX12_isThrough_40 rfl rfl ?_
    refine go_aload_n (pc' := 42) hC dX12_isThrough_41 rfl rfl ?_
    refine go_geti (v := ((x_S X).1 36)) (pc' := 45) hC 0 36 layM_0 rfl rfl inlX12 (Nat.le_of_ble_eq_true rfl) mw_253 rfl dX12_isThrough_42 rfl rfl ?_
    refine go_aload_n (pc' := 46) hC dX12_isThrough_45 rfl rfl ?_
    refine go_geti (v := ((x_S X).1 37)) (pc' := 49) hC 0 37 layM_0 rfl rfl inlX12 (Nat.le_of_ble_eq_true rfl) mw_254 rfl dX12_isThrough_46 rfl rfl ?_
    obtain ⟨o2, ho2, hf⟩ := bd_e hf
    refine go_callV0 (pc' := 52) (As := [.int ((x_S X).1 36), .int ((x_S X).1 37)]) (st := []) (st' := [.int o2])   (b := 0) hC dX12_isThrough_49 ⟨mw_878, mw_881, mw_5, yd_yX12_leads, yp_yX12_leads, Nat.le_of_ble_eq_true rfl, Nat.le_of_ble_eq_true rfl, Nat.le_of_ble_eq_true rfl, Nat.le_of_ble_eq_true rfl⟩ mw_879 mw_880 layM_0 rfl rfl rfl (Nat.le_of_ble_eq_true rfl) (c_X12_leads (x_l X) (x_D X) (x_q X) g (x_cy X) (x_z X) _ ((x_S X).1 36) ((x_S X).1 37) o2 ho2) rfl rfl (fun g => ?_)
    obtain ⟨h3, hf⟩ := gd_e hf
    obtain rfl := Option.some.inj hf
    exact go_iret hC hQ dX12_isThrough_52 rfl (okz_n h3) rfl rfl rfl rfl
  · have hf := ite_f h4 hf
    by_cases h11 : ((x_S X).1 34) = (1 : Int32)
    · have hf := ite_t h11 hf
      refine go_tabIn' (v := (1 : Int32)) (tgt := 53) hC dX12_isThrough_10 h11 kt_1 (by decide) (by decide) rfl (by decide) ?_
      refine go_iconst (pc' := 54) hC dX12_isThrough_53 ki_0 rfl ?_
      refine go_istore_n (lc' := [(0, .ref (x_q X 0)), (1, .int p1), (2, .int p2), (3, .int (0 : Int32))]) (pc' := 55) hC dX12_isThrough_54 (Nat.le_of_ble_eq_true rfl) rfl rfl ?_
      have l55_10 : ∀ (nn : Nat) (x5 : Int32) (g : Nat → Nat), it1 (f_X12_isThrough_L55 (x_S X) o1) nn x5 = some o → Go X layM 55 [(0, .ref (x_q X 0)), (3, .int x5)] [] g [(38, o1.1), (39, o1.2)] [] [(17, ((x_S X).2.2.1 17)), (18, ((x_S X).2.2.1 18)), (19, ((x_S X).2.2.1 19))] [] [] 0 0 := by
        intro nn
        induction nn with
        | zero =>
          intro x5 g hf
          exact none_no hf
        | succ nn ih =>
          intro x5 g hf
          have hf : f_X12_isThrough_L55 (x_S X) o1 (it1 (f_X12_isThrough_L55 (x_S X) o1) nn) x5 = some o := hf
          generalize it1 (f_X12_isThrough_L55 (x_S X) o1) nn = r6 at ih hf
          unfold f_X12_isThrough_L55 at hf
          refine go_iload_n (pc' := 56) hC dX12_isThrough_55 rfl rfl ?_
          refine go_aload_n (pc' := 57) hC dX12_isThrough_56 rfl rfl ?_
          refine go_geti (v := ((x_S X).1 20)) (pc' := 60) hC 0 20 layM_0 rfl rfl inlX12 (Nat.le_of_ble_eq_true rfl) mw_246 rfl dX12_isThrough_57 rfl rfl ?_
          refine go_icmp_ge (tgt := 87) (pc' := 63) hC dX12_isThrough_60 (by decide) rfl (fun h9 => ?_) (fun h9 => ?_)
          · have hf := ite_t h9 hf
            refine go_iconst (pc' := 88) hC dX12_isThrough_87 ki_1 rfl ?_
            obtain rfl := Option.some.inj hf
            exact go_iret hC hQ dX12_isThrough_88 rfl rfl rfl rfl rfl rfl
          · have hf := ite_f h9 hf
            refine go_aload_n (pc' := 64) hC dX12_isThrough_63 rfl rfl ?_
            refine go_iload_n (pc' := 65) hC dX12_isThrough_64 rfl rfl ?_
            obtain ⟨o7, ho7, hf⟩ := bd_e hf
            refine go_callV0 (pc' := 68) (As := [.int x5]) (st := []) (st' := [.int o7])   (b := 0) hC dX12_isThrough_65 ⟨mw_882, mw_885, mw_5, yd_yX12_ledTo, yp_yX12_ledTo, Nat.le_of_ble_eq_true rfl, Nat.le_of_ble_eq_true rfl, Nat.le_of_ble_eq_true rfl, Nat.le_of_ble_eq_true rfl⟩ mw_883 mw_884 layM_0 rfl rfl rfl (Nat.le_of_ble_eq_true rfl) (c_X12_ledTo (x_l X) (x_D X) (x_q X) g (x_cy X) (x_z X) _ x5 o7 ho7) rfl rfl (fun g => ?_)
            refine go_iconst (pc' := 69) hC dX12_isThrough_68 ki_1 rfl ?_
            refine go_aload_n (pc' := 70) hC dX12_isThrough_69 rfl rfl ?_
            refine go_geti (v := ((x_S X).1 20)) (pc' := 73) hC 0 20 layM_0 rfl rfl inlX12 (Nat.le_of_ble_eq_true rfl) mw_246 rfl dX12_isThrough_70 rfl rfl ?_
            refine go_ishl (pc' := 74) hC dX12_isThrough_73 rfl ?_
            refine go_iconst (pc' := 75) hC dX12_isThrough_74 ki_1 rfl ?_
            refine go_isub (pc' := 76) hC dX12_isThrough_75 rfl ?_
            refine go_icmp_eq (tgt := 81) (pc' := 79) hC dX12_isThrough_76 (by decide) rfl (fun h8 => ?_) (fun h8 => ?_)
            · have hf := ite_t h8 hf
              refine go_iinc (lc' := [(0, .ref (x_q X 0)), (3, .int (x5 + (1 : Int32)))]) (pc' := 84) hC dX12_isThrough_81 rfl ki_1 (Nat.le_of_ble_eq_true rfl) rfl rfl ?_
              refine go_goto (tgt := 55) hC dX12_isThrough_84 (by decide) ?_
              exact ih (x5 + (1 : Int32)) g hf
            · have hf := ite_f h8 hf
              refine go_iconst (pc' := 80) hC dX12_isThrough_79 ki_0 rfl ?_
              obtain rfl := Option.some.inj hf
              exact go_iret hC hQ dX12_isThrough_80 rfl rfl rfl rfl rfl rfl
      refine go_sub [0, 3] rfl ?_
      exact l55_10 fuel (0 : Int32) g hf
    · have hf := ite_f h11 hf
      by_cases h15 : ((x_S X).1 34) = (2 : Int32)
      · have hf := ite_t h15 hf
        refine go_tabIn' (v := (2 : Int32)) (tgt := 89) hC dX12_isThrough_10 h15 kt_2 (by decide) (by decide) rfl (by decide) ?_
        refine go_aload_n (pc' := 90) hC dX12_isThrough_89 rfl rfl ?_
        refine go_aload_n (pc' := 91) hC dX12_isThrough_90 rfl rfl ?_
        refine go_geti (v := ((x_S X).1 36)) (pc' := 94) hC 0 36 layM_0 rfl rfl inlX12 (Nat.le_of_ble_eq_true rfl) mw_253 rfl dX12_isThrough_91 rfl rfl ?_
        obtain ⟨o12, ho12, hf⟩ := bd_e hf
        refine go_callV0 (pc' := 97) (As := [.int ((x_S X).1 36)]) (st := []) (st' := [.int o12])   (b := 0) hC dX12_isThrough_94 ⟨mw_882, mw_885, mw_5, yd_yX12_ledTo, yp_yX12_ledTo, Nat.le_of_ble_eq_true rfl, Nat.le_of_ble_eq_true rfl, Nat.le_of_ble_eq_true rfl, Nat.le_of_ble_eq_true rfl⟩ mw_883 mw_884 layM_0 rfl rfl rfl (Nat.le_of_ble_eq_true rfl) (c_X12_ledTo (x_l X) (x_D X) (x_q X) g (x_cy X) (x_z X) _ ((x_S X).1 36) o12 ho12) rfl rfl (fun g => ?_)
        obtain ⟨o13, ho13, hf⟩ := bd_e hf
        refine go_callS0 (pc' := 100) (As := [.int o12]) (st := []) (st' := [.int o13])   hC dX12_isThrough_97 ⟨mw_890, mw_892, mw_5, yd_yX12_bits, yp_yX12_bits, Nat.le_of_ble_eq_true rfl, Nat.le_of_ble_eq_true rfl, Nat.le_of_ble_eq_true rfl, Nat.le_of_ble_eq_true rfl⟩ mw_891 rfl rfl (Nat.le_of_ble_eq_true rfl) (c_X12_bits (x_l X) (x_D X) (x_q X) g (x_cy X) (x_z X) _ o12 o13 ho13) rfl rfl (fun g => ?_)
        refine go_aload_n (pc' := 101) hC dX12_isThrough_100 rfl rfl ?_
        refine go_geti (v := ((x_S X).1 35)) (pc' := 104) hC 0 35 layM_0 rfl rfl inlX12 (Nat.le_of_ble_eq_true rfl) mw_252 rfl dX12_isThrough_101 rfl rfl ?_
        refine go_icmp_lt (tgt := 111) (pc' := 107) hC dX12_isThrough_104 (by decide) rfl (fun h14 => ?_) (fun h14 => ?_)
        · have hf := ite_t h14 hf
          refine go_iconst (pc' := 112) hC dX12_isThrough_111 ki_0 rfl ?_
          obtain rfl := Option.some.inj hf
          exact go_iret hC hQ dX12_isThrough_112 rfl rfl rfl rfl rfl rfl
        · have hf := ite_f h14 hf
          refine go_iconst (pc' := 108) hC dX12_isThrough_107 ki_1 rfl ?_
          refine go_goto (tgt := 112) hC dX12_isThrough_108 (by decide) ?_
          obtain rfl := Option.some.inj hf
          exact go_iret hC hQ dX12_isThrough_112 rfl rfl rfl rfl rfl rfl
      · have hf := ite_f h15 hf
        by_cases h18 : ((x_S X).1 34) = (3 : Int32)
        · have hf := ite_t h18 hf
          refine go_tabIn' (v := (3 : Int32)) (tgt := 113) hC dX12_isThrough_10 h18 kt_3 (by decide) (by decide) rfl (by decide) ?_
          refine go_aload_n (pc' := 114) hC dX12_isThrough_113 rfl rfl ?_
          refine go_aload_n (pc' := 115) hC dX12_isThrough_114 rfl rfl ?_
          refine go_geti (v := ((x_S X).1 36)) (pc' := 118) hC 0 36 layM_0 rfl rfl inlX12 (Nat.le_of_ble_eq_true rfl) mw_253 rfl dX12_isThrough_115 rfl rfl ?_
          refine go_aload_n (pc' := 119) hC dX12_isThrough_118 rfl rfl ?_
          refine go_geti (v := ((x_S X).1 37)) (pc' := 122) hC 0 37 layM_0 rfl rfl inlX12 (Nat.le_of_ble_eq_true rfl) mw_254 rfl dX12_isThrough_119 rfl rfl ?_
          obtain ⟨o16, ho16, hf⟩ := bd_e hf
          refine go_callV (pc' := 125) (As := [.int ((x_S X).1 36), .int ((x_S X).1 37)]) (st := []) (st' := [.int o16.1]) (L1' := [(38, o1.1), (39, o1.2)]) (L2' := []) (L3' := [(17, o16.2), (18, ((x_S X).2.2.1 18)), (19, ((x_S X).2.2.1 19))]) (L4' := []) (L5' := []) (cells' := 0) (slots' := 0) (b := 0) hC dX12_isThrough_122 ⟨mw_893, mw_896, mw_5, yd_yX12_daysTo, yp_yX12_daysTo, Nat.le_of_ble_eq_true rfl, Nat.le_of_ble_eq_true rfl, Nat.le_of_ble_eq_true rfl, Nat.le_of_ble_eq_true rfl⟩ mw_894 mw_895 layM_0 rfl rfl rfl (Nat.le_of_ble_eq_true rfl) (c_X12_daysTo (x_l X) (x_D X) (x_q X) g (x_cy X) (x_z X) _ ((x_S X).1 36) ((x_S X).1 37) o16 ho16) rfl rfl rfl rfl rfl rfl rfl rfl rfl rfl rfl rfl rfl rfl (fun g => ?_)
          refine go_aload_n (pc' := 126) hC dX12_isThrough_125 rfl rfl ?_
          refine go_geti (v := ((x_S X).1 35)) (pc' := 129) hC 0 35 layM_0 rfl rfl inlX12 (Nat.le_of_ble_eq_true rfl) mw_252 rfl dX12_isThrough_126 rfl rfl ?_
          refine go_icmp_gt (tgt := 136) (pc' := 132) hC dX12_isThrough_129 (by decide) rfl (fun h17 => ?_) (fun h17 => ?_)
          · have hf := ite_t h17 hf
            refine go_iconst (pc' := 137) hC dX12_isThrough_136 ki_0 rfl ?_
            obtain rfl := Option.some.inj hf
            exact go_iret hC hQ dX12_isThrough_137 rfl rfl rfl rfl rfl rfl
          · have hf := ite_f h17 hf
            refine go_iconst (pc' := 133) hC dX12_isThrough_132 ki_1 rfl ?_
            refine go_goto (tgt := 137) hC dX12_isThrough_133 (by decide) ?_
            obtain rfl := Option.some.inj hf
            exact go_iret hC hQ dX12_isThrough_137 rfl rfl rfl rfl rfl rfl
        · have hf := ite_f h18 hf
          refine go_tabOut (tgt := 138) hC dX12_isThrough_10 ?_ (by decide) ?_
          · have e0 := lv_neT h4 kt_0; have e1 := lv_neT h11 kt_1; have e2 := lv_neT h15 kt_2; have e3 := lv_neT h18 kt_3; omega
          · refine go_aload_n (pc' := 139) hC dX12_isThrough_138 rfl rfl ?_
            refine go_aload_n (pc' := 140) hC dX12_isThrough_139 rfl rfl ?_
            refine go_geti (v := ((x_S X).1 36)) (pc' := 143) hC 0 36 layM_0 rfl rfl inlX12 (Nat.le_of_ble_eq_true rfl) mw_253 rfl dX12_isThrough_140 rfl rfl ?_
            refine go_aload_n (pc' := 144) hC dX12_isThrough_143 rfl rfl ?_
            refine go_geti (v := ((x_S X).1 37)) (pc' := 147) hC 0 37 layM_0 rfl rfl inlX12 (Nat.le_of_ble_eq_true rfl) mw_254 rfl dX12_isThrough_144 rfl rfl ?_
            obtain ⟨o19, ho19, hf⟩ := bd_e hf
            refine go_callV (pc' := 150) (As := [.int ((x_S X).1 36), .int ((x_S X).1 37)]) (st := []) (st' := [.int o19.1]) (L1' := [(38, o1.1), (39, o1.2)]) (L2' := []) (L3' := [(17, ((x_S X).2.2.1 17)), (18, o19.2.1), (19, o19.2.2)]) (L4' := []) (L5' := []) (cells' := 0) (slots' := 0) (b := 0) hC dX12_isThrough_147 ⟨mw_897, mw_900, mw_5, yd_yX12_areTwo, yp_yX12_areTwo, Nat.le_of_ble_eq_true rfl, Nat.le_of_ble_eq_true rfl, Nat.le_of_ble_eq_true rfl, Nat.le_of_ble_eq_true rfl⟩ mw_898 mw_899 layM_0 rfl rfl rfl (Nat.le_of_ble_eq_true rfl) (c_X12_areTwo (x_l X) (x_D X) (x_q X) g (x_cy X) (x_z X) _ ((x_S X).1 36) ((x_S X).1 37) o19 ho19) rfl rfl rfl rfl rfl rfl rfl rfl rfl rfl rfl rfl rfl rfl (fun g => ?_)
            obtain ⟨h20, hf⟩ := gd_e hf
            obtain rfl := Option.some.inj hf
            exact go_iret hC hQ dX12_isThrough_150 rfl (okz_n h20) rfl rfl rfl rfl
theorem dX12_sets_0 : decode cX12_sets 0 = .ok (.iconst 1, 1) := by decide +kernel
theorem dX12_sets_1 : decode cX12_sets 1 = .ok (.aload_n 0, 1) := by decide +kernel
theorem dX12_sets_2 : decode cX12_sets 2 = .ok (.getfield 288, 3) := by decide +kernel
theorem dX12_sets_5 : decode cX12_sets 5 = .ok (.ishl, 1) := by decide +kernel
theorem dX12_sets_6 : decode cX12_sets 6 = .ok (.ireturn, 1) := by decide +kernel
abbrev o_X12_sets : Type := Int32
def f_X12_sets (S : wd_W) : Option o_X12_sets :=
some ((1 : Int32) <<< ((S.1 32) &&& 31))
set_option maxRecDepth 100000 in
set_option maxHeartbeats 4000000 in
theorem c_X12_sets (l : Launch) (D : va_G) (q g : Nat → Nat) (cy : Nat → ClassId) (z : (Nat → Nat) × (Nat → Nat) × Nat) (S : wd_W) (o : o_X12_sets) (hf : f_X12_sets S = some o) : MX layM l yX12_sets cX12_sets 1 (some .int) ({ frames := 0, cells := 0, slots := 0, locals := 0 } : Room) D q g cy z [.ref (q 0)] S (some (.int o)) (wd_o S [] [] [] [] []) 0 0 := by
  refine mx_of (own := RX12) (lc := [(0, .ref (q 0))]) (by decide +kernel) rfl layM_ok (Nat.le_of_ble_eq_true rfl) rfl ?_
  intro X hXl hXq hXS hC hQ
  subst hXl; subst hXq; subst hXS
  unfold f_X12_sets at hf
  refine go_iconst (pc' := 1) hC dX12_sets_0 ki_1 rfl ?_
  refine go_aload_n (pc' := 2) hC dX12_sets_1 rfl rfl ?_
  refine go_geti (v := ((x_S X).1 32)) (pc' := 5) hC 0 32 layM_0 rfl rfl inlX12 (Nat.le_of_ble_eq_true rfl) mw_250 rfl dX12_sets_2 rfl rfl ?_
  refine go_ishl (pc' := 6) hC dX12_sets_5 rfl ?_
  obtain rfl := Option.some.inj hf
  exact go_iret hC hQ dX12_sets_6 rfl rfl rfl rfl rfl rfl
theorem dX12_lays_0 : decode cX12_lays 0 = .ok (.aload_n 0, 1) := by decide +kernel
theorem dX12_lays_1 : decode cX12_lays 1 = .ok (.getfield 312, 3) := by decide +kernel
theorem dX12_lays_4 : decode cX12_lays 4 = .ok (.ifCond .eq 4, 3) := by decide +kernel
theorem dX12_lays_7 : decode cX12_lays 7 = .ok (.return_, 1) := by decide +kernel
theorem dX12_lays_8 : decode cX12_lays 8 = .ok (.aload_n 0, 1) := by decide +kernel
theorem dX12_lays_9 : decode cX12_lays 9 = .ok (.iconst 1, 1) := by decide +kernel
theorem dX12_lays_10 : decode cX12_lays 10 = .ok (.putfield 312, 3) := by decide +kernel
theorem dX12_lays_13 : decode cX12_lays 13 = .ok (.iconst 0, 1) := by decide +kernel
theorem dX12_lays_14 : decode cX12_lays 14 = .ok (.istore_n 1, 1) := by decide +kernel
theorem dX12_lays_15 : decode cX12_lays 15 = .ok (.iload_n 1, 1) := by decide +kernel
theorem dX12_lays_16 : decode cX12_lays 16 = .ok (.aload_n 0, 1) := by decide +kernel
theorem dX12_lays_17 : decode cX12_lays 17 = .ok (.invokevirtual 354, 3) := by decide +kernel
theorem dX12_lays_20 : decode cX12_lays 20 = .ok (.if_icmp .ge 21, 3) := by decide +kernel
theorem dX12_lays_23 : decode cX12_lays 23 = .ok (.aload_n 0, 1) := by decide +kernel
theorem dX12_lays_24 : decode cX12_lays 24 = .ok (.getfield 70, 3) := by decide +kernel
theorem dX12_lays_27 : decode cX12_lays 27 = .ok (.iload_n 1, 1) := by decide +kernel
theorem dX12_lays_28 : decode cX12_lays 28 = .ok (.aload_n 0, 1) := by decide +kernel
theorem dX12_lays_29 : decode cX12_lays 29 = .ok (.iload_n 1, 1) := by decide +kernel
theorem dX12_lays_30 : decode cX12_lays 30 = .ok (.iconst 0, 1) := by decide +kernel
theorem dX12_lays_31 : decode cX12_lays 31 = .ok (.invokevirtual 357, 3) := by decide +kernel
theorem dX12_lays_34 : decode cX12_lays 34 = .ok (.bastore, 1) := by decide +kernel
theorem dX12_lays_35 : decode cX12_lays 35 = .ok (.iinc 1 1, 3) := by decide +kernel
theorem dX12_lays_38 : decode cX12_lays 38 = .ok (.goto (-23), 3) := by decide +kernel
theorem dX12_lays_41 : decode cX12_lays 41 = .ok (.return_, 1) := by decide +kernel
abbrev o_X12_lays : Type := Int32 × Int32 × Int32 × (Nat → Int32) × (Nat → Int32) × (Nat → Int32) × (Nat → Int32)
def f_X12_lays_L15 (S : wd_W) (r8 : (Int32) → (Int32) → (Int32) → (Nat → Int32) → (Nat → Int32) → (Nat → Int32) → (Nat → Int32) → (Option o_X12_lays)) (x1 : Int32) (x2 : Int32) (x3 : Int32) (a4 : Nat → Int32) (a5 : Nat → Int32) (a6 : Nat → Int32) (a7 : Nat → Int32) : Option o_X12_lays :=
bd (f_X12_sets (wd_o S [(38, x2), (39, x3), (44, (1 : Int32))] [] [(17, a4), (18, a5), (19, a6), (20, a7)] [] [])) fun o9 =>
if o9 ≤ x1 then (
some (x2, x3, (1 : Int32), a4, a5, a6, a7)) else (
bd (f_X12_isThrough (wd_o S [(38, x2), (39, x3), (44, (1 : Int32))] [] [(17, a4), (18, a5), (19, a6), (20, a7)] [] []) x1 (0 : Int32)) fun o10 =>
gd (okx x1 32768) <|
lz (upd a7 x1.toNatClampNeg (vp_nar .boolean o10.1)) fun a12 =>
r8 (x1 + (1 : Int32)) o10.2.1 o10.2.2.1 o10.2.2.2.1 o10.2.2.2.2.1 o10.2.2.2.2.2 a12)
def f_X12_lays (S : wd_W) : Option o_X12_lays :=
if (S.1 44) = 0 then (
it7 (f_X12_lays_L15 S) fuel (0 : Int32) (S.1 38) (S.1 39) (S.2.2.1 17) (S.2.2.1 18) (S.2.2.1 19) (S.2.2.1 20)) else (
some ((S.1 38), (S.1 39), (S.1 44), (S.2.2.1 17), (S.2.2.1 18), (S.2.2.1 19), (S.2.2.1 20)))
set_option maxRecDepth 100000 in
set_option maxHeartbeats 4000000 in
theorem c_X12_lays (l : Launch) (D : va_G) (q g : Nat → Nat) (cy : Nat → ClassId) (z : (Nat → Nat) × (Nat → Nat) × Nat) (S : wd_W) (o : o_X12_lays) (hf : f_X12_lays S = some o) : MX layM l yX12_lays cX12_lays 2 none ({ frames := 4, cells := 0, slots := 0, locals := 94 } : Room) D q g cy z [.ref (q 0)] S (none) (wd_o S [(38, o.1), (39, o.2.1), (44, o.2.2.1)] [] [(17, o.2.2.2.1), (18, o.2.2.2.2.1), (19, o.2.2.2.2.2.1), (20, o.2.2.2.2.2.2)] [] []) 0 0 := by
  refine mx_of (own := RX12) (lc := [(0, .ref (q 0))]) (by decide +kernel) rfl layM_ok (Nat.le_of_ble_eq_true rfl) rfl ?_
  intro X hXl hXq hXS hC hQ
  subst hXl; subst hXq; subst hXS
  unfold f_X12_lays at hf
  refine go_keys (L1 := [(38, ((x_S X).1 38)), (39, ((x_S X).1 39)), (44, ((x_S X).1 44))]) (L2 := []) (L3 := [(17, ((x_S X).2.2.1 17)), (18, ((x_S X).2.2.1 18)), (19, ((x_S X).2.2.1 19)), (20, ((x_S X).2.2.1 20))]) (L4 := []) (L5 := []) [38, 39, 44] [] [17, 18, 19, 20] [] [] rfl rfl rfl rfl rfl ?_
  refine go_aload_n (pc' := 1) hC dX12_lays_0 rfl rfl ?_
  refine go_geti (v := ((x_S X).1 44)) (pc' := 4) hC 0 44 layM_0 rfl rfl inlX12 (Nat.le_of_ble_eq_true rfl) mw_258 rfl dX12_lays_1 rfl rfl ?_
  refine go_if_eq (tgt := 8) (pc' := 7) hC dX12_lays_4 (by decide) rfl (fun h15 => ?_) (fun h15 => ?_)
  · have hf := ite_t h15 hf
    refine go_aload_n (pc' := 9) hC dX12_lays_8 rfl rfl ?_
    refine go_iconst (pc' := 10) hC dX12_lays_9 ki_1 rfl ?_
    refine go_puti (L1' := [(38, ((x_S X).1 38)), (39, ((x_S X).1 39)), (44, (1 : Int32))]) (pc' := 13) hC 0 44 layM_0 rfl rfl inlX12 tyX12_ok nmX12 (Nat.le_of_ble_eq_true rfl) mw_258 rfl rfl rfl rfl dX12_lays_10 rfl rfl rfl ?_
    refine go_iconst (pc' := 14) hC dX12_lays_13 ki_0 rfl ?_
    refine go_istore_n (lc' := [(0, .ref (x_q X 0)), (1, .int (0 : Int32))]) (pc' := 15) hC dX12_lays_14 (Nat.le_of_ble_eq_true rfl) rfl rfl ?_
    have l15_14 : ∀ (nn : Nat) (x1 : Int32) (x2 : Int32) (x3 : Int32) (a4 : Nat → Int32) (a5 : Nat → Int32) (a6 : Nat → Int32) (a7 : Nat → Int32) (g : Nat → Nat), it7 (f_X12_lays_L15 (x_S X)) nn x1 x2 x3 a4 a5 a6 a7 = some o → Go X layM 15 [(0, .ref (x_q X 0)), (1, .int x1)] [] g [(38, x2), (39, x3), (44, (1 : Int32))] [] [(17, a4), (18, a5), (19, a6), (20, a7)] [] [] 0 0 := by
      intro nn
      induction nn with
      | zero =>
        intro x1 x2 x3 a4 a5 a6 a7 g hf
        exact none_no hf
      | succ nn ih =>
        intro x1 x2 x3 a4 a5 a6 a7 g hf
        have hf : f_X12_lays_L15 (x_S X) (it7 (f_X12_lays_L15 (x_S X)) nn) x1 x2 x3 a4 a5 a6 a7 = some o := hf
        generalize it7 (f_X12_lays_L15 (x_S X)) nn = r8 at ih hf
        unfold f_X12_lays_L15 at hf
        refine go_iload_n (pc' := 16) hC dX12_lays_15 rfl rfl ?_
        refine go_aload_n (pc' := 17) hC dX12_lays_16 rfl rfl ?_
        obtain ⟨o9, ho9, hf⟩ := bd_e hf
        refine go_callV0 (pc' := 20) (As := []) (st := [.int x1]) (st' := [.int o9, .int x1])   (b := 0) hC dX12_lays_17 ⟨mw_856, mw_859, mw_5, yd_yX12_sets, yp_yX12_sets, Nat.le_of_ble_eq_true rfl, Nat.le_of_ble_eq_true rfl, Nat.le_of_ble_eq_true rfl, Nat.le_of_ble_eq_true rfl⟩ mw_857 mw_858 layM_0 rfl rfl rfl (Nat.le_of_ble_eq_true rfl) (c_X12_sets (x_l X) (x_D X) (x_q X) g (x_cy X) (x_z X) _  o9 ho9) rfl rfl (fun g => ?_)
        refine go_icmp_ge (tgt := 41) (pc' := 23) hC dX12_lays_20 (by decide) rfl (fun h13 => ?_) (fun h13 => ?_)
        · have hf := ite_t h13 hf
          obtain rfl := Option.some.inj hf
          exact go_vret hC hQ dX12_lays_41 rfl rfl rfl rfl rfl
        · have hf := ite_f h13 hf
          refine go_aload_n (pc' := 24) hC dX12_lays_23 rfl rfl ?_
          refine go_getq (pc' := 27) hC 0 43 layM_0 rfl rfl inlX12 (Nat.le_of_ble_eq_true rfl) mw_201 rfl dX12_lays_24 rfl ?_
          refine go_iload_n (pc' := 28) hC dX12_lays_27 rfl rfl ?_
          refine go_aload_n (pc' := 29) hC dX12_lays_28 rfl rfl ?_
          refine go_iload_n (pc' := 30) hC dX12_lays_29 rfl rfl ?_
          refine go_iconst (pc' := 31) hC dX12_lays_30 ki_0 rfl ?_
          obtain ⟨o10, ho10, hf⟩ := bd_e hf
          refine go_callV (pc' := 34) (As := [.int x1, .int (0 : Int32)]) (st := [.int x1, .ref (x_q X 20)]) (st' := [.int o10.1, .int x1, .ref (x_q X 20)]) (L1' := [(38, o10.2.1), (39, o10.2.2.1), (44, (1 : Int32))]) (L2' := []) (L3' := [(17, o10.2.2.2.1), (18, o10.2.2.2.2.1), (19, o10.2.2.2.2.2), (20, a7)]) (L4' := []) (L5' := []) (cells' := 0) (slots' := 0) (b := 0) hC dX12_lays_31 ⟨mw_864, mw_867, mw_5, yd_yX12_isThrough, yp_yX12_isThrough, Nat.le_of_ble_eq_true rfl, Nat.le_of_ble_eq_true rfl, Nat.le_of_ble_eq_true rfl, Nat.le_of_ble_eq_true rfl⟩ mw_865 mw_866 layM_0 rfl rfl rfl (Nat.le_of_ble_eq_true rfl) (c_X12_isThrough (x_l X) (x_D X) (x_q X) g (x_cy X) (x_z X) _ x1 (0 : Int32) o10 ho10) rfl rfl rfl rfl rfl rfl rfl rfl rfl rfl rfl rfl rfl rfl (fun g => ?_)
          obtain ⟨h11, hf⟩ := gd_e hf
          refine go_zast (f := a7) (pc' := 35) hC 20 layM_20 rfl rfl dX12_lays_34 (okx_in h11) rfl rfl (fun a12 ha L3' hL => ?_)
          have hf := lz_r ha hf
          clear ha
          obtain rfl : L3' = [(17, o10.2.2.2.1), (18, o10.2.2.2.2.1), (19, o10.2.2.2.2.2), (20, a12)] := hL.symm
          refine go_iinc (lc' := [(0, .ref (x_q X 0)), (1, .int (x1 + (1 : Int32)))]) (pc' := 38) hC dX12_lays_35 rfl ki_1 (Nat.le_of_ble_eq_true rfl) rfl rfl ?_
          refine go_goto (tgt := 15) hC dX12_lays_38 (by decide) ?_
          exact ih (x1 + (1 : Int32)) o10.2.1 o10.2.2.1 o10.2.2.2.1 o10.2.2.2.2.1 o10.2.2.2.2.2 a12 g hf
    exact l15_14 fuel (0 : Int32) ((x_S X).1 38) ((x_S X).1 39) ((x_S X).2.2.1 17) ((x_S X).2.2.1 18) ((x_S X).2.2.1 19) ((x_S X).2.2.1 20) g hf
  · have hf := ite_f h15 hf
    obtain rfl := Option.some.inj hf
    exact go_vret hC hQ dX12_lays_7 rfl rfl rfl rfl rfl
theorem dX12_plain_0 : decode cX12_plain 0 = .ok (.iconst 0, 1) := by decide +kernel
theorem dX12_plain_1 : decode cX12_plain 1 = .ok (.istore_n 1, 1) := by decide +kernel
theorem dX12_plain_2 : decode cX12_plain 2 = .ok (.iload_n 1, 1) := by decide +kernel
theorem dX12_plain_3 : decode cX12_plain 3 = .ok (.aload_n 0, 1) := by decide +kernel
theorem dX12_plain_4 : decode cX12_plain 4 = .ok (.getfield 288, 3) := by decide +kernel
theorem dX12_plain_7 : decode cX12_plain 7 = .ok (.if_icmp .ge 36, 3) := by decide +kernel
theorem dX12_plain_10 : decode cX12_plain 10 = .ok (.aload_n 0, 1) := by decide +kernel
theorem dX12_plain_11 : decode cX12_plain 11 = .ok (.getfield 77, 3) := by decide +kernel
theorem dX12_plain_14 : decode cX12_plain 14 = .ok (.iload_n 1, 1) := by decide +kernel
theorem dX12_plain_15 : decode cX12_plain 15 = .ok (.aload_n 0, 1) := by decide +kernel
theorem dX12_plain_16 : decode cX12_plain 16 = .ok (.getfield 57, 3) := by decide +kernel
theorem dX12_plain_19 : decode cX12_plain 19 = .ok (.iload_n 1, 1) := by decide +kernel
theorem dX12_plain_20 : decode cX12_plain 20 = .ok (.iaload, 1) := by decide +kernel
theorem dX12_plain_21 : decode cX12_plain 21 = .ok (.iastore, 1) := by decide +kernel
theorem dX12_plain_22 : decode cX12_plain 22 = .ok (.aload_n 0, 1) := by decide +kernel
theorem dX12_plain_23 : decode cX12_plain 23 = .ok (.getfield 80, 3) := by decide +kernel
theorem dX12_plain_26 : decode cX12_plain 26 = .ok (.iload_n 1, 1) := by decide +kernel
theorem dX12_plain_27 : decode cX12_plain 27 = .ok (.bipush 16, 2) := by decide +kernel
theorem dX12_plain_29 : decode cX12_plain 29 = .ok (.aload_n 0, 1) := by decide +kernel
theorem dX12_plain_30 : decode cX12_plain 30 = .ok (.getfield 57, 3) := by decide +kernel
theorem dX12_plain_33 : decode cX12_plain 33 = .ok (.iload_n 1, 1) := by decide +kernel
theorem dX12_plain_34 : decode cX12_plain 34 = .ok (.iaload, 1) := by decide +kernel
theorem dX12_plain_35 : decode cX12_plain 35 = .ok (.isub, 1) := by decide +kernel
theorem dX12_plain_36 : decode cX12_plain 36 = .ok (.iastore, 1) := by decide +kernel
theorem dX12_plain_37 : decode cX12_plain 37 = .ok (.iinc 1 1, 3) := by decide +kernel
theorem dX12_plain_40 : decode cX12_plain 40 = .ok (.goto (-38), 3) := by decide +kernel
theorem dX12_plain_43 : decode cX12_plain 43 = .ok (.return_, 1) := by decide +kernel
abbrev o_X12_plain : Type := (Nat → Int32) × (Nat → Int32)
def f_X12_plain_L2 (S : wd_W) (r4 : (Int32) → (Nat → Int32) → (Nat → Int32) → (Option o_X12_plain)) (x1 : Int32) (a2 : Nat → Int32) (a3 : Nat → Int32) : Option o_X12_plain :=
if (S.1 32) ≤ x1 then (
some (a2, a3)) else (
gd (okx x1 15) <|
lz ((S.2.2.1 16) x1.toNatClampNeg) fun x6 =>
gd (okx x1 15) <|
lz (upd a2 x1.toNatClampNeg x6) fun a8 =>
gd (okx x1 15) <|
lz ((16 : Int32) - ((S.2.2.1 16) x1.toNatClampNeg)) fun x10 =>
gd (okx x1 15) <|
lz (upd a3 x1.toNatClampNeg x10) fun a12 =>
r4 (x1 + (1 : Int32)) a8 a12)
def f_X12_plain (S : wd_W) : Option o_X12_plain :=
it3 (f_X12_plain_L2 S) fuel (0 : Int32) (S.2.2.1 22) (S.2.2.1 23)
set_option maxRecDepth 100000 in
set_option maxHeartbeats 4000000 in
theorem c_X12_plain (l : Launch) (D : va_G) (q g : Nat → Nat) (cy : Nat → ClassId) (z : (Nat → Nat) × (Nat → Nat) × Nat) (S : wd_W) (o : o_X12_plain) (hf : f_X12_plain S = some o) : MX layM l yX12_plain cX12_plain 2 none ({ frames := 0, cells := 0, slots := 0, locals := 0 } : Room) D q g cy z [.ref (q 0)] S (none) (wd_o S [] [] [(22, o.1), (23, o.2)] [] []) 0 0 := by
  refine mx_of (own := RX12) (lc := [(0, .ref (q 0))]) (by decide +kernel) rfl layM_ok (Nat.le_of_ble_eq_true rfl) rfl ?_
  intro X hXl hXq hXS hC hQ
  subst hXl; subst hXq; subst hXS
  unfold f_X12_plain at hf
  refine go_keys (L1 := []) (L2 := []) (L3 := [(22, ((x_S X).2.2.1 22)), (23, ((x_S X).2.2.1 23))]) (L4 := []) (L5 := []) [] [] [22, 23] [] [] rfl rfl rfl rfl rfl ?_
  refine go_iconst (pc' := 1) hC dX12_plain_0 ki_0 rfl ?_
  refine go_istore_n (lc' := [(0, .ref (x_q X 0)), (1, .int (0 : Int32))]) (pc' := 2) hC dX12_plain_1 (Nat.le_of_ble_eq_true rfl) rfl rfl ?_
  have l2_14 : ∀ (nn : Nat) (x1 : Int32) (a2 : Nat → Int32) (a3 : Nat → Int32) (g : Nat → Nat), it3 (f_X12_plain_L2 (x_S X)) nn x1 a2 a3 = some o → Go X layM 2 [(0, .ref (x_q X 0)), (1, .int x1)] [] g [] [] [(22, a2), (23, a3)] [] [] 0 0 := by
    intro nn
    induction nn with
    | zero =>
      intro x1 a2 a3 g hf
      exact none_no hf
    | succ nn ih =>
      intro x1 a2 a3 g hf
      have hf : f_X12_plain_L2 (x_S X) (it3 (f_X12_plain_L2 (x_S X)) nn) x1 a2 a3 = some o := hf
      generalize it3 (f_X12_plain_L2 (x_S X)) nn = r4 at ih hf
      unfold f_X12_plain_L2 at hf
      refine go_iload_n (pc' := 3) hC dX12_plain_2 rfl rfl ?_
      refine go_aload_n (pc' := 4) hC dX12_plain_3 rfl rfl ?_
      refine go_geti (v := ((x_S X).1 32)) (pc' := 7) hC 0 32 layM_0 rfl rfl inlX12 (Nat.le_of_ble_eq_true rfl) mw_250 rfl dX12_plain_4 rfl rfl ?_
      refine go_icmp_ge (tgt := 43) (pc' := 10) hC dX12_plain_7 (by decide) rfl (fun h13 => ?_) (fun h13 => ?_)
      · have hf := ite_t h13 hf
        obtain rfl := Option.some.inj hf
        exact go_vret hC hQ dX12_plain_43 rfl rfl rfl rfl rfl
      · have hf := ite_f h13 hf
        refine go_aload_n (pc' := 11) hC dX12_plain_10 rfl rfl ?_
        refine go_getq (pc' := 14) hC 0 46 layM_0 rfl rfl inlX12 (Nat.le_of_ble_eq_true rfl) mw_203 rfl dX12_plain_11 rfl ?_
        refine go_iload_n (pc' := 15) hC dX12_plain_14 rfl rfl ?_
        refine go_aload_n (pc' := 16) hC dX12_plain_15 rfl rfl ?_
        refine go_getq (pc' := 19) hC 0 33 layM_0 rfl rfl inlX12 (Nat.le_of_ble_eq_true rfl) mw_196 rfl dX12_plain_16 rfl ?_
        refine go_iload_n (pc' := 20) hC dX12_plain_19 rfl rfl ?_
        obtain ⟨h5, hf⟩ := gd_e hf
        refine go_iald (f := ((x_S X).2.2.1 16)) (pc' := 21) hC 16 layM_16 rfl rfl dX12_plain_20 (okx_in h5) rfl ?_
        refine go_namei (fun x6 hx => ?_)
        have hf := lz_r hx hf
        clear hx
        obtain ⟨h7, hf⟩ := gd_e hf
        refine go_iast (f := a2) (pc' := 22) hC 22 layM_22 rfl rfl dX12_plain_21 (okx_in h7) rfl rfl (fun a8 ha L3' hL => ?_)
        have hf := lz_r ha hf
        clear ha
        obtain rfl : L3' = [(22, a8), (23, a3)] := hL.symm
        refine go_aload_n (pc' := 23) hC dX12_plain_22 rfl rfl ?_
        refine go_getq (pc' := 26) hC 0 47 layM_0 rfl rfl inlX12 (Nat.le_of_ble_eq_true rfl) mw_204 rfl dX12_plain_23 rfl ?_
        refine go_iload_n (pc' := 27) hC dX12_plain_26 rfl rfl ?_
        refine go_bipush (pc' := 29) hC dX12_plain_27 kb_16 rfl ?_
        refine go_aload_n (pc' := 30) hC dX12_plain_29 rfl rfl ?_
        refine go_getq (pc' := 33) hC 0 33 layM_0 rfl rfl inlX12 (Nat.le_of_ble_eq_true rfl) mw_196 rfl dX12_plain_30 rfl ?_
        refine go_iload_n (pc' := 34) hC dX12_plain_33 rfl rfl ?_
        obtain ⟨h9, hf⟩ := gd_e hf
        refine go_iald (f := ((x_S X).2.2.1 16)) (pc' := 35) hC 16 layM_16 rfl rfl dX12_plain_34 (okx_in h9) rfl ?_
        refine go_isub (pc' := 36) hC dX12_plain_35 rfl ?_
        refine go_namei (fun x10 hx => ?_)
        have hf := lz_r hx hf
        clear hx
        obtain ⟨h11, hf⟩ := gd_e hf
        refine go_iast (f := a3) (pc' := 37) hC 23 layM_23 rfl rfl dX12_plain_36 (okx_in h11) rfl rfl (fun a12 ha L3' hL => ?_)
        have hf := lz_r ha hf
        clear ha
        obtain rfl : L3' = [(22, a8), (23, a12)] := hL.symm
        refine go_iinc (lc' := [(0, .ref (x_q X 0)), (1, .int (x1 + (1 : Int32)))]) (pc' := 40) hC dX12_plain_37 rfl ki_1 (Nat.le_of_ble_eq_true rfl) rfl rfl ?_
        refine go_goto (tgt := 2) hC dX12_plain_40 (by decide) ?_
        exact ih (x1 + (1 : Int32)) a8 a12 g hf
  exact l2_14 fuel (0 : Int32) ((x_S X).2.2.1 22) ((x_S X).2.2.1 23) g hf
theorem dX12_weighs_0 : decode cX12_weighs 0 = .ok (.aload_n 0, 1) := by decide +kernel
theorem dX12_weighs_1 : decode cX12_weighs 1 = .ok (.getfield 73, 3) := by decide +kernel
theorem dX12_weighs_4 : decode cX12_weighs 4 = .ok (.iconst 0, 1) := by decide +kernel
theorem dX12_weighs_5 : decode cX12_weighs 5 = .ok (.lconst 1, 1) := by decide +kernel
theorem dX12_weighs_6 : decode cX12_weighs 6 = .ok (.lastore, 1) := by decide +kernel
theorem dX12_weighs_7 : decode cX12_weighs 7 = .ok (.iconst 0, 1) := by decide +kernel
theorem dX12_weighs_8 : decode cX12_weighs 8 = .ok (.istore_n 1, 1) := by decide +kernel
theorem dX12_weighs_9 : decode cX12_weighs 9 = .ok (.iload_n 1, 1) := by decide +kernel
theorem dX12_weighs_10 : decode cX12_weighs 10 = .ok (.aload_n 0, 1) := by decide +kernel
theorem dX12_weighs_11 : decode cX12_weighs 11 = .ok (.getfield 288, 3) := by decide +kernel
theorem dX12_weighs_14 : decode cX12_weighs 14 = .ok (.if_icmp .ge 64, 3) := by decide +kernel
theorem dX12_weighs_17 : decode cX12_weighs 17 = .ok (.iconst 0, 1) := by decide +kernel
theorem dX12_weighs_18 : decode cX12_weighs 18 = .ok (.istore_n 2, 1) := by decide +kernel
theorem dX12_weighs_19 : decode cX12_weighs 19 = .ok (.iload_n 2, 1) := by decide +kernel
theorem dX12_weighs_20 : decode cX12_weighs 20 = .ok (.iconst 1, 1) := by decide +kernel
theorem dX12_weighs_21 : decode cX12_weighs 21 = .ok (.iload_n 1, 1) := by decide +kernel
theorem dX12_weighs_22 : decode cX12_weighs 22 = .ok (.ishl, 1) := by decide +kernel
theorem dX12_weighs_23 : decode cX12_weighs 23 = .ok (.if_icmp .ge 49, 3) := by decide +kernel
theorem dX12_weighs_26 : decode cX12_weighs 26 = .ok (.aload_n 0, 1) := by decide +kernel
theorem dX12_weighs_27 : decode cX12_weighs 27 = .ok (.getfield 73, 3) := by decide +kernel
theorem dX12_weighs_30 : decode cX12_weighs 30 = .ok (.iload_n 2, 1) := by decide +kernel
theorem dX12_weighs_31 : decode cX12_weighs 31 = .ok (.iconst 1, 1) := by decide +kernel
theorem dX12_weighs_32 : decode cX12_weighs 32 = .ok (.iload_n 1, 1) := by decide +kernel
theorem dX12_weighs_33 : decode cX12_weighs 33 = .ok (.ishl, 1) := by decide +kernel
theorem dX12_weighs_34 : decode cX12_weighs 34 = .ok (.ior, 1) := by decide +kernel
theorem dX12_weighs_35 : decode cX12_weighs 35 = .ok (.aload_n 0, 1) := by decide +kernel
theorem dX12_weighs_36 : decode cX12_weighs 36 = .ok (.getfield 73, 3) := by decide +kernel
theorem dX12_weighs_39 : decode cX12_weighs 39 = .ok (.iload_n 2, 1) := by decide +kernel
theorem dX12_weighs_40 : decode cX12_weighs 40 = .ok (.laload, 1) := by decide +kernel
theorem dX12_weighs_41 : decode cX12_weighs 41 = .ok (.aload_n 0, 1) := by decide +kernel
theorem dX12_weighs_42 : decode cX12_weighs 42 = .ok (.getfield 77, 3) := by decide +kernel
theorem dX12_weighs_45 : decode cX12_weighs 45 = .ok (.iload_n 1, 1) := by decide +kernel
theorem dX12_weighs_46 : decode cX12_weighs 46 = .ok (.iaload, 1) := by decide +kernel
theorem dX12_weighs_47 : decode cX12_weighs 47 = .ok (.i2l, 1) := by decide +kernel
theorem dX12_weighs_48 : decode cX12_weighs 48 = .ok (.lmul, 1) := by decide +kernel
theorem dX12_weighs_49 : decode cX12_weighs 49 = .ok (.lastore, 1) := by decide +kernel
theorem dX12_weighs_50 : decode cX12_weighs 50 = .ok (.aload_n 0, 1) := by decide +kernel
theorem dX12_weighs_51 : decode cX12_weighs 51 = .ok (.getfield 73, 3) := by decide +kernel
theorem dX12_weighs_54 : decode cX12_weighs 54 = .ok (.iload_n 2, 1) := by decide +kernel
theorem dX12_weighs_55 : decode cX12_weighs 55 = .ok (.dup2, 1) := by decide +kernel
theorem dX12_weighs_56 : decode cX12_weighs 56 = .ok (.laload, 1) := by decide +kernel
theorem dX12_weighs_57 : decode cX12_weighs 57 = .ok (.aload_n 0, 1) := by decide +kernel
theorem dX12_weighs_58 : decode cX12_weighs 58 = .ok (.getfield 80, 3) := by decide +kernel
theorem dX12_weighs_61 : decode cX12_weighs 61 = .ok (.iload_n 1, 1) := by decide +kernel
theorem dX12_weighs_62 : decode cX12_weighs 62 = .ok (.iaload, 1) := by decide +kernel
theorem dX12_weighs_63 : decode cX12_weighs 63 = .ok (.i2l, 1) := by decide +kernel
theorem dX12_weighs_64 : decode cX12_weighs 64 = .ok (.lmul, 1) := by decide +kernel
theorem dX12_weighs_65 : decode cX12_weighs 65 = .ok (.lastore, 1) := by decide +kernel
theorem dX12_weighs_66 : decode cX12_weighs 66 = .ok (.iinc 2 1, 3) := by decide +kernel
theorem dX12_weighs_69 : decode cX12_weighs 69 = .ok (.goto (-50), 3) := by decide +kernel
theorem dX12_weighs_72 : decode cX12_weighs 72 = .ok (.iinc 1 1, 3) := by decide +kernel
theorem dX12_weighs_75 : decode cX12_weighs 75 = .ok (.goto (-66), 3) := by decide +kernel
theorem dX12_weighs_78 : decode cX12_weighs 78 = .ok (.return_, 1) := by decide +kernel
abbrev o_X12_weighs : Type := (Nat → Int64)
def f_X12_weighs_L19 (S : wd_W) (x3 : Int32) (k72_7 : (Nat → Int64) → (Option o_X12_weighs)) (r10 : (Int32) → (Nat → Int64) → (Option o_X12_weighs)) (x8 : Int32) (a9 : Nat → Int64) : Option o_X12_weighs :=
if ((1 : Int32) <<< (x3 &&& 31)) ≤ x8 then (
k72_7 a9) else (
gd (okx x8 32768) <|
gd (okx x3 15) <|
lz ((a9 x8.toNatClampNeg) * (((S.2.2.1 22) x3.toNatClampNeg).toInt64)) fun x13 =>
gd (okx (x8 ||| ((1 : Int32) <<< (x3 &&& 31))) 32768) <|
lz (vp_updL a9 (x8 ||| ((1 : Int32) <<< (x3 &&& 31))).toNatClampNeg x13) fun a15 =>
gd (okx x8 32768) <|
gd (okx x3 15) <|
lz ((a15 x8.toNatClampNeg) * (((S.2.2.1 23) x3.toNatClampNeg).toInt64)) fun x18 =>
gd (okx x8 32768) <|
lz (vp_updL a15 x8.toNatClampNeg x18) fun a20 =>
r10 (x8 + (1 : Int32)) a20)
def f_X12_weighs_L9 (S : wd_W) (r5 : (Int32) → (Nat → Int64) → (Option o_X12_weighs)) (x3 : Int32) (a4 : Nat → Int64) : Option o_X12_weighs :=
if (S.1 32) ≤ x3 then (
some a4) else (
lk (fun a6 =>
r5 (x3 + (1 : Int32)) a6) fun k72_7 =>
it2 (f_X12_weighs_L19 S x3 k72_7) fuel (0 : Int32) a4)
def f_X12_weighs (S : wd_W) : Option o_X12_weighs :=
gd (okx (0 : Int32) 32768) <|
lz (vp_updL (S.2.2.2.1 21) (0 : Int32).toNatClampNeg (1 : Int64)) fun a2 =>
it2 (f_X12_weighs_L9 S) fuel (0 : Int32) a2
set_option maxRecDepth 100000 in
set_option maxHeartbeats 4000000 in
theorem c_X12_weighs (l : Launch) (D : va_G) (q g : Nat → Nat) (cy : Nat → ClassId) (z : (Nat → Nat) × (Nat → Nat) × Nat) (S : wd_W) (o : o_X12_weighs) (hf : f_X12_weighs S = some o) : MX layM l yX12_weighs cX12_weighs 3 none ({ frames := 0, cells := 0, slots := 0, locals := 0 } : Room) D q g cy z [.ref (q 0)] S (none) (wd_o S [] [] [] [(21, o)] []) 0 0 := by
  refine mx_of (own := RX12) (lc := [(0, .ref (q 0))]) (by decide +kernel) rfl layM_ok (Nat.le_of_ble_eq_true rfl) rfl ?_
  intro X hXl hXq hXS hC hQ
  subst hXl; subst hXq; subst hXS
  unfold f_X12_weighs at hf
  refine go_keys (L1 := []) (L2 := []) (L3 := []) (L4 := [(21, ((x_S X).2.2.2.1 21))]) (L5 := []) [] [] [] [21] [] rfl rfl rfl rfl rfl ?_
  refine go_aload_n (pc' := 1) hC dX12_weighs_0 rfl rfl ?_
  refine go_getq (pc' := 4) hC 0 45 layM_0 rfl rfl inlX12 (Nat.le_of_ble_eq_true rfl) mw_202 rfl dX12_weighs_1 rfl ?_
  refine go_iconst (pc' := 5) hC dX12_weighs_4 ki_0 rfl ?_
  refine go_lconst (pc' := 6) hC dX12_weighs_5 kl_1 rfl ?_
  obtain ⟨h1, hf⟩ := gd_e hf
  refine go_last (f := ((x_S X).2.2.2.1 21)) (pc' := 7) hC 21 layM_21 rfl rfl dX12_weighs_6 (okx_in h1) rfl rfl (fun a2 ha L4' hL => ?_)
  have hf := lz_r ha hf
  clear ha
  obtain rfl : L4' = [(21, a2)] := hL.symm
  refine go_iconst (pc' := 8) hC dX12_weighs_7 ki_0 rfl ?_
  refine go_istore_n (lc' := [(0, .ref (x_q X 0)), (1, .int (0 : Int32))]) (pc' := 9) hC dX12_weighs_8 (Nat.le_of_ble_eq_true rfl) rfl rfl ?_
  have l9_24 : ∀ (nn : Nat) (x3 : Int32) (a4 : Nat → Int64) (g : Nat → Nat), it2 (f_X12_weighs_L9 (x_S X)) nn x3 a4 = some o → Go X layM 9 [(0, .ref (x_q X 0)), (1, .int x3)] [] g [] [] [] [(21, a4)] [] 0 0 := by
    intro nn
    induction nn with
    | zero =>
      intro x3 a4 g hf
      exact none_no hf
    | succ nn ih =>
      intro x3 a4 g hf
      have hf : f_X12_weighs_L9 (x_S X) (it2 (f_X12_weighs_L9 (x_S X)) nn) x3 a4 = some o := hf
      generalize it2 (f_X12_weighs_L9 (x_S X)) nn = r5 at ih hf
      unfold f_X12_weighs_L9 at hf
      refine go_iload_n (pc' := 10) hC dX12_weighs_9 rfl rfl ?_
      refine go_aload_n (pc' := 11) hC dX12_weighs_10 rfl rfl ?_
      refine go_geti (v := ((x_S X).1 32)) (pc' := 14) hC 0 32 layM_0 rfl rfl inlX12 (Nat.le_of_ble_eq_true rfl) mw_250 rfl dX12_weighs_11 rfl rfl ?_
      refine go_icmp_ge (tgt := 78) (pc' := 17) hC dX12_weighs_14 (by decide) rfl (fun h23 => ?_) (fun h23 => ?_)
      · have hf := ite_t h23 hf
        obtain rfl := Option.some.inj hf
        exact go_vret hC hQ dX12_weighs_78 rfl rfl rfl rfl rfl
      · have hf := ite_f h23 hf
        refine go_iconst (pc' := 18) hC dX12_weighs_17 ki_0 rfl ?_
        refine go_istore_n (lc' := [(0, .ref (x_q X 0)), (1, .int x3), (2, .int (0 : Int32))]) (pc' := 19) hC dX12_weighs_18 (Nat.le_of_ble_eq_true rfl) rfl rfl ?_
        obtain ⟨k72_7, hk72_7, hf⟩ := lk_e1 hf
        have jk72_7 : ∀ (a6 : Nat → Int64) (g : Nat → Nat), k72_7 a6 = some o → Go X layM 72 [(0, .ref (x_q X 0)), (1, .int x3)] [] g [] [] [] [(21, a6)] [] 0 0 := by
          intro a6 g hf
          have hf := hk72_7 a6 hf
          clear hk72_7
          refine go_iinc (lc' := [(0, .ref (x_q X 0)), (1, .int (x3 + (1 : Int32)))]) (pc' := 75) hC dX12_weighs_72 rfl ki_1 (Nat.le_of_ble_eq_true rfl) rfl rfl ?_
          refine go_goto (tgt := 9) hC dX12_weighs_75 (by decide) ?_
          exact ih (x3 + (1 : Int32)) a6 g hf
        clear hk72_7
        have l19_22 : ∀ (nn : Nat) (x8 : Int32) (a9 : Nat → Int64) (g : Nat → Nat), it2 (f_X12_weighs_L19 (x_S X) x3 k72_7) nn x8 a9 = some o → Go X layM 19 [(0, .ref (x_q X 0)), (1, .int x3), (2, .int x8)] [] g [] [] [] [(21, a9)] [] 0 0 := by
          intro nn
          induction nn with
          | zero =>
            intro x8 a9 g hf
            exact none_no hf
          | succ nn ih =>
            intro x8 a9 g hf
            have hf : f_X12_weighs_L19 (x_S X) x3 k72_7 (it2 (f_X12_weighs_L19 (x_S X) x3 k72_7) nn) x8 a9 = some o := hf
            generalize it2 (f_X12_weighs_L19 (x_S X) x3 k72_7) nn = r10 at ih hf
            unfold f_X12_weighs_L19 at hf
            refine go_iload_n (pc' := 20) hC dX12_weighs_19 rfl rfl ?_
            refine go_iconst (pc' := 21) hC dX12_weighs_20 ki_1 rfl ?_
            refine go_iload_n (pc' := 22) hC dX12_weighs_21 rfl rfl ?_
            refine go_ishl (pc' := 23) hC dX12_weighs_22 rfl ?_
            refine go_icmp_ge (tgt := 72) (pc' := 26) hC dX12_weighs_23 (by decide) rfl (fun h21 => ?_) (fun h21 => ?_)
            · have hf := ite_t h21 hf
              refine go_sub [0, 1] rfl ?_
              exact jk72_7 a9 g hf
            · have hf := ite_f h21 hf
              refine go_aload_n (pc' := 27) hC dX12_weighs_26 rfl rfl ?_
              refine go_getq (pc' := 30) hC 0 45 layM_0 rfl rfl inlX12 (Nat.le_of_ble_eq_true rfl) mw_202 rfl dX12_weighs_27 rfl ?_
              refine go_iload_n (pc' := 31) hC dX12_weighs_30 rfl rfl ?_
              refine go_iconst (pc' := 32) hC dX12_weighs_31 ki_1 rfl ?_
              refine go_iload_n (pc' := 33) hC dX12_weighs_32 rfl rfl ?_
              refine go_ishl (pc' := 34) hC dX12_weighs_33 rfl ?_
              refine go_ior (pc' := 35) hC dX12_weighs_34 rfl ?_
              refine go_aload_n (pc' := 36) hC dX12_weighs_35 rfl rfl ?_
              refine go_getq (pc' := 39) hC 0 45 layM_0 rfl rfl inlX12 (Nat.le_of_ble_eq_true rfl) mw_202 rfl dX12_weighs_36 rfl ?_
              refine go_iload_n (pc' := 40) hC dX12_weighs_39 rfl rfl ?_
              obtain ⟨h11, hf⟩ := gd_e hf
              refine go_lald (f := a9) (pc' := 41) hC 21 layM_21 rfl rfl dX12_weighs_40 (okx_in h11) rfl ?_
              refine go_aload_n (pc' := 42) hC dX12_weighs_41 rfl rfl ?_
              refine go_getq (pc' := 45) hC 0 46 layM_0 rfl rfl inlX12 (Nat.le_of_ble_eq_true rfl) mw_203 rfl dX12_weighs_42 rfl ?_
              refine go_iload_n (pc' := 46) hC dX12_weighs_45 rfl rfl ?_
              obtain ⟨h12, hf⟩ := gd_e hf
              refine go_iald (f := ((x_S X).2.2.1 22)) (pc' := 47) hC 22 layM_22 rfl rfl dX12_weighs_46 (okx_in h12) rfl ?_
              refine go_i2l (pc' := 48) hC dX12_weighs_47 rfl ?_
              refine go_lmul (pc' := 49) hC dX12_weighs_48 rfl ?_
              refine go_namel (fun x13 hx => ?_)
              have hf := lz_r hx hf
              clear hx
              obtain ⟨h14, hf⟩ := gd_e hf
              refine go_last (f := a9) (pc' := 50) hC 21 layM_21 rfl rfl dX12_weighs_49 (okx_in h14) rfl rfl (fun a15 ha L4' hL => ?_)
              have hf := lz_r ha hf
              clear ha
              obtain rfl : L4' = [(21, a15)] := hL.symm
              refine go_aload_n (pc' := 51) hC dX12_weighs_50 rfl rfl ?_
              refine go_getq (pc' := 54) hC 0 45 layM_0 rfl rfl inlX12 (Nat.le_of_ble_eq_true rfl) mw_202 rfl dX12_weighs_51 rfl ?_
              refine go_iload_n (pc' := 55) hC dX12_weighs_54 rfl rfl ?_
              refine go_dup2 (pc' := 56) hC dX12_weighs_55 rfl rfl rfl ?_
              obtain ⟨h16, hf⟩ := gd_e hf
              refine go_lald (f := a15) (pc' := 57) hC 21 layM_21 rfl rfl dX12_weighs_56 (okx_in h16) rfl ?_
              refine go_aload_n (pc' := 58) hC dX12_weighs_57 rfl rfl ?_
              refine go_getq (pc' := 61) hC 0 47 layM_0 rfl rfl inlX12 (Nat.le_of_ble_eq_true rfl) mw_204 rfl dX12_weighs_58 rfl ?_
              refine go_iload_n (pc' := 62) hC dX12_weighs_61 rfl rfl ?_
              obtain ⟨h17, hf⟩ := gd_e hf
              refine go_iald (f := ((x_S X).2.2.1 23)) (pc' := 63) hC 23 layM_23 rfl rfl dX12_weighs_62 (okx_in h17) rfl ?_
              refine go_i2l (pc' := 64) hC dX12_weighs_63 rfl ?_
              refine go_lmul (pc' := 65) hC dX12_weighs_64 rfl ?_
              refine go_namel (fun x18 hx => ?_)
              have hf := lz_r hx hf
              clear hx
              obtain ⟨h19, hf⟩ := gd_e hf
              refine go_last (f := a15) (pc' := 66) hC 21 layM_21 rfl rfl dX12_weighs_65 (okx_in h19) rfl rfl (fun a20 ha L4' hL => ?_)
              have hf := lz_r ha hf
              clear ha
              obtain rfl : L4' = [(21, a20)] := hL.symm
              refine go_iinc (lc' := [(0, .ref (x_q X 0)), (1, .int x3), (2, .int (x8 + (1 : Int32)))]) (pc' := 69) hC dX12_weighs_66 rfl ki_1 (Nat.le_of_ble_eq_true rfl) rfl rfl ?_
              refine go_goto (tgt := 19) hC dX12_weighs_69 (by decide) ?_
              exact ih (x8 + (1 : Int32)) a20 g hf
        exact l19_22 fuel (0 : Int32) a4 g hf
  exact l9_24 fuel (0 : Int32) a2 g hf
theorem dX12_together_0 : decode cX12_together 0 = .ok (.aload_n 0, 1) := by decide +kernel
theorem dX12_together_1 : decode cX12_together 1 = .ok (.invokevirtual 361, 3) := by decide +kernel
theorem dX12_together_4 : decode cX12_together 4 = .ok (.aload_n 0, 1) := by decide +kernel
theorem dX12_together_5 : decode cX12_together 5 = .ok (.invokevirtual 364, 3) := by decide +kernel
theorem dX12_together_8 : decode cX12_together 8 = .ok (.lconst 0, 1) := by decide +kernel
theorem dX12_together_9 : decode cX12_together 9 = .ok (.lstore_n 1, 1) := by decide +kernel
theorem dX12_together_10 : decode cX12_together 10 = .ok (.iconst 0, 1) := by decide +kernel
theorem dX12_together_11 : decode cX12_together 11 = .ok (.istore_n 3, 1) := by decide +kernel
theorem dX12_together_12 : decode cX12_together 12 = .ok (.iload_n 3, 1) := by decide +kernel
theorem dX12_together_13 : decode cX12_together 13 = .ok (.aload_n 0, 1) := by decide +kernel
theorem dX12_together_14 : decode cX12_together 14 = .ok (.invokevirtual 354, 3) := by decide +kernel
theorem dX12_together_17 : decode cX12_together 17 = .ok (.if_icmp .ge 31, 3) := by decide +kernel
theorem dX12_together_20 : decode cX12_together 20 = .ok (.lload_n 1, 1) := by decide +kernel
theorem dX12_together_21 : decode cX12_together 21 = .ok (.aload_n 0, 1) := by decide +kernel
theorem dX12_together_22 : decode cX12_together 22 = .ok (.getfield 70, 3) := by decide +kernel
theorem dX12_together_25 : decode cX12_together 25 = .ok (.iload_n 3, 1) := by decide +kernel
theorem dX12_together_26 : decode cX12_together 26 = .ok (.baload, 1) := by decide +kernel
theorem dX12_together_27 : decode cX12_together 27 = .ok (.ifCond .eq 12, 3) := by decide +kernel
theorem dX12_together_30 : decode cX12_together 30 = .ok (.aload_n 0, 1) := by decide +kernel
theorem dX12_together_31 : decode cX12_together 31 = .ok (.getfield 73, 3) := by decide +kernel
theorem dX12_together_34 : decode cX12_together 34 = .ok (.iload_n 3, 1) := by decide +kernel
theorem dX12_together_35 : decode cX12_together 35 = .ok (.laload, 1) := by decide +kernel
theorem dX12_together_36 : decode cX12_together 36 = .ok (.goto 4, 3) := by decide +kernel
theorem dX12_together_39 : decode cX12_together 39 = .ok (.lconst 0, 1) := by decide +kernel
theorem dX12_together_40 : decode cX12_together 40 = .ok (.ladd, 1) := by decide +kernel
theorem dX12_together_41 : decode cX12_together 41 = .ok (.lstore_n 1, 1) := by decide +kernel
theorem dX12_together_42 : decode cX12_together 42 = .ok (.iinc 3 1, 3) := by decide +kernel
theorem dX12_together_45 : decode cX12_together 45 = .ok (.goto (-33), 3) := by decide +kernel
theorem dX12_together_48 : decode cX12_together 48 = .ok (.lload_n 1, 1) := by decide +kernel
theorem dX12_together_49 : decode cX12_together 49 = .ok (.lreturn, 1) := by decide +kernel
abbrev o_X12_together : Type := Int64 × Int32 × Int32 × Int32 × (Nat → Int32) × (Nat → Int32) × (Nat → Int32) × (Nat → Int32) × (Nat → Int64)
def f_X12_together_L12 (S : wd_W) (o1 : o_X12_lays) (o2 : o_X12_weighs) (r5 : (Int64) → (Int32) → (Option o_X12_together)) (x3 : Int64) (x4 : Int32) : Option o_X12_together :=
bd (f_X12_sets (wd_o S [(38, o1.1), (39, o1.2.1), (44, o1.2.2.1)] [] [(17, o1.2.2.2.1), (18, o1.2.2.2.2.1), (19, o1.2.2.2.2.2.1), (20, o1.2.2.2.2.2.2)] [(21, o2)] [])) fun o6 =>
if o6 ≤ x4 then (
some (x3, o1.1, o1.2.1, o1.2.2.1, o1.2.2.2.1, o1.2.2.2.2.1, o1.2.2.2.2.2.1, o1.2.2.2.2.2.2, o2)) else (
gd (okx x4 32768) <|
lk (fun x8 x9 =>
lz (x9 + x8) fun x11 =>
r5 x11 (x4 + (1 : Int32))) fun k40_10 =>
if (o1.2.2.2.2.2.2 x4.toNatClampNeg) = 0 then (
k40_10 (0 : Int64) x3) else (
gd (okx x4 32768) <|
k40_10 (o2 x4.toNatClampNeg) x3))
def f_X12_together (S : wd_W) : Option o_X12_together :=
bd (f_X12_lays (wd_o S [(38, (S.1 38)), (39, (S.1 39)), (44, (S.1 44))] [] [(17, (S.2.2.1 17)), (18, (S.2.2.1 18)), (19, (S.2.2.1 19)), (20, (S.2.2.1 20))] [(21, (S.2.2.2.1 21))] [])) fun o1 =>
bd (f_X12_weighs (wd_o S [(38, o1.1), (39, o1.2.1), (44, o1.2.2.1)] [] [(17, o1.2.2.2.1), (18, o1.2.2.2.2.1), (19, o1.2.2.2.2.2.1), (20, o1.2.2.2.2.2.2)] [(21, (S.2.2.2.1 21))] [])) fun o2 =>
it2 (f_X12_together_L12 S o1 o2) fuel (0 : Int64) (0 : Int32)
set_option maxRecDepth 100000 in
set_option maxHeartbeats 4000000 in
theorem c_X12_together (l : Launch) (D : va_G) (q g : Nat → Nat) (cy : Nat → ClassId) (z : (Nat → Nat) × (Nat → Nat) × Nat) (S : wd_W) (o : o_X12_together) (hf : f_X12_together S = some o) : MX layM l yX12_together cX12_together 4 (some .long) ({ frames := 5, cells := 0, slots := 0, locals := 115 } : Room) D q g cy z [.ref (q 0)] S (some (.long o.1)) (wd_o S [(38, o.2.1), (39, o.2.2.1), (44, o.2.2.2.1)] [] [(17, o.2.2.2.2.1), (18, o.2.2.2.2.2.1), (19, o.2.2.2.2.2.2.1), (20, o.2.2.2.2.2.2.2.1)] [(21, o.2.2.2.2.2.2.2.2)] []) 0 0 := by
  refine mx_of (own := RX12) (lc := [(0, .ref (q 0))]) (by decide +kernel) rfl layM_ok (Nat.le_of_ble_eq_true rfl) rfl ?_
  intro X hXl hXq hXS hC hQ
  subst hXl; subst hXq; subst hXS
  unfold f_X12_together at hf
  refine go_keys (L1 := [(38, ((x_S X).1 38)), (39, ((x_S X).1 39)), (44, ((x_S X).1 44))]) (L2 := []) (L3 := [(17, ((x_S X).2.2.1 17)), (18, ((x_S X).2.2.1 18)), (19, ((x_S X).2.2.1 19)), (20, ((x_S X).2.2.1 20))]) (L4 := [(21, ((x_S X).2.2.2.1 21))]) (L5 := []) [38, 39, 44] [] [17, 18, 19, 20] [21] [] rfl rfl rfl rfl rfl ?_
  refine go_aload_n (pc' := 1) hC dX12_together_0 rfl rfl ?_
  obtain ⟨o1, ho1, hf⟩ := bd_e hf
  refine go_callV (pc' := 4) (As := []) (st := []) (st' := []) (L1' := [(38, o1.1), (39, o1.2.1), (44, o1.2.2.1)]) (L2' := []) (L3' := [(17, o1.2.2.2.1), (18, o1.2.2.2.2.1), (19, o1.2.2.2.2.2.1), (20, o1.2.2.2.2.2.2)]) (L4' := [(21, ((x_S X).2.2.2.1 21))]) (L5' := []) (cells' := 0) (slots' := 0) (b := 0) hC dX12_together_1 ⟨mw_860, mw_863, mw_5, yd_yX12_lays, yp_yX12_lays, Nat.le_of_ble_eq_true rfl, Nat.le_of_ble_eq_true rfl, Nat.le_of_ble_eq_true rfl, Nat.le_of_ble_eq_true rfl⟩ mw_861 mw_862 layM_0 rfl rfl rfl (Nat.le_of_ble_eq_true rfl) (c_X12_lays (x_l X) (x_D X) (x_q X) g (x_cy X) (x_z X) _  o1 ho1) rfl rfl rfl rfl rfl rfl rfl rfl rfl rfl rfl rfl rfl rfl (fun g => ?_)
  refine go_aload_n (pc' := 5) hC dX12_together_4 rfl rfl ?_
  obtain ⟨o2, ho2, hf⟩ := bd_e hf
  refine go_callV (pc' := 8) (As := []) (st := []) (st' := []) (L1' := [(38, o1.1), (39, o1.2.1), (44, o1.2.2.1)]) (L2' := []) (L3' := [(17, o1.2.2.2.1), (18, o1.2.2.2.2.1), (19, o1.2.2.2.2.2.1), (20, o1.2.2.2.2.2.2)]) (L4' := [(21, o2)]) (L5' := []) (cells' := 0) (slots' := 0) (b := 0) hC dX12_together_5 ⟨mw_935, mw_938, mw_5, yd_yX12_weighs, yp_yX12_weighs, Nat.le_of_ble_eq_true rfl, Nat.le_of_ble_eq_true rfl, Nat.le_of_ble_eq_true rfl, Nat.le_of_ble_eq_true rfl⟩ mw_936 mw_937 layM_0 rfl rfl rfl (Nat.le_of_ble_eq_true rfl) (c_X12_weighs (x_l X) (x_D X) (x_q X) g (x_cy X) (x_z X) _  o2 ho2) rfl rfl rfl rfl rfl rfl rfl rfl rfl rfl rfl rfl rfl rfl (fun g => ?_)
  refine go_lconst (pc' := 9) hC dX12_together_8 kl_0 rfl ?_
  refine go_lstore_n (lc' := [(0, .ref (x_q X 0)), (1, .long (0 : Int64))]) (pc' := 10) hC dX12_together_9 (Nat.le_of_ble_eq_true rfl) rfl rfl ?_
  refine go_iconst (pc' := 11) hC dX12_together_10 ki_0 rfl ?_
  refine go_istore_n (lc' := [(0, .ref (x_q X 0)), (1, .long (0 : Int64)), (3, .int (0 : Int32))]) (pc' := 12) hC dX12_together_11 (Nat.le_of_ble_eq_true rfl) rfl rfl ?_
  have l12_15 : ∀ (nn : Nat) (x3 : Int64) (x4 : Int32) (g : Nat → Nat), it2 (f_X12_together_L12 (x_S X) o1 o2) nn x3 x4 = some o → Go X layM 12 [(0, .ref (x_q X 0)), (1, .long x3), (3, .int x4)] [] g [(38, o1.1), (39, o1.2.1), (44, o1.2.2.1)] [] [(17, o1.2.2.2.1), (18, o1.2.2.2.2.1), (19, o1.2.2.2.2.2.1), (20, o1.2.2.2.2.2.2)] [(21, o2)] [] 0 0 := by
    intro nn
    induction nn with
    | zero =>
      intro x3 x4 g hf
      exact none_no hf
    | succ nn ih =>
      intro x3 x4 g hf
      have hf : f_X12_together_L12 (x_S X) o1 o2 (it2 (f_X12_together_L12 (x_S X) o1 o2) nn) x3 x4 = some o := hf
      generalize it2 (f_X12_together_L12 (x_S X) o1 o2) nn = r5 at ih hf
      unfold f_X12_together_L12 at hf
      refine go_iload_n (pc' := 13) hC dX12_together_12 rfl rfl ?_
      refine go_aload_n (pc' := 14) hC dX12_together_13 rfl rfl ?_
      obtain ⟨o6, ho6, hf⟩ := bd_e hf
      refine go_callV0 (pc' := 17) (As := []) (st := [.int x4]) (st' := [.int o6, .int x4])   (b := 0) hC dX12_together_14 ⟨mw_856, mw_859, mw_5, yd_yX12_sets, yp_yX12_sets, Nat.le_of_ble_eq_true rfl, Nat.le_of_ble_eq_true rfl, Nat.le_of_ble_eq_true rfl, Nat.le_of_ble_eq_true rfl⟩ mw_857 mw_858 layM_0 rfl rfl rfl (Nat.le_of_ble_eq_true rfl) (c_X12_sets (x_l X) (x_D X) (x_q X) g (x_cy X) (x_z X) _  o6 ho6) rfl rfl (fun g => ?_)
      refine go_icmp_ge (tgt := 48) (pc' := 20) hC dX12_together_17 (by decide) rfl (fun h14 => ?_) (fun h14 => ?_)
      · have hf := ite_t h14 hf
        refine go_lload_n (pc' := 49) hC dX12_together_48 rfl rfl ?_
        obtain rfl := Option.some.inj hf
        exact go_lret hC hQ dX12_together_49 rfl rfl rfl rfl rfl
      · have hf := ite_f h14 hf
        refine go_lload_n (pc' := 21) hC dX12_together_20 rfl rfl ?_
        refine go_aload_n (pc' := 22) hC dX12_together_21 rfl rfl ?_
        refine go_getq (pc' := 25) hC 0 43 layM_0 rfl rfl inlX12 (Nat.le_of_ble_eq_true rfl) mw_201 rfl dX12_together_22 rfl ?_
        refine go_iload_n (pc' := 26) hC dX12_together_25 rfl rfl ?_
        obtain ⟨h7, hf⟩ := gd_e hf
        refine go_zald (f := o1.2.2.2.2.2.2) (pc' := 27) hC 20 layM_20 rfl rfl dX12_together_26 (okx_in h7) rfl ?_
        obtain ⟨k40_10, hk40_10, hf⟩ := lk_e2 hf
        have jk40_10 : ∀ (x8 : Int64) (x9 : Int64) (g : Nat → Nat), k40_10 x8 x9 = some o → Go X layM 40 [(0, .ref (x_q X 0)), (3, .int x4)] [.long x8, .long x9] g [(38, o1.1), (39, o1.2.1), (44, o1.2.2.1)] [] [(17, o1.2.2.2.1), (18, o1.2.2.2.2.1), (19, o1.2.2.2.2.2.1), (20, o1.2.2.2.2.2.2)] [(21, o2)] [] 0 0 := by
          intro x8 x9 g hf
          have hf := hk40_10 x8 x9 hf
          clear hk40_10
          refine go_ladd (pc' := 41) hC dX12_together_40 rfl ?_
          refine go_namel (fun x11 hx => ?_)
          have hf := lz_r hx hf
          clear hx
          refine go_lstore_n (lc' := [(0, .ref (x_q X 0)), (1, .long x11), (3, .int x4)]) (pc' := 42) hC dX12_together_41 (Nat.le_of_ble_eq_true rfl) rfl rfl ?_
          refine go_iinc (lc' := [(0, .ref (x_q X 0)), (1, .long x11), (3, .int (x4 + (1 : Int32)))]) (pc' := 45) hC dX12_together_42 rfl ki_1 (Nat.le_of_ble_eq_true rfl) rfl rfl ?_
          refine go_goto (tgt := 12) hC dX12_together_45 (by decide) ?_
          exact ih x11 (x4 + (1 : Int32)) g hf
        clear hk40_10
        refine go_if_eq (tgt := 39) (pc' := 30) hC dX12_together_27 (by decide) rfl (fun h13 => ?_) (fun h13 => ?_)
        · have hf := ite_t h13 hf
          refine go_lconst (pc' := 40) hC dX12_together_39 kl_0 rfl ?_
          refine go_sub [0, 3] rfl ?_
          exact jk40_10 (0 : Int64) x3 g hf
        · have hf := ite_f h13 hf
          refine go_aload_n (pc' := 31) hC dX12_together_30 rfl rfl ?_
          refine go_getq (pc' := 34) hC 0 45 layM_0 rfl rfl inlX12 (Nat.le_of_ble_eq_true rfl) mw_202 rfl dX12_together_31 rfl ?_
          refine go_iload_n (pc' := 35) hC dX12_together_34 rfl rfl ?_
          obtain ⟨h12, hf⟩ := gd_e hf
          refine go_lald (f := o2) (pc' := 36) hC 21 layM_21 rfl rfl dX12_together_35 (okx_in h12) rfl ?_
          refine go_goto (tgt := 40) hC dX12_together_36 (by decide) ?_
          refine go_sub [0, 3] rfl ?_
          exact jk40_10 (o2 x4.toNatClampNeg) x3 g hf
  exact l12_15 fuel (0 : Int64) (0 : Int32) g hf
theorem dX12_power_0 : decode cX12_power 0 = .ok (.lconst 1, 1) := by decide +kernel
theorem dX12_power_1 : decode cX12_power 1 = .ok (.iconst 4, 1) := by decide +kernel
theorem dX12_power_2 : decode cX12_power 2 = .ok (.iload_n 1, 1) := by decide +kernel
theorem dX12_power_3 : decode cX12_power 3 = .ok (.imul, 1) := by decide +kernel
theorem dX12_power_4 : decode cX12_power 4 = .ok (.lshl, 1) := by decide +kernel
theorem dX12_power_5 : decode cX12_power 5 = .ok (.lreturn, 1) := by decide +kernel
abbrev o_X12_power : Type := Int64
def f_X12_power (p1 : Int32) : Option o_X12_power :=
some ((1 : Int64) <<< (((4 : Int32) * p1).toInt64 &&& 63))
set_option maxRecDepth 100000 in
set_option maxHeartbeats 4000000 in
theorem c_X12_power (l : Launch) (D : va_G) (q g : Nat → Nat) (cy : Nat → ClassId) (z : (Nat → Nat) × (Nat → Nat) × Nat) (S : wd_W) (p1 : Int32) (o : o_X12_power) (hf : f_X12_power p1 = some o) : MX layM l yX12_power cX12_power 2 (some .long) ({ frames := 0, cells := 0, slots := 0, locals := 0 } : Room) D q g cy z [.ref (q 0), .int p1] S (some (.long o)) (wd_o S [] [] [] [] []) 0 0 := by
  refine mx_of (own := RX12) (lc := [(0, .ref (q 0)), (1, .int p1)]) (by decide +kernel) rfl layM_ok (Nat.le_of_ble_eq_true rfl) rfl ?_
  intro X hXl hXq hXS hC hQ
  subst hXl; subst hXq; subst hXS
  unfold f_X12_power at hf
  refine go_lconst (pc' := 1) hC dX12_power_0 kl_1 rfl ?_
  refine go_iconst (pc' := 2) hC dX12_power_1 ki_4 rfl ?_
  refine go_iload_n (pc' := 3) hC dX12_power_2 rfl rfl ?_
  refine go_imul (pc' := 4) hC dX12_power_3 rfl ?_
  refine go_lshl (pc' := 5) hC dX12_power_4 rfl ?_
  obtain rfl := Option.some.inj hf
  exact go_lret hC hQ dX12_power_5 rfl rfl rfl rfl rfl
theorem dX12_isAtLeast_0 : decode cX12_isAtLeast 0 = .ok (.aload_n 0, 1) := by decide +kernel
theorem dX12_isAtLeast_1 : decode cX12_isAtLeast 1 = .ok (.getfield 288, 3) := by decide +kernel
theorem dX12_isAtLeast_4 : decode cX12_isAtLeast 4 = .ok (.ifCond .ne 22, 3) := by decide +kernel
theorem dX12_isAtLeast_7 : decode cX12_isAtLeast 7 = .ok (.ldc2_w 367, 3) := by decide +kernel
theorem dX12_isAtLeast_10 : decode cX12_isAtLeast 10 = .ok (.lload_n 1, 1) := by decide +kernel
theorem dX12_isAtLeast_11 : decode cX12_isAtLeast 11 = .ok (.lmul, 1) := by decide +kernel
theorem dX12_isAtLeast_12 : decode cX12_isAtLeast 12 = .ok (.iload_n 3, 1) := by decide +kernel
theorem dX12_isAtLeast_13 : decode cX12_isAtLeast 13 = .ok (.i2l, 1) := by decide +kernel
theorem dX12_isAtLeast_14 : decode cX12_isAtLeast 14 = .ok (.lcmp, 1) := by decide +kernel
theorem dX12_isAtLeast_15 : decode cX12_isAtLeast 15 = .ok (.ifCond .lt 7, 3) := by decide +kernel
theorem dX12_isAtLeast_18 : decode cX12_isAtLeast 18 = .ok (.iconst 1, 1) := by decide +kernel
theorem dX12_isAtLeast_19 : decode cX12_isAtLeast 19 = .ok (.goto 30, 3) := by decide +kernel
theorem dX12_isAtLeast_22 : decode cX12_isAtLeast 22 = .ok (.iconst 0, 1) := by decide +kernel
theorem dX12_isAtLeast_23 : decode cX12_isAtLeast 23 = .ok (.goto 26, 3) := by decide +kernel
theorem dX12_isAtLeast_26 : decode cX12_isAtLeast 26 = .ok (.lload_n 1, 1) := by decide +kernel
theorem dX12_isAtLeast_27 : decode cX12_isAtLeast 27 = .ok (.iload_n 3, 1) := by decide +kernel
theorem dX12_isAtLeast_28 : decode cX12_isAtLeast 28 = .ok (.i2l, 1) := by decide +kernel
theorem dX12_isAtLeast_29 : decode cX12_isAtLeast 29 = .ok (.aload_n 0, 1) := by decide +kernel
theorem dX12_isAtLeast_30 : decode cX12_isAtLeast 30 = .ok (.aload_n 0, 1) := by decide +kernel
theorem dX12_isAtLeast_31 : decode cX12_isAtLeast 31 = .ok (.getfield 288, 3) := by decide +kernel
theorem dX12_isAtLeast_34 : decode cX12_isAtLeast 34 = .ok (.iconst 1, 1) := by decide +kernel
theorem dX12_isAtLeast_35 : decode cX12_isAtLeast 35 = .ok (.isub, 1) := by decide +kernel
theorem dX12_isAtLeast_36 : decode cX12_isAtLeast 36 = .ok (.invokevirtual 369, 3) := by decide +kernel
theorem dX12_isAtLeast_39 : decode cX12_isAtLeast 39 = .ok (.lmul, 1) := by decide +kernel
theorem dX12_isAtLeast_40 : decode cX12_isAtLeast 40 = .ok (.lcmp, 1) := by decide +kernel
theorem dX12_isAtLeast_41 : decode cX12_isAtLeast 41 = .ok (.ifCond .lt 7, 3) := by decide +kernel
theorem dX12_isAtLeast_44 : decode cX12_isAtLeast 44 = .ok (.iconst 1, 1) := by decide +kernel
theorem dX12_isAtLeast_45 : decode cX12_isAtLeast 45 = .ok (.goto 4, 3) := by decide +kernel
theorem dX12_isAtLeast_48 : decode cX12_isAtLeast 48 = .ok (.iconst 0, 1) := by decide +kernel
theorem dX12_isAtLeast_49 : decode cX12_isAtLeast 49 = .ok (.ireturn, 1) := by decide +kernel
abbrev o_X12_isAtLeast : Type := Int32
def f_X12_isAtLeast (S : wd_W) (p1 : Int64) (p2 : Int32) : Option o_X12_isAtLeast :=
if (S.1 32) = 0 then (
if ((16 : Int64) * p1) < p2.toInt64 then (
some (0 : Int32)) else (
some (1 : Int32))) else (
bd (f_X12_power ((S.1 32) - (1 : Int32))) fun o1 =>
if p1 < (p2.toInt64 * o1) then (
some (0 : Int32)) else (
some (1 : Int32)))
set_option maxRecDepth 100000 in
set_option maxHeartbeats 4000000 in
theorem c_X12_isAtLeast (l : Launch) (D : va_G) (q g : Nat → Nat) (cy : Nat → ClassId) (z : (Nat → Nat) × (Nat → Nat) × Nat) (S : wd_W) (p1 : Int64) (p2 : Int32) (o : o_X12_isAtLeast) (hf : f_X12_isAtLeast S p1 p2 = some o) : MX layM l yX12_isAtLeast cX12_isAtLeast 4 (some .boolean) ({ frames := 1, cells := 0, slots := 0, locals := 21 } : Room) D q g cy z [.ref (q 0), .long p1, .int p2] S (some (.int o)) (wd_o S [] [] [] [] []) 0 0 := by
  refine mx_of (own := RX12) (lc := [(0, .ref (q 0)), (1, .long p1), (3, .int p2)]) (by decide +kernel) rfl layM_ok (Nat.le_of_ble_eq_true rfl) rfl ?_
  intro X hXl hXq hXS hC hQ
  subst hXl; subst hXq; subst hXS
  unfold f_X12_isAtLeast at hf
  refine go_aload_n (pc' := 1) hC dX12_isAtLeast_0 rfl rfl ?_
  refine go_geti (v := ((x_S X).1 32)) (pc' := 4) hC 0 32 layM_0 rfl rfl inlX12 (Nat.le_of_ble_eq_true rfl) mw_250 rfl dX12_isAtLeast_1 rfl rfl ?_
  refine go_if_ne (tgt := 26) (pc' := 7) hC dX12_isAtLeast_4 (by decide) rfl (fun h4 => ?_) (fun h4 => ?_)
  · have hf := ite_f h4 hf
    refine go_lload_n (pc' := 27) hC dX12_isAtLeast_26 rfl rfl ?_
    refine go_iload_n (pc' := 28) hC dX12_isAtLeast_27 rfl rfl ?_
    refine go_i2l (pc' := 29) hC dX12_isAtLeast_28 rfl ?_
    refine go_aload_n (pc' := 30) hC dX12_isAtLeast_29 rfl rfl ?_
    refine go_aload_n (pc' := 31) hC dX12_isAtLeast_30 rfl rfl ?_
    refine go_geti (v := ((x_S X).1 32)) (pc' := 34) hC 0 32 layM_0 rfl rfl inlX12 (Nat.le_of_ble_eq_true rfl) mw_250 rfl dX12_isAtLeast_31 rfl rfl ?_
    refine go_iconst (pc' := 35) hC dX12_isAtLeast_34 ki_1 rfl ?_
    refine go_isub (pc' := 36) hC dX12_isAtLeast_35 rfl ?_
    obtain ⟨o1, ho1, hf⟩ := bd_e hf
    refine go_callV0 (pc' := 39) (As := [.int (((x_S X).1 32) - (1 : Int32))]) (st := [.long p2.toInt64, .long p1]) (st' := [.long o1, .long p2.toInt64, .long p1])   (b := 0) hC dX12_isAtLeast_36 ⟨mw_923, mw_926, mw_5, yd_yX12_power, yp_yX12_power, Nat.le_of_ble_eq_true rfl, Nat.le_of_ble_eq_true rfl, Nat.le_of_ble_eq_true rfl, Nat.le_of_ble_eq_true rfl⟩ mw_924 mw_925 layM_0 rfl rfl rfl (Nat.le_of_ble_eq_true rfl) (c_X12_power (x_l X) (x_D X) (x_q X) g (x_cy X) (x_z X) _ (((x_S X).1 32) - (1 : Int32)) o1 ho1) rfl rfl (fun g => ?_)
    refine go_lmul (pc' := 40) hC dX12_isAtLeast_39 rfl ?_
    refine go_lcmp (pc' := 41) hC dX12_isAtLeast_40 rfl ?_
    refine go_if_lt (tgt := 48) (pc' := 44) hC dX12_isAtLeast_41 (by decide) rfl (fun h2 => ?_) (fun h2 => ?_)
    · have hf := ite_t (lg_lt.mp h2) hf
      refine go_iconst (pc' := 49) hC dX12_isAtLeast_48 ki_0 rfl ?_
      obtain rfl := Option.some.inj hf
      exact go_iret hC hQ dX12_isAtLeast_49 rfl rfl rfl rfl rfl rfl
    · have hf := ite_f (mt lg_lt.mpr h2) hf
      refine go_iconst (pc' := 45) hC dX12_isAtLeast_44 ki_1 rfl ?_
      refine go_goto (tgt := 49) hC dX12_isAtLeast_45 (by decide) ?_
      obtain rfl := Option.some.inj hf
      exact go_iret hC hQ dX12_isAtLeast_49 rfl rfl rfl rfl rfl rfl
  · have hf := ite_t h4 hf
    refine go_ldc2 (pc' := 10) hC dX12_isAtLeast_7 mw_1038 rfl ?_
    refine go_lload_n (pc' := 11) hC dX12_isAtLeast_10 rfl rfl ?_
    refine go_lmul (pc' := 12) hC dX12_isAtLeast_11 rfl ?_
    refine go_iload_n (pc' := 13) hC dX12_isAtLeast_12 rfl rfl ?_
    refine go_i2l (pc' := 14) hC dX12_isAtLeast_13 rfl ?_
    refine go_lcmp (pc' := 15) hC dX12_isAtLeast_14 rfl ?_
    refine go_if_lt (tgt := 22) (pc' := 18) hC dX12_isAtLeast_15 (by decide) rfl (fun h3 => ?_) (fun h3 => ?_)
    · have hf := ite_t (lg_lt.mp h3) hf
      refine go_iconst (pc' := 23) hC dX12_isAtLeast_22 ki_0 rfl ?_
      refine go_goto (tgt := 49) hC dX12_isAtLeast_23 (by decide) ?_
      obtain rfl := Option.some.inj hf
      exact go_iret hC hQ dX12_isAtLeast_49 rfl rfl rfl rfl rfl rfl
    · have hf := ite_f (mt lg_lt.mpr h3) hf
      refine go_iconst (pc' := 19) hC dX12_isAtLeast_18 ki_1 rfl ?_
      refine go_goto (tgt := 49) hC dX12_isAtLeast_19 (by decide) ?_
      obtain rfl := Option.some.inj hf
      exact go_iret hC hQ dX12_isAtLeast_49 rfl rfl rfl rfl rfl rfl
theorem dX12_isThing_0 : decode cX12_isThing 0 = .ok (.iload_n 1, 1) := by decide +kernel
theorem dX12_isThing_1 : decode cX12_isThing 1 = .ok (.ifCond .lt 15, 3) := by decide +kernel
theorem dX12_isThing_4 : decode cX12_isThing 4 = .ok (.iload_n 1, 1) := by decide +kernel
theorem dX12_isThing_5 : decode cX12_isThing 5 = .ok (.aload_n 0, 1) := by decide +kernel
theorem dX12_isThing_6 : decode cX12_isThing 6 = .ok (.getfield 288, 3) := by decide +kernel
theorem dX12_isThing_9 : decode cX12_isThing 9 = .ok (.if_icmp .ge 7, 3) := by decide +kernel
theorem dX12_isThing_12 : decode cX12_isThing 12 = .ok (.iconst 1, 1) := by decide +kernel
theorem dX12_isThing_13 : decode cX12_isThing 13 = .ok (.goto 4, 3) := by decide +kernel
theorem dX12_isThing_16 : decode cX12_isThing 16 = .ok (.iconst 0, 1) := by decide +kernel
theorem dX12_isThing_17 : decode cX12_isThing 17 = .ok (.ireturn, 1) := by decide +kernel
abbrev o_X12_isThing : Type := Int32
def f_X12_isThing (S : wd_W) (p1 : Int32) : Option o_X12_isThing :=
if p1 < 0 then (
some (0 : Int32)) else (
if (S.1 32) ≤ p1 then (
some (0 : Int32)) else (
some (1 : Int32)))
set_option maxRecDepth 100000 in
set_option maxHeartbeats 4000000 in
theorem c_X12_isThing (l : Launch) (D : va_G) (q g : Nat → Nat) (cy : Nat → ClassId) (z : (Nat → Nat) × (Nat → Nat) × Nat) (S : wd_W) (p1 : Int32) (o : o_X12_isThing) (hf : f_X12_isThing S p1 = some o) : MX layM l yX12_isThing cX12_isThing 2 (some .boolean) ({ frames := 0, cells := 0, slots := 0, locals := 0 } : Room) D q g cy z [.ref (q 0), .int p1] S (some (.int o)) (wd_o S [] [] [] [] []) 0 0 := by
  refine mx_of (own := RX12) (lc := [(0, .ref (q 0)), (1, .int p1)]) (by decide +kernel) rfl layM_ok (Nat.le_of_ble_eq_true rfl) rfl ?_
  intro X hXl hXq hXS hC hQ
  subst hXl; subst hXq; subst hXS
  unfold f_X12_isThing at hf
  refine go_iload_n (pc' := 1) hC dX12_isThing_0 rfl rfl ?_
  refine go_if_lt (tgt := 16) (pc' := 4) hC dX12_isThing_1 (by decide) rfl (fun h2 => ?_) (fun h2 => ?_)
  · have hf := ite_t h2 hf
    refine go_iconst (pc' := 17) hC dX12_isThing_16 ki_0 rfl ?_
    obtain rfl := Option.some.inj hf
    exact go_iret hC hQ dX12_isThing_17 rfl rfl rfl rfl rfl rfl
  · have hf := ite_f h2 hf
    refine go_iload_n (pc' := 5) hC dX12_isThing_4 rfl rfl ?_
    refine go_aload_n (pc' := 6) hC dX12_isThing_5 rfl rfl ?_
    refine go_geti (v := ((x_S X).1 32)) (pc' := 9) hC 0 32 layM_0 rfl rfl inlX12 (Nat.le_of_ble_eq_true rfl) mw_250 rfl dX12_isThing_6 rfl rfl ?_
    refine go_icmp_ge (tgt := 16) (pc' := 12) hC dX12_isThing_9 (by decide) rfl (fun h1 => ?_) (fun h1 => ?_)
    · have hf := ite_t h1 hf
      refine go_iconst (pc' := 17) hC dX12_isThing_16 ki_0 rfl ?_
      obtain rfl := Option.some.inj hf
      exact go_iret hC hQ dX12_isThing_17 rfl rfl rfl rfl rfl rfl
    · have hf := ite_f h1 hf
      refine go_iconst (pc' := 13) hC dX12_isThing_12 ki_1 rfl ?_
      refine go_goto (tgt := 17) hC dX12_isThing_13 (by decide) ?_
      obtain rfl := Option.some.inj hf
      exact go_iret hC hQ dX12_isThing_17 rfl rfl rfl rfl rfl rfl
theorem dX12_so_0 : decode cX12_so 0 = .ok (.iload_n 1, 1) := by decide +kernel
theorem dX12_so_1 : decode cX12_so 1 = .ok (.i2l, 1) := by decide +kernel
theorem dX12_so_2 : decode cX12_so 2 = .ok (.lconst 0, 1) := by decide +kernel
theorem dX12_so_3 : decode cX12_so 3 = .ok (.aload_n 0, 1) := by decide +kernel
theorem dX12_so_4 : decode cX12_so 4 = .ok (.invokevirtual 354, 3) := by decide +kernel
theorem dX12_so_7 : decode cX12_so 7 = .ok (.iconst 1, 1) := by decide +kernel
theorem dX12_so_8 : decode cX12_so 8 = .ok (.isub, 1) := by decide +kernel
theorem dX12_so_9 : decode cX12_so 9 = .ok (.i2l, 1) := by decide +kernel
theorem dX12_so_10 : decode cX12_so 10 = .ok (.invokestatic 218, 3) := by decide +kernel
theorem dX12_so_13 : decode cX12_so 13 = .ok (.ifCond .ne 5, 3) := by decide +kernel
theorem dX12_so_16 : decode cX12_so 16 = .ok (.iconst (-1), 1) := by decide +kernel
theorem dX12_so_17 : decode cX12_so 17 = .ok (.ireturn, 1) := by decide +kernel
theorem dX12_so_18 : decode cX12_so 18 = .ok (.aload_n 0, 1) := by decide +kernel
theorem dX12_so_19 : decode cX12_so 19 = .ok (.invokevirtual 361, 3) := by decide +kernel
theorem dX12_so_22 : decode cX12_so 22 = .ok (.aload_n 0, 1) := by decide +kernel
theorem dX12_so_23 : decode cX12_so 23 = .ok (.getfield 70, 3) := by decide +kernel
theorem dX12_so_26 : decode cX12_so 26 = .ok (.iload_n 1, 1) := by decide +kernel
theorem dX12_so_27 : decode cX12_so 27 = .ok (.baload, 1) := by decide +kernel
theorem dX12_so_28 : decode cX12_so 28 = .ok (.ifCond .eq 7, 3) := by decide +kernel
theorem dX12_so_31 : decode cX12_so 31 = .ok (.iconst 1, 1) := by decide +kernel
theorem dX12_so_32 : decode cX12_so 32 = .ok (.goto 4, 3) := by decide +kernel
theorem dX12_so_35 : decode cX12_so 35 = .ok (.iconst 0, 1) := by decide +kernel
theorem dX12_so_36 : decode cX12_so 36 = .ok (.ireturn, 1) := by decide +kernel
abbrev o_X12_so : Type := Int32 × Int32 × Int32 × Int32 × (Nat → Int32) × (Nat → Int32) × (Nat → Int32) × (Nat → Int32)
def f_X12_so (S : wd_W) (p1 : Int32) : Option o_X12_so :=
bd (f_X12_sets (wd_o S [(38, (S.1 38)), (39, (S.1 39)), (44, (S.1 44))] [] [(17, (S.2.2.1 17)), (18, (S.2.2.1 18)), (19, (S.2.2.1 19)), (20, (S.2.2.1 20))] [] [])) fun o1 =>
bd (f_X12_in p1.toInt64 (0 : Int64) ((o1 - (1 : Int32)).toInt64)) fun o2 =>
if o2 = 0 then (
some ((-1 : Int32), (S.1 38), (S.1 39), (S.1 44), (S.2.2.1 17), (S.2.2.1 18), (S.2.2.1 19), (S.2.2.1 20))) else (
bd (f_X12_lays (wd_o S [(38, (S.1 38)), (39, (S.1 39)), (44, (S.1 44))] [] [(17, (S.2.2.1 17)), (18, (S.2.2.1 18)), (19, (S.2.2.1 19)), (20, (S.2.2.1 20))] [] [])) fun o3 =>
gd (okx p1 32768) <|
if (o3.2.2.2.2.2.2 p1.toNatClampNeg) = 0 then (
some ((0 : Int32), o3.1, o3.2.1, o3.2.2.1, o3.2.2.2.1, o3.2.2.2.2.1, o3.2.2.2.2.2.1, o3.2.2.2.2.2.2)) else (
some ((1 : Int32), o3.1, o3.2.1, o3.2.2.1, o3.2.2.2.1, o3.2.2.2.2.1, o3.2.2.2.2.2.1, o3.2.2.2.2.2.2)))
set_option maxRecDepth 100000 in
set_option maxHeartbeats 4000000 in
theorem c_X12_so (l : Launch) (D : va_G) (q g : Nat → Nat) (cy : Nat → ClassId) (z : (Nat → Nat) × (Nat → Nat) × Nat) (S : wd_W) (p1 : Int32) (o : o_X12_so) (hf : f_X12_so S p1 = some o) : MX layM l yX12_so cX12_so 2 (some .int) ({ frames := 5, cells := 0, slots := 0, locals := 115 } : Room) D q g cy z [.ref (q 0), .int p1] S (some (.int o.1)) (wd_o S [(38, o.2.1), (39, o.2.2.1), (44, o.2.2.2.1)] [] [(17, o.2.2.2.2.1), (18, o.2.2.2.2.2.1), (19, o.2.2.2.2.2.2.1), (20, o.2.2.2.2.2.2.2)] [] []) 0 0 := by
  refine mx_of (own := RX12) (lc := [(0, .ref (q 0)), (1, .int p1)]) (by decide +kernel) rfl layM_ok (Nat.le_of_ble_eq_true rfl) rfl ?_
  intro X hXl hXq hXS hC hQ
  subst hXl; subst hXq; subst hXS
  unfold f_X12_so at hf
  refine go_keys (L1 := [(38, ((x_S X).1 38)), (39, ((x_S X).1 39)), (44, ((x_S X).1 44))]) (L2 := []) (L3 := [(17, ((x_S X).2.2.1 17)), (18, ((x_S X).2.2.1 18)), (19, ((x_S X).2.2.1 19)), (20, ((x_S X).2.2.1 20))]) (L4 := []) (L5 := []) [38, 39, 44] [] [17, 18, 19, 20] [] [] rfl rfl rfl rfl rfl ?_
  refine go_iload_n (pc' := 1) hC dX12_so_0 rfl rfl ?_
  refine go_i2l (pc' := 2) hC dX12_so_1 rfl ?_
  refine go_lconst (pc' := 3) hC dX12_so_2 kl_0 rfl ?_
  refine go_aload_n (pc' := 4) hC dX12_so_3 rfl rfl ?_
  obtain ⟨o1, ho1, hf⟩ := bd_e hf
  refine go_callV0 (pc' := 7) (As := []) (st := [.long (0 : Int64), .long p1.toInt64]) (st' := [.int o1, .long (0 : Int64), .long p1.toInt64])   (b := 0) hC dX12_so_4 ⟨mw_856, mw_859, mw_5, yd_yX12_sets, yp_yX12_sets, Nat.le_of_ble_eq_true rfl, Nat.le_of_ble_eq_true rfl, Nat.le_of_ble_eq_true rfl, Nat.le_of_ble_eq_true rfl⟩ mw_857 mw_858 layM_0 rfl rfl rfl (Nat.le_of_ble_eq_true rfl) (c_X12_sets (x_l X) (x_D X) (x_q X) g (x_cy X) (x_z X) _  o1 ho1) rfl rfl (fun g => ?_)
  refine go_iconst (pc' := 8) hC dX12_so_7 ki_1 rfl ?_
  refine go_isub (pc' := 9) hC dX12_so_8 rfl ?_
  refine go_i2l (pc' := 10) hC dX12_so_9 rfl ?_
  obtain ⟨o2, ho2, hf⟩ := bd_e hf
  refine go_callS0 (pc' := 13) (As := [.long p1.toInt64, .long (0 : Int64), .long ((o1 - (1 : Int32)).toInt64)]) (st := []) (st' := [.int o2])   hC dX12_so_10 ⟨mw_525, mw_527, mw_5, yd_yX12_in, yp_yX12_in, Nat.le_of_ble_eq_true rfl, Nat.le_of_ble_eq_true rfl, Nat.le_of_ble_eq_true rfl, Nat.le_of_ble_eq_true rfl⟩ mw_526 rfl rfl (Nat.le_of_ble_eq_true rfl) (c_X12_in (x_l X) (x_D X) (x_q X) g (x_cy X) (x_z X) _ p1.toInt64 (0 : Int64) ((o1 - (1 : Int32)).toInt64) o2 ho2) rfl rfl (fun g => ?_)
  refine go_if_ne (tgt := 18) (pc' := 16) hC dX12_so_13 (by decide) rfl (fun h6 => ?_) (fun h6 => ?_)
  · have hf := ite_f h6 hf
    refine go_aload_n (pc' := 19) hC dX12_so_18 rfl rfl ?_
    obtain ⟨o3, ho3, hf⟩ := bd_e hf
    refine go_callV (pc' := 22) (As := []) (st := []) (st' := []) (L1' := [(38, o3.1), (39, o3.2.1), (44, o3.2.2.1)]) (L2' := []) (L3' := [(17, o3.2.2.2.1), (18, o3.2.2.2.2.1), (19, o3.2.2.2.2.2.1), (20, o3.2.2.2.2.2.2)]) (L4' := []) (L5' := []) (cells' := 0) (slots' := 0) (b := 0) hC dX12_so_19 ⟨mw_860, mw_863, mw_5, yd_yX12_lays, yp_yX12_lays, Nat.le_of_ble_eq_true rfl, Nat.le_of_ble_eq_true rfl, Nat.le_of_ble_eq_true rfl, Nat.le_of_ble_eq_true rfl⟩ mw_861 mw_862 layM_0 rfl rfl rfl (Nat.le_of_ble_eq_true rfl) (c_X12_lays (x_l X) (x_D X) (x_q X) g (x_cy X) (x_z X) _  o3 ho3) rfl rfl rfl rfl rfl rfl rfl rfl rfl rfl rfl rfl rfl rfl (fun g => ?_)
    refine go_aload_n (pc' := 23) hC dX12_so_22 rfl rfl ?_
    refine go_getq (pc' := 26) hC 0 43 layM_0 rfl rfl inlX12 (Nat.le_of_ble_eq_true rfl) mw_201 rfl dX12_so_23 rfl ?_
    refine go_iload_n (pc' := 27) hC dX12_so_26 rfl rfl ?_
    obtain ⟨h4, hf⟩ := gd_e hf
    refine go_zald (f := o3.2.2.2.2.2.2) (pc' := 28) hC 20 layM_20 rfl rfl dX12_so_27 (okx_in h4) rfl ?_
    refine go_if_eq (tgt := 35) (pc' := 31) hC dX12_so_28 (by decide) rfl (fun h5 => ?_) (fun h5 => ?_)
    · have hf := ite_t h5 hf
      refine go_iconst (pc' := 36) hC dX12_so_35 ki_0 rfl ?_
      obtain rfl := Option.some.inj hf
      exact go_iret hC hQ dX12_so_36 rfl rfl rfl rfl rfl rfl
    · have hf := ite_f h5 hf
      refine go_iconst (pc' := 32) hC dX12_so_31 ki_1 rfl ?_
      refine go_goto (tgt := 36) hC dX12_so_32 (by decide) ?_
      obtain rfl := Option.some.inj hf
      exact go_iret hC hQ dX12_so_36 rfl rfl rfl rfl rfl rfl
  · have hf := ite_t h6 hf
    refine go_iconst (pc' := 17) hC dX12_so_16 ki_m1 rfl ?_
    obtain rfl := Option.some.inj hf
    exact go_iret hC hQ dX12_so_17 rfl rfl rfl rfl rfl rfl
theorem dX12_chance_0 : decode cX12_chance 0 = .ok (.iload_n 1, 1) := by decide +kernel
theorem dX12_chance_1 : decode cX12_chance 1 = .ok (.i2l, 1) := by decide +kernel
theorem dX12_chance_2 : decode cX12_chance 2 = .ok (.lconst 0, 1) := by decide +kernel
theorem dX12_chance_3 : decode cX12_chance 3 = .ok (.lconst 1, 1) := by decide +kernel
theorem dX12_chance_4 : decode cX12_chance 4 = .ok (.invokestatic 218, 3) := by decide +kernel
theorem dX12_chance_7 : decode cX12_chance 7 = .ok (.ifCond .ne 7, 3) := by decide +kernel
theorem dX12_chance_10 : decode cX12_chance 10 = .ok (.ldc2_w 373, 3) := by decide +kernel
theorem dX12_chance_13 : decode cX12_chance 13 = .ok (.lreturn, 1) := by decide +kernel
theorem dX12_chance_14 : decode cX12_chance 14 = .ok (.iload_n 1, 1) := by decide +kernel
theorem dX12_chance_15 : decode cX12_chance 15 = .ok (.iconst 1, 1) := by decide +kernel
theorem dX12_chance_16 : decode cX12_chance 16 = .ok (.if_icmp .ne 12, 3) := by decide +kernel
theorem dX12_chance_19 : decode cX12_chance 19 = .ok (.aload_n 0, 1) := by decide +kernel
theorem dX12_chance_20 : decode cX12_chance 20 = .ok (.aload_n 0, 1) := by decide +kernel
theorem dX12_chance_21 : decode cX12_chance 21 = .ok (.getfield 288, 3) := by decide +kernel
theorem dX12_chance_24 : decode cX12_chance 24 = .ok (.invokevirtual 369, 3) := by decide +kernel
theorem dX12_chance_27 : decode cX12_chance 27 = .ok (.lreturn, 1) := by decide +kernel
theorem dX12_chance_28 : decode cX12_chance 28 = .ok (.aload_n 0, 1) := by decide +kernel
theorem dX12_chance_29 : decode cX12_chance 29 = .ok (.invokevirtual 375, 3) := by decide +kernel
theorem dX12_chance_32 : decode cX12_chance 32 = .ok (.aload_n 0, 1) := by decide +kernel
theorem dX12_chance_33 : decode cX12_chance 33 = .ok (.invokevirtual 378, 3) := by decide +kernel
theorem dX12_chance_36 : decode cX12_chance 36 = .ok (.lreturn, 1) := by decide +kernel
abbrev o_X12_chance : Type := Int64 × Int32 × Int32 × Int32 × (Nat → Int32) × (Nat → Int32) × (Nat → Int32) × (Nat → Int32) × (Nat → Int32) × (Nat → Int32) × (Nat → Int64)
def f_X12_chance (S : wd_W) (p1 : Int32) : Option o_X12_chance :=
bd (f_X12_in p1.toInt64 (0 : Int64) (1 : Int64)) fun o1 =>
if o1 = 0 then (
some ((-1 : Int64), (S.1 38), (S.1 39), (S.1 44), (S.2.2.1 17), (S.2.2.1 18), (S.2.2.1 19), (S.2.2.1 20), (S.2.2.1 22), (S.2.2.1 23), (S.2.2.2.1 21))) else (
if p1 = (1 : Int32) then (
bd (f_X12_power (S.1 32)) fun o4 =>
some (o4, (S.1 38), (S.1 39), (S.1 44), (S.2.2.1 17), (S.2.2.1 18), (S.2.2.1 19), (S.2.2.1 20), (S.2.2.1 22), (S.2.2.1 23), (S.2.2.2.1 21))) else (
bd (f_X12_plain (wd_o S [(38, (S.1 38)), (39, (S.1 39)), (44, (S.1 44))] [] [(17, (S.2.2.1 17)), (18, (S.2.2.1 18)), (19, (S.2.2.1 19)), (20, (S.2.2.1 20)), (22, (S.2.2.1 22)), (23, (S.2.2.1 23))] [(21, (S.2.2.2.1 21))] [])) fun o2 =>
bd (f_X12_together (wd_o S [(38, (S.1 38)), (39, (S.1 39)), (44, (S.1 44))] [] [(17, (S.2.2.1 17)), (18, (S.2.2.1 18)), (19, (S.2.2.1 19)), (20, (S.2.2.1 20)), (22, o2.1), (23, o2.2)] [(21, (S.2.2.2.1 21))] [])) fun o3 =>
some (o3.1, o3.2.1, o3.2.2.1, o3.2.2.2.1, o3.2.2.2.2.1, o3.2.2.2.2.2.1, o3.2.2.2.2.2.2.1, o3.2.2.2.2.2.2.2.1, o2.1, o2.2, o3.2.2.2.2.2.2.2.2)))
set_option maxRecDepth 100000 in
set_option maxHeartbeats 4000000 in
theorem c_X12_chance (l : Launch) (D : va_G) (q g : Nat → Nat) (cy : Nat → ClassId) (z : (Nat → Nat) × (Nat → Nat) × Nat) (S : wd_W) (p1 : Int32) (o : o_X12_chance) (hf : f_X12_chance S p1 = some o) : MX layM l yX12_chance cX12_chance 2 (some .long) ({ frames := 6, cells := 0, slots := 0, locals := 138 } : Room) D q g cy z [.ref (q 0), .int p1] S (some (.long o.1)) (wd_o S [(38, o.2.1), (39, o.2.2.1), (44, o.2.2.2.1)] [] [(17, o.2.2.2.2.1), (18, o.2.2.2.2.2.1), (19, o.2.2.2.2.2.2.1), (20, o.2.2.2.2.2.2.2.1), (22, o.2.2.2.2.2.2.2.2.1), (23, o.2.2.2.2.2.2.2.2.2.1)] [(21, o.2.2.2.2.2.2.2.2.2.2)] []) 0 0 := by
  refine mx_of (own := RX12) (lc := [(0, .ref (q 0)), (1, .int p1)]) (by decide +kernel) rfl layM_ok (Nat.le_of_ble_eq_true rfl) rfl ?_
  intro X hXl hXq hXS hC hQ
  subst hXl; subst hXq; subst hXS
  unfold f_X12_chance at hf
  refine go_keys (L1 := [(38, ((x_S X).1 38)), (39, ((x_S X).1 39)), (44, ((x_S X).1 44))]) (L2 := []) (L3 := [(17, ((x_S X).2.2.1 17)), (18, ((x_S X).2.2.1 18)), (19, ((x_S X).2.2.1 19)), (20, ((x_S X).2.2.1 20)), (22, ((x_S X).2.2.1 22)), (23, ((x_S X).2.2.1 23))]) (L4 := [(21, ((x_S X).2.2.2.1 21))]) (L5 := []) [38, 39, 44] [] [17, 18, 19, 20, 22, 23] [21] [] rfl rfl rfl rfl rfl ?_
  refine go_iload_n (pc' := 1) hC dX12_chance_0 rfl rfl ?_
  refine go_i2l (pc' := 2) hC dX12_chance_1 rfl ?_
  refine go_lconst (pc' := 3) hC dX12_chance_2 kl_0 rfl ?_
  refine go_lconst (pc' := 4) hC dX12_chance_3 kl_1 rfl ?_
  obtain ⟨o1, ho1, hf⟩ := bd_e hf
  refine go_callS0 (pc' := 7) (As := [.long p1.toInt64, .long (0 : Int64), .long (1 : Int64)]) (st := []) (st' := [.int o1])   hC dX12_chance_4 ⟨mw_525, mw_527, mw_5, yd_yX12_in, yp_yX12_in, Nat.le_of_ble_eq_true rfl, Nat.le_of_ble_eq_true rfl, Nat.le_of_ble_eq_true rfl, Nat.le_of_ble_eq_true rfl⟩ mw_526 rfl rfl (Nat.le_of_ble_eq_true rfl) (c_X12_in (x_l X) (x_D X) (x_q X) g (x_cy X) (x_z X) _ p1.toInt64 (0 : Int64) (1 : Int64) o1 ho1) rfl rfl (fun g => ?_)
  refine go_if_ne (tgt := 14) (pc' := 10) hC dX12_chance_7 (by decide) rfl (fun h6 => ?_) (fun h6 => ?_)
  · have hf := ite_f h6 hf
    refine go_iload_n (pc' := 15) hC dX12_chance_14 rfl rfl ?_
    refine go_iconst (pc' := 16) hC dX12_chance_15 ki_1 rfl ?_
    refine go_icmp_ne (tgt := 28) (pc' := 19) hC dX12_chance_16 (by decide) rfl (fun h5 => ?_) (fun h5 => ?_)
    · have hf := ite_f h5 hf
      refine go_aload_n (pc' := 29) hC dX12_chance_28 rfl rfl ?_
      obtain ⟨o2, ho2, hf⟩ := bd_e hf
      refine go_callV (pc' := 32) (As := []) (st := []) (st' := []) (L1' := [(38, ((x_S X).1 38)), (39, ((x_S X).1 39)), (44, ((x_S X).1 44))]) (L2' := []) (L3' := [(17, ((x_S X).2.2.1 17)), (18, ((x_S X).2.2.1 18)), (19, ((x_S X).2.2.1 19)), (20, ((x_S X).2.2.1 20)), (22, o2.1), (23, o2.2)]) (L4' := [(21, ((x_S X).2.2.2.1 21))]) (L5' := []) (cells' := 0) (slots' := 0) (b := 0) hC dX12_chance_29 ⟨mw_927, mw_930, mw_5, yd_yX12_plain, yp_yX12_plain, Nat.le_of_ble_eq_true rfl, Nat.le_of_ble_eq_true rfl, Nat.le_of_ble_eq_true rfl, Nat.le_of_ble_eq_true rfl⟩ mw_928 mw_929 layM_0 rfl rfl rfl (Nat.le_of_ble_eq_true rfl) (c_X12_plain (x_l X) (x_D X) (x_q X) g (x_cy X) (x_z X) _  o2 ho2) rfl rfl rfl rfl rfl rfl rfl rfl rfl rfl rfl rfl rfl rfl (fun g => ?_)
      refine go_aload_n (pc' := 33) hC dX12_chance_32 rfl rfl ?_
      obtain ⟨o3, ho3, hf⟩ := bd_e hf
      refine go_callV (pc' := 36) (As := []) (st := []) (st' := [.long o3.1]) (L1' := [(38, o3.2.1), (39, o3.2.2.1), (44, o3.2.2.2.1)]) (L2' := []) (L3' := [(17, o3.2.2.2.2.1), (18, o3.2.2.2.2.2.1), (19, o3.2.2.2.2.2.2.1), (20, o3.2.2.2.2.2.2.2.1), (22, o2.1), (23, o2.2)]) (L4' := [(21, o3.2.2.2.2.2.2.2.2)]) (L5' := []) (cells' := 0) (slots' := 0) (b := 0) hC dX12_chance_33 ⟨mw_931, mw_934, mw_5, yd_yX12_together, yp_yX12_together, Nat.le_of_ble_eq_true rfl, Nat.le_of_ble_eq_true rfl, Nat.le_of_ble_eq_true rfl, Nat.le_of_ble_eq_true rfl⟩ mw_932 mw_933 layM_0 rfl rfl rfl (Nat.le_of_ble_eq_true rfl) (c_X12_together (x_l X) (x_D X) (x_q X) g (x_cy X) (x_z X) _  o3 ho3) rfl rfl rfl rfl rfl rfl rfl rfl rfl rfl rfl rfl rfl rfl (fun g => ?_)
      obtain rfl := Option.some.inj hf
      exact go_lret hC hQ dX12_chance_36 rfl rfl rfl rfl rfl
    · have hf := ite_t h5 hf
      refine go_aload_n (pc' := 20) hC dX12_chance_19 rfl rfl ?_
      refine go_aload_n (pc' := 21) hC dX12_chance_20 rfl rfl ?_
      refine go_geti (v := ((x_S X).1 32)) (pc' := 24) hC 0 32 layM_0 rfl rfl inlX12 (Nat.le_of_ble_eq_true rfl) mw_250 rfl dX12_chance_21 rfl rfl ?_
      obtain ⟨o4, ho4, hf⟩ := bd_e hf
      refine go_callV0 (pc' := 27) (As := [.int ((x_S X).1 32)]) (st := []) (st' := [.long o4])   (b := 0) hC dX12_chance_24 ⟨mw_923, mw_926, mw_5, yd_yX12_power, yp_yX12_power, Nat.le_of_ble_eq_true rfl, Nat.le_of_ble_eq_true rfl, Nat.le_of_ble_eq_true rfl, Nat.le_of_ble_eq_true rfl⟩ mw_924 mw_925 layM_0 rfl rfl rfl (Nat.le_of_ble_eq_true rfl) (c_X12_power (x_l X) (x_D X) (x_q X) g (x_cy X) (x_z X) _ ((x_S X).1 32) o4 ho4) rfl rfl (fun g => ?_)
      obtain rfl := Option.some.inj hf
      exact go_lret hC hQ dX12_chance_27 rfl rfl rfl rfl rfl
  · have hf := ite_t h6 hf
    refine go_ldc2 (pc' := 13) hC dX12_chance_10 mw_922 rfl ?_
    obtain rfl := Option.some.inj hf
    exact go_lret hC hQ dX12_chance_13 rfl rfl rfl rfl rfl
theorem dX12_sureOf_0 : decode cX12_sureOf 0 = .ok (.aload_n 0, 1) := by decide +kernel
theorem dX12_sureOf_1 : decode cX12_sureOf 1 = .ok (.invokevirtual 375, 3) := by decide +kernel
theorem dX12_sureOf_4 : decode cX12_sureOf 4 = .ok (.aload_n 0, 1) := by decide +kernel
theorem dX12_sureOf_5 : decode cX12_sureOf 5 = .ok (.getfield 77, 3) := by decide +kernel
theorem dX12_sureOf_8 : decode cX12_sureOf 8 = .ok (.iload_n 1, 1) := by decide +kernel
theorem dX12_sureOf_9 : decode cX12_sureOf 9 = .ok (.iload_n 2, 1) := by decide +kernel
theorem dX12_sureOf_10 : decode cX12_sureOf 10 = .ok (.ifCond .eq 7, 3) := by decide +kernel
theorem dX12_sureOf_13 : decode cX12_sureOf 13 = .ok (.iconst 1, 1) := by decide +kernel
theorem dX12_sureOf_14 : decode cX12_sureOf 14 = .ok (.goto 4, 3) := by decide +kernel
theorem dX12_sureOf_17 : decode cX12_sureOf 17 = .ok (.iconst 0, 1) := by decide +kernel
theorem dX12_sureOf_18 : decode cX12_sureOf 18 = .ok (.iastore, 1) := by decide +kernel
theorem dX12_sureOf_19 : decode cX12_sureOf 19 = .ok (.aload_n 0, 1) := by decide +kernel
theorem dX12_sureOf_20 : decode cX12_sureOf 20 = .ok (.getfield 80, 3) := by decide +kernel
theorem dX12_sureOf_23 : decode cX12_sureOf 23 = .ok (.iload_n 1, 1) := by decide +kernel
theorem dX12_sureOf_24 : decode cX12_sureOf 24 = .ok (.iload_n 2, 1) := by decide +kernel
theorem dX12_sureOf_25 : decode cX12_sureOf 25 = .ok (.ifCond .eq 7, 3) := by decide +kernel
theorem dX12_sureOf_28 : decode cX12_sureOf 28 = .ok (.iconst 0, 1) := by decide +kernel
theorem dX12_sureOf_29 : decode cX12_sureOf 29 = .ok (.goto 4, 3) := by decide +kernel
theorem dX12_sureOf_32 : decode cX12_sureOf 32 = .ok (.iconst 1, 1) := by decide +kernel
theorem dX12_sureOf_33 : decode cX12_sureOf 33 = .ok (.iastore, 1) := by decide +kernel
theorem dX12_sureOf_34 : decode cX12_sureOf 34 = .ok (.aload_n 0, 1) := by decide +kernel
theorem dX12_sureOf_35 : decode cX12_sureOf 35 = .ok (.invokevirtual 378, 3) := by decide +kernel
theorem dX12_sureOf_38 : decode cX12_sureOf 38 = .ok (.lreturn, 1) := by decide +kernel
abbrev o_X12_sureOf : Type := Int64 × Int32 × Int32 × Int32 × (Nat → Int32) × (Nat → Int32) × (Nat → Int32) × (Nat → Int32) × (Nat → Int32) × (Nat → Int32) × (Nat → Int64)
def f_X12_sureOf (S : wd_W) (p1 : Int32) (p2 : Int32) : Option o_X12_sureOf :=
bd (f_X12_plain (wd_o S [(38, (S.1 38)), (39, (S.1 39)), (44, (S.1 44))] [] [(17, (S.2.2.1 17)), (18, (S.2.2.1 18)), (19, (S.2.2.1 19)), (20, (S.2.2.1 20)), (22, (S.2.2.1 22)), (23, (S.2.2.1 23))] [(21, (S.2.2.2.1 21))] [])) fun o1 =>
lk (fun x2 x3 =>
gd (okx x3 15) <|
lz (upd o1.1 x3.toNatClampNeg x2) fun a6 =>
lk (fun x7 x8 =>
gd (okx x8 15) <|
lz (upd o1.2 x8.toNatClampNeg x7) fun a11 =>
bd (f_X12_together (wd_o S [(38, (S.1 38)), (39, (S.1 39)), (44, (S.1 44))] [] [(17, (S.2.2.1 17)), (18, (S.2.2.1 18)), (19, (S.2.2.1 19)), (20, (S.2.2.1 20)), (22, a6), (23, a11)] [(21, (S.2.2.2.1 21))] [])) fun o12 =>
some (o12.1, o12.2.1, o12.2.2.1, o12.2.2.2.1, o12.2.2.2.2.1, o12.2.2.2.2.2.1, o12.2.2.2.2.2.2.1, o12.2.2.2.2.2.2.2.1, a6, a11, o12.2.2.2.2.2.2.2.2)) fun k33_9 =>
if p2 = 0 then (
k33_9 (1 : Int32) p1) else (
k33_9 (0 : Int32) p1)) fun k18_4 =>
if p2 = 0 then (
k18_4 (0 : Int32) p1) else (
k18_4 (1 : Int32) p1)
set_option maxRecDepth 100000 in
set_option maxHeartbeats 4000000 in
theorem c_X12_sureOf (l : Launch) (D : va_G) (q g : Nat → Nat) (cy : Nat → ClassId) (z : (Nat → Nat) × (Nat → Nat) × Nat) (S : wd_W) (p1 : Int32) (p2 : Int32) (o : o_X12_sureOf) (hf : f_X12_sureOf S p1 p2 = some o) : MX layM l yX12_sureOf cX12_sureOf 3 (some .long) ({ frames := 6, cells := 0, slots := 0, locals := 138 } : Room) D q g cy z [.ref (q 0), .int p1, .int p2] S (some (.long o.1)) (wd_o S [(38, o.2.1), (39, o.2.2.1), (44, o.2.2.2.1)] [] [(17, o.2.2.2.2.1), (18, o.2.2.2.2.2.1), (19, o.2.2.2.2.2.2.1), (20, o.2.2.2.2.2.2.2.1), (22, o.2.2.2.2.2.2.2.2.1), (23, o.2.2.2.2.2.2.2.2.2.1)] [(21, o.2.2.2.2.2.2.2.2.2.2)] []) 0 0 := by
  refine mx_of (own := RX12) (lc := [(0, .ref (q 0)), (1, .int p1), (2, .int p2)]) (by decide +kernel) rfl layM_ok (Nat.le_of_ble_eq_true rfl) rfl ?_
  intro X hXl hXq hXS hC hQ
  subst hXl; subst hXq; subst hXS
  unfold f_X12_sureOf at hf
  refine go_keys (L1 := [(38, ((x_S X).1 38)), (39, ((x_S X).1 39)), (44, ((x_S X).1 44))]) (L2 := []) (L3 := [(17, ((x_S X).2.2.1 17)), (18, ((x_S X).2.2.1 18)), (19, ((x_S X).2.2.1 19)), (20, ((x_S X).2.2.1 20)), (22, ((x_S X).2.2.1 22)), (23, ((x_S X).2.2.1 23))]) (L4 := [(21, ((x_S X).2.2.2.1 21))]) (L5 := []) [38, 39, 44] [] [17, 18, 19, 20, 22, 23] [21] [] rfl rfl rfl rfl rfl ?_
  refine go_aload_n (pc' := 1) hC dX12_sureOf_0 rfl rfl ?_
  obtain ⟨o1, ho1, hf⟩ := bd_e hf
  refine go_callV (pc' := 4) (As := []) (st := []) (st' := []) (L1' := [(38, ((x_S X).1 38)), (39, ((x_S X).1 39)), (44, ((x_S X).1 44))]) (L2' := []) (L3' := [(17, ((x_S X).2.2.1 17)), (18, ((x_S X).2.2.1 18)), (19, ((x_S X).2.2.1 19)), (20, ((x_S X).2.2.1 20)), (22, o1.1), (23, o1.2)]) (L4' := [(21, ((x_S X).2.2.2.1 21))]) (L5' := []) (cells' := 0) (slots' := 0) (b := 0) hC dX12_sureOf_1 ⟨mw_927, mw_930, mw_5, yd_yX12_plain, yp_yX12_plain, Nat.le_of_ble_eq_true rfl, Nat.le_of_ble_eq_true rfl, Nat.le_of_ble_eq_true rfl, Nat.le_of_ble_eq_true rfl⟩ mw_928 mw_929 layM_0 rfl rfl rfl (Nat.le_of_ble_eq_true rfl) (c_X12_plain (x_l X) (x_D X) (x_q X) g (x_cy X) (x_z X) _  o1 ho1) rfl rfl rfl rfl rfl rfl rfl rfl rfl rfl rfl rfl rfl rfl (fun g => ?_)
  refine go_aload_n (pc' := 5) hC dX12_sureOf_4 rfl rfl ?_
  refine go_getq (pc' := 8) hC 0 46 layM_0 rfl rfl inlX12 (Nat.le_of_ble_eq_true rfl) mw_203 rfl dX12_sureOf_5 rfl ?_
  refine go_iload_n (pc' := 9) hC dX12_sureOf_8 rfl rfl ?_
  refine go_iload_n (pc' := 10) hC dX12_sureOf_9 rfl rfl ?_
  obtain ⟨k18_4, hk18_4, hf⟩ := lk_e2 hf
  have jk18_4 : ∀ (x2 : Int32) (x3 : Int32) (g : Nat → Nat), k18_4 x2 x3 = some o → Go X layM 18 [(0, .ref (x_q X 0)), (1, .int p1), (2, .int p2)] [.int x2, .int x3, .ref (x_q X 22)] g [(38, ((x_S X).1 38)), (39, ((x_S X).1 39)), (44, ((x_S X).1 44))] [] [(17, ((x_S X).2.2.1 17)), (18, ((x_S X).2.2.1 18)), (19, ((x_S X).2.2.1 19)), (20, ((x_S X).2.2.1 20)), (22, o1.1), (23, o1.2)] [(21, ((x_S X).2.2.2.1 21))] [] 0 0 := by
    intro x2 x3 g hf
    have hf := hk18_4 x2 x3 hf
    clear hk18_4
    obtain ⟨h5, hf⟩ := gd_e hf
    refine go_iast (f := o1.1) (pc' := 19) hC 22 layM_22 rfl rfl dX12_sureOf_18 (okx_in h5) rfl rfl (fun a6 ha L3' hL => ?_)
    have hf := lz_r ha hf
    clear ha
    obtain rfl : L3' = [(17, ((x_S X).2.2.1 17)), (18, ((x_S X).2.2.1 18)), (19, ((x_S X).2.2.1 19)), (20, ((x_S X).2.2.1 20)), (22, a6), (23, o1.2)] := hL.symm
    refine go_aload_n (pc' := 20) hC dX12_sureOf_19 rfl rfl ?_
    refine go_getq (pc' := 23) hC 0 47 layM_0 rfl rfl inlX12 (Nat.le_of_ble_eq_true rfl) mw_204 rfl dX12_sureOf_20 rfl ?_
    refine go_iload_n (pc' := 24) hC dX12_sureOf_23 rfl rfl ?_
    refine go_iload_n (pc' := 25) hC dX12_sureOf_24 rfl rfl ?_
    obtain ⟨k33_9, hk33_9, hf⟩ := lk_e2 hf
    have jk33_9 : ∀ (x7 : Int32) (x8 : Int32) (g : Nat → Nat), k33_9 x7 x8 = some o → Go X layM 33 [(0, .ref (x_q X 0))] [.int x7, .int x8, .ref (x_q X 23)] g [(38, ((x_S X).1 38)), (39, ((x_S X).1 39)), (44, ((x_S X).1 44))] [] [(17, ((x_S X).2.2.1 17)), (18, ((x_S X).2.2.1 18)), (19, ((x_S X).2.2.1 19)), (20, ((x_S X).2.2.1 20)), (22, a6), (23, o1.2)] [(21, ((x_S X).2.2.2.1 21))] [] 0 0 := by
      intro x7 x8 g hf
      have hf := hk33_9 x7 x8 hf
      clear hk33_9
      obtain ⟨h10, hf⟩ := gd_e hf
      refine go_iast (f := o1.2) (pc' := 34) hC 23 layM_23 rfl rfl dX12_sureOf_33 (okx_in h10) rfl rfl (fun a11 ha L3' hL => ?_)
      have hf := lz_r ha hf
      clear ha
      obtain rfl : L3' = [(17, ((x_S X).2.2.1 17)), (18, ((x_S X).2.2.1 18)), (19, ((x_S X).2.2.1 19)), (20, ((x_S X).2.2.1 20)), (22, a6), (23, a11)] := hL.symm
      refine go_aload_n (pc' := 35) hC dX12_sureOf_34 rfl rfl ?_
      obtain ⟨o12, ho12, hf⟩ := bd_e hf
      refine go_callV (pc' := 38) (As := []) (st := []) (st' := [.long o12.1]) (L1' := [(38, o12.2.1), (39, o12.2.2.1), (44, o12.2.2.2.1)]) (L2' := []) (L3' := [(17, o12.2.2.2.2.1), (18, o12.2.2.2.2.2.1), (19, o12.2.2.2.2.2.2.1), (20, o12.2.2.2.2.2.2.2.1), (22, a6), (23, a11)]) (L4' := [(21, o12.2.2.2.2.2.2.2.2)]) (L5' := []) (cells' := 0) (slots' := 0) (b := 0) hC dX12_sureOf_35 ⟨mw_931, mw_934, mw_5, yd_yX12_together, yp_yX12_together, Nat.le_of_ble_eq_true rfl, Nat.le_of_ble_eq_true rfl, Nat.le_of_ble_eq_true rfl, Nat.le_of_ble_eq_true rfl⟩ mw_932 mw_933 layM_0 rfl rfl rfl (Nat.le_of_ble_eq_true rfl) (c_X12_together (x_l X) (x_D X) (x_q X) g (x_cy X) (x_z X) _  o12 ho12) rfl rfl rfl rfl rfl rfl rfl rfl rfl rfl rfl rfl rfl rfl (fun g => ?_)
      obtain rfl := Option.some.inj hf
      exact go_lret hC hQ dX12_sureOf_38 rfl rfl rfl rfl rfl
    clear hk33_9
    refine go_if_eq (tgt := 32) (pc' := 28) hC dX12_sureOf_25 (by decide) rfl (fun h13 => ?_) (fun h13 => ?_)
    · have hf := ite_t h13 hf
      refine go_iconst (pc' := 33) hC dX12_sureOf_32 ki_1 rfl ?_
      refine go_sub [0] rfl ?_
      exact jk33_9 (1 : Int32) p1 g hf
    · have hf := ite_f h13 hf
      refine go_iconst (pc' := 29) hC dX12_sureOf_28 ki_0 rfl ?_
      refine go_goto (tgt := 33) hC dX12_sureOf_29 (by decide) ?_
      refine go_sub [0] rfl ?_
      exact jk33_9 (0 : Int32) p1 g hf
  clear hk18_4
  refine go_if_eq (tgt := 17) (pc' := 13) hC dX12_sureOf_10 (by decide) rfl (fun h14 => ?_) (fun h14 => ?_)
  · have hf := ite_t h14 hf
    refine go_iconst (pc' := 18) hC dX12_sureOf_17 ki_0 rfl ?_
    exact jk18_4 (0 : Int32) p1 g hf
  · have hf := ite_f h14 hf
    refine go_iconst (pc' := 14) hC dX12_sureOf_13 ki_1 rfl ?_
    refine go_goto (tgt := 18) hC dX12_sureOf_14 (by decide) ?_
    exact jk18_4 (1 : Int32) p1 g hf
theorem dX12_sure_0 : decode cX12_sure 0 = .ok (.aload_n 0, 1) := by decide +kernel
theorem dX12_sure_1 : decode cX12_sure 1 = .ok (.iload_n 1, 1) := by decide +kernel
theorem dX12_sure_2 : decode cX12_sure 2 = .ok (.invokevirtual 382, 3) := by decide +kernel
theorem dX12_sure_5 : decode cX12_sure 5 = .ok (.ifCond .eq 12, 3) := by decide +kernel
theorem dX12_sure_8 : decode cX12_sure 8 = .ok (.aload_n 0, 1) := by decide +kernel
theorem dX12_sure_9 : decode cX12_sure 9 = .ok (.iload_n 1, 1) := by decide +kernel
theorem dX12_sure_10 : decode cX12_sure 10 = .ok (.iload_n 2, 1) := by decide +kernel
theorem dX12_sure_11 : decode cX12_sure 11 = .ok (.invokevirtual 385, 3) := by decide +kernel
theorem dX12_sure_14 : decode cX12_sure 14 = .ok (.goto 6, 3) := by decide +kernel
theorem dX12_sure_17 : decode cX12_sure 17 = .ok (.ldc2_w 373, 3) := by decide +kernel
theorem dX12_sure_20 : decode cX12_sure 20 = .ok (.lreturn, 1) := by decide +kernel
abbrev o_X12_sure : Type := Int64 × Int32 × Int32 × Int32 × (Nat → Int32) × (Nat → Int32) × (Nat → Int32) × (Nat → Int32) × (Nat → Int32) × (Nat → Int32) × (Nat → Int64)
def f_X12_sure (S : wd_W) (p1 : Int32) (p2 : Int32) : Option o_X12_sure :=
bd (f_X12_isThing (wd_o S [(38, (S.1 38)), (39, (S.1 39)), (44, (S.1 44))] [] [(17, (S.2.2.1 17)), (18, (S.2.2.1 18)), (19, (S.2.2.1 19)), (20, (S.2.2.1 20)), (22, (S.2.2.1 22)), (23, (S.2.2.1 23))] [(21, (S.2.2.2.1 21))] []) p1) fun o1 =>
if o1 = 0 then (
some ((-1 : Int64), (S.1 38), (S.1 39), (S.1 44), (S.2.2.1 17), (S.2.2.1 18), (S.2.2.1 19), (S.2.2.1 20), (S.2.2.1 22), (S.2.2.1 23), (S.2.2.2.1 21))) else (
bd (f_X12_sureOf (wd_o S [(38, (S.1 38)), (39, (S.1 39)), (44, (S.1 44))] [] [(17, (S.2.2.1 17)), (18, (S.2.2.1 18)), (19, (S.2.2.1 19)), (20, (S.2.2.1 20)), (22, (S.2.2.1 22)), (23, (S.2.2.1 23))] [(21, (S.2.2.2.1 21))] []) p1 p2) fun o2 =>
some (o2.1, o2.2.1, o2.2.2.1, o2.2.2.2.1, o2.2.2.2.2.1, o2.2.2.2.2.2.1, o2.2.2.2.2.2.2.1, o2.2.2.2.2.2.2.2.1, o2.2.2.2.2.2.2.2.2.1, o2.2.2.2.2.2.2.2.2.2.1, o2.2.2.2.2.2.2.2.2.2.2))
set_option maxRecDepth 100000 in
set_option maxHeartbeats 4000000 in
theorem c_X12_sure (l : Launch) (D : va_G) (q g : Nat → Nat) (cy : Nat → ClassId) (z : (Nat → Nat) × (Nat → Nat) × Nat) (S : wd_W) (p1 : Int32) (p2 : Int32) (o : o_X12_sure) (hf : f_X12_sure S p1 p2 = some o) : MX layM l yX12_sure cX12_sure 3 (some .long) ({ frames := 7, cells := 0, slots := 0, locals := 160 } : Room) D q g cy z [.ref (q 0), .int p1, .int p2] S (some (.long o.1)) (wd_o S [(38, o.2.1), (39, o.2.2.1), (44, o.2.2.2.1)] [] [(17, o.2.2.2.2.1), (18, o.2.2.2.2.2.1), (19, o.2.2.2.2.2.2.1), (20, o.2.2.2.2.2.2.2.1), (22, o.2.2.2.2.2.2.2.2.1), (23, o.2.2.2.2.2.2.2.2.2.1)] [(21, o.2.2.2.2.2.2.2.2.2.2)] []) 0 0 := by
  refine mx_of (own := RX12) (lc := [(0, .ref (q 0)), (1, .int p1), (2, .int p2)]) (by decide +kernel) rfl layM_ok (Nat.le_of_ble_eq_true rfl) rfl ?_
  intro X hXl hXq hXS hC hQ
  subst hXl; subst hXq; subst hXS
  unfold f_X12_sure at hf
  refine go_keys (L1 := [(38, ((x_S X).1 38)), (39, ((x_S X).1 39)), (44, ((x_S X).1 44))]) (L2 := []) (L3 := [(17, ((x_S X).2.2.1 17)), (18, ((x_S X).2.2.1 18)), (19, ((x_S X).2.2.1 19)), (20, ((x_S X).2.2.1 20)), (22, ((x_S X).2.2.1 22)), (23, ((x_S X).2.2.1 23))]) (L4 := [(21, ((x_S X).2.2.2.1 21))]) (L5 := []) [38, 39, 44] [] [17, 18, 19, 20, 22, 23] [21] [] rfl rfl rfl rfl rfl ?_
  refine go_aload_n (pc' := 1) hC dX12_sure_0 rfl rfl ?_
  refine go_iload_n (pc' := 2) hC dX12_sure_1 rfl rfl ?_
  obtain ⟨o1, ho1, hf⟩ := bd_e hf
  refine go_callV0 (pc' := 5) (As := [.int p1]) (st := []) (st' := [.int o1])   (b := 0) hC dX12_sure_2 ⟨mw_956, mw_959, mw_5, yd_yX12_isThing, yp_yX12_isThing, Nat.le_of_ble_eq_true rfl, Nat.le_of_ble_eq_true rfl, Nat.le_of_ble_eq_true rfl, Nat.le_of_ble_eq_true rfl⟩ mw_957 mw_958 layM_0 rfl rfl rfl (Nat.le_of_ble_eq_true rfl) (c_X12_isThing (x_l X) (x_D X) (x_q X) g (x_cy X) (x_z X) _ p1 o1 ho1) rfl rfl (fun g => ?_)
  refine go_if_eq (tgt := 17) (pc' := 8) hC dX12_sure_5 (by decide) rfl (fun h3 => ?_) (fun h3 => ?_)
  · have hf := ite_t h3 hf
    refine go_ldc2 (pc' := 20) hC dX12_sure_17 mw_922 rfl ?_
    obtain rfl := Option.some.inj hf
    exact go_lret hC hQ dX12_sure_20 rfl rfl rfl rfl rfl
  · have hf := ite_f h3 hf
    refine go_aload_n (pc' := 9) hC dX12_sure_8 rfl rfl ?_
    refine go_iload_n (pc' := 10) hC dX12_sure_9 rfl rfl ?_
    refine go_iload_n (pc' := 11) hC dX12_sure_10 rfl rfl ?_
    obtain ⟨o2, ho2, hf⟩ := bd_e hf
    refine go_callV (pc' := 14) (As := [.int p1, .int p2]) (st := []) (st' := [.long o2.1]) (L1' := [(38, o2.2.1), (39, o2.2.2.1), (44, o2.2.2.2.1)]) (L2' := []) (L3' := [(17, o2.2.2.2.2.1), (18, o2.2.2.2.2.2.1), (19, o2.2.2.2.2.2.2.1), (20, o2.2.2.2.2.2.2.2.1), (22, o2.2.2.2.2.2.2.2.2.1), (23, o2.2.2.2.2.2.2.2.2.2.1)]) (L4' := [(21, o2.2.2.2.2.2.2.2.2.2.2)]) (L5' := []) (cells' := 0) (slots' := 0) (b := 0) hC dX12_sure_11 ⟨mw_960, mw_963, mw_5, yd_yX12_sureOf, yp_yX12_sureOf, Nat.le_of_ble_eq_true rfl, Nat.le_of_ble_eq_true rfl, Nat.le_of_ble_eq_true rfl, Nat.le_of_ble_eq_true rfl⟩ mw_961 mw_962 layM_0 rfl rfl rfl (Nat.le_of_ble_eq_true rfl) (c_X12_sureOf (x_l X) (x_D X) (x_q X) g (x_cy X) (x_z X) _ p1 p2 o2 ho2) rfl rfl rfl rfl rfl rfl rfl rfl rfl rfl rfl rfl rfl rfl (fun g => ?_)
    refine go_goto (tgt := 20) hC dX12_sure_14 (by decide) ?_
    obtain rfl := Option.some.inj hf
    exact go_lret hC hQ dX12_sure_20 rfl rfl rfl rfl rfl
theorem dX12_decides_0 : decode cX12_decides 0 = .ok (.aload_n 0, 1) := by decide +kernel
theorem dX12_decides_1 : decode cX12_decides 1 = .ok (.invokevirtual 361, 3) := by decide +kernel
theorem dX12_decides_4 : decode cX12_decides 4 = .ok (.iconst 0, 1) := by decide +kernel
theorem dX12_decides_5 : decode cX12_decides 5 = .ok (.istore_n 2, 1) := by decide +kernel
theorem dX12_decides_6 : decode cX12_decides 6 = .ok (.iconst 0, 1) := by decide +kernel
theorem dX12_decides_7 : decode cX12_decides 7 = .ok (.istore_n 3, 1) := by decide +kernel
theorem dX12_decides_8 : decode cX12_decides 8 = .ok (.iload_n 3, 1) := by decide +kernel
theorem dX12_decides_9 : decode cX12_decides 9 = .ok (.aload_n 0, 1) := by decide +kernel
theorem dX12_decides_10 : decode cX12_decides 10 = .ok (.invokevirtual 354, 3) := by decide +kernel
theorem dX12_decides_13 : decode cX12_decides 13 = .ok (.if_icmp .ge 45, 3) := by decide +kernel
theorem dX12_decides_16 : decode cX12_decides 16 = .ok (.iload_n 3, 1) := by decide +kernel
theorem dX12_decides_17 : decode cX12_decides 17 = .ok (.iload_n 1, 1) := by decide +kernel
theorem dX12_decides_18 : decode cX12_decides 18 = .ok (.ishr, 1) := by decide +kernel
theorem dX12_decides_19 : decode cX12_decides 19 = .ok (.iconst 1, 1) := by decide +kernel
theorem dX12_decides_20 : decode cX12_decides 20 = .ok (.iand, 1) := by decide +kernel
theorem dX12_decides_21 : decode cX12_decides 21 = .ok (.iconst 1, 1) := by decide +kernel
theorem dX12_decides_22 : decode cX12_decides 22 = .ok (.if_icmp .ne 30, 3) := by decide +kernel
theorem dX12_decides_25 : decode cX12_decides 25 = .ok (.aload_n 0, 1) := by decide +kernel
theorem dX12_decides_26 : decode cX12_decides 26 = .ok (.getfield 70, 3) := by decide +kernel
theorem dX12_decides_29 : decode cX12_decides 29 = .ok (.iload_n 3, 1) := by decide +kernel
theorem dX12_decides_30 : decode cX12_decides 30 = .ok (.baload, 1) := by decide +kernel
theorem dX12_decides_31 : decode cX12_decides 31 = .ok (.ifCond .eq 21, 3) := by decide +kernel
theorem dX12_decides_34 : decode cX12_decides 34 = .ok (.aload_n 0, 1) := by decide +kernel
theorem dX12_decides_35 : decode cX12_decides 35 = .ok (.getfield 70, 3) := by decide +kernel
theorem dX12_decides_38 : decode cX12_decides 38 = .ok (.iload_n 3, 1) := by decide +kernel
theorem dX12_decides_39 : decode cX12_decides 39 = .ok (.iconst 1, 1) := by decide +kernel
theorem dX12_decides_40 : decode cX12_decides 40 = .ok (.iload_n 1, 1) := by decide +kernel
theorem dX12_decides_41 : decode cX12_decides 41 = .ok (.ishl, 1) := by decide +kernel
theorem dX12_decides_42 : decode cX12_decides 42 = .ok (.iconst (-1), 1) := by decide +kernel
theorem dX12_decides_43 : decode cX12_decides 43 = .ok (.ixor, 1) := by decide +kernel
theorem dX12_decides_44 : decode cX12_decides 44 = .ok (.iand, 1) := by decide +kernel
theorem dX12_decides_45 : decode cX12_decides 45 = .ok (.baload, 1) := by decide +kernel
theorem dX12_decides_46 : decode cX12_decides 46 = .ok (.ifCond .ne 6, 3) := by decide +kernel
theorem dX12_decides_49 : decode cX12_decides 49 = .ok (.iinc 2 1, 3) := by decide +kernel
theorem dX12_decides_52 : decode cX12_decides 52 = .ok (.iinc 3 1, 3) := by decide +kernel
theorem dX12_decides_55 : decode cX12_decides 55 = .ok (.goto (-47), 3) := by decide +kernel
theorem dX12_decides_58 : decode cX12_decides 58 = .ok (.iload_n 2, 1) := by decide +kernel
theorem dX12_decides_59 : decode cX12_decides 59 = .ok (.ireturn, 1) := by decide +kernel
abbrev o_X12_decides : Type := Int32 × Int32 × Int32 × Int32 × (Nat → Int32) × (Nat → Int32) × (Nat → Int32) × (Nat → Int32)
def f_X12_decides_L8 (S : wd_W) (p1 : Int32) (o1 : o_X12_lays) (r4 : (Int32) → (Int32) → (Option o_X12_decides)) (x2 : Int32) (x3 : Int32) : Option o_X12_decides :=
bd (f_X12_sets (wd_o S [(38, o1.1), (39, o1.2.1), (44, o1.2.2.1)] [] [(17, o1.2.2.2.1), (18, o1.2.2.2.2.1), (19, o1.2.2.2.2.2.1), (20, o1.2.2.2.2.2.2)] [] [])) fun o5 =>
if o5 ≤ x3 then (
some (x2, o1.1, o1.2.1, o1.2.2.1, o1.2.2.2.1, o1.2.2.2.2.1, o1.2.2.2.2.2.1, o1.2.2.2.2.2.2)) else (
lk (fun x6 =>
r4 x6 (x3 + (1 : Int32))) fun k52_7 =>
if ((x3 >>> (p1 &&& 31)) &&& (1 : Int32)) = (1 : Int32) then (
gd (okx x3 32768) <|
if (o1.2.2.2.2.2.2 x3.toNatClampNeg) = 0 then (
k52_7 x2) else (
gd (okx (x3 &&& (((1 : Int32) <<< (p1 &&& 31)) ^^^ (-1 : Int32))) 32768) <|
if (o1.2.2.2.2.2.2 (x3 &&& (((1 : Int32) <<< (p1 &&& 31)) ^^^ (-1 : Int32))).toNatClampNeg) = 0 then (
k52_7 (x2 + (1 : Int32))) else (
k52_7 x2))) else (
k52_7 x2))
def f_X12_decides (S : wd_W) (p1 : Int32) : Option o_X12_decides :=
bd (f_X12_lays (wd_o S [(38, (S.1 38)), (39, (S.1 39)), (44, (S.1 44))] [] [(17, (S.2.2.1 17)), (18, (S.2.2.1 18)), (19, (S.2.2.1 19)), (20, (S.2.2.1 20))] [] [])) fun o1 =>
it2 (f_X12_decides_L8 S p1 o1) fuel (0 : Int32) (0 : Int32)
set_option maxRecDepth 100000 in
set_option maxHeartbeats 4000000 in
theorem c_X12_decides (l : Launch) (D : va_G) (q g : Nat → Nat) (cy : Nat → ClassId) (z : (Nat → Nat) × (Nat → Nat) × Nat) (S : wd_W) (p1 : Int32) (o : o_X12_decides) (hf : f_X12_decides S p1 = some o) : MX layM l yX12_decides cX12_decides 4 (some .int) ({ frames := 5, cells := 0, slots := 0, locals := 115 } : Room) D q g cy z [.ref (q 0), .int p1] S (some (.int o.1)) (wd_o S [(38, o.2.1), (39, o.2.2.1), (44, o.2.2.2.1)] [] [(17, o.2.2.2.2.1), (18, o.2.2.2.2.2.1), (19, o.2.2.2.2.2.2.1), (20, o.2.2.2.2.2.2.2)] [] []) 0 0 := by
  refine mx_of (own := RX12) (lc := [(0, .ref (q 0)), (1, .int p1)]) (by decide +kernel) rfl layM_ok (Nat.le_of_ble_eq_true rfl) rfl ?_
  intro X hXl hXq hXS hC hQ
  subst hXl; subst hXq; subst hXS
  unfold f_X12_decides at hf
  refine go_keys (L1 := [(38, ((x_S X).1 38)), (39, ((x_S X).1 39)), (44, ((x_S X).1 44))]) (L2 := []) (L3 := [(17, ((x_S X).2.2.1 17)), (18, ((x_S X).2.2.1 18)), (19, ((x_S X).2.2.1 19)), (20, ((x_S X).2.2.1 20))]) (L4 := []) (L5 := []) [38, 39, 44] [] [17, 18, 19, 20] [] [] rfl rfl rfl rfl rfl ?_
  refine go_aload_n (pc' := 1) hC dX12_decides_0 rfl rfl ?_
  obtain ⟨o1, ho1, hf⟩ := bd_e hf
  refine go_callV (pc' := 4) (As := []) (st := []) (st' := []) (L1' := [(38, o1.1), (39, o1.2.1), (44, o1.2.2.1)]) (L2' := []) (L3' := [(17, o1.2.2.2.1), (18, o1.2.2.2.2.1), (19, o1.2.2.2.2.2.1), (20, o1.2.2.2.2.2.2)]) (L4' := []) (L5' := []) (cells' := 0) (slots' := 0) (b := 0) hC dX12_decides_1 ⟨mw_860, mw_863, mw_5, yd_yX12_lays, yp_yX12_lays, Nat.le_of_ble_eq_true rfl, Nat.le_of_ble_eq_true rfl, Nat.le_of_ble_eq_true rfl, Nat.le_of_ble_eq_true rfl⟩ mw_861 mw_862 layM_0 rfl rfl rfl (Nat.le_of_ble_eq_true rfl) (c_X12_lays (x_l X) (x_D X) (x_q X) g (x_cy X) (x_z X) _  o1 ho1) rfl rfl rfl rfl rfl rfl rfl rfl rfl rfl rfl rfl rfl rfl (fun g => ?_)
  refine go_iconst (pc' := 5) hC dX12_decides_4 ki_0 rfl ?_
  refine go_istore_n (lc' := [(0, .ref (x_q X 0)), (1, .int p1), (2, .int (0 : Int32))]) (pc' := 6) hC dX12_decides_5 (Nat.le_of_ble_eq_true rfl) rfl rfl ?_
  refine go_iconst (pc' := 7) hC dX12_decides_6 ki_0 rfl ?_
  refine go_istore_n (lc' := [(0, .ref (x_q X 0)), (1, .int p1), (2, .int (0 : Int32)), (3, .int (0 : Int32))]) (pc' := 8) hC dX12_decides_7 (Nat.le_of_ble_eq_true rfl) rfl rfl ?_
  have l8_14 : ∀ (nn : Nat) (x2 : Int32) (x3 : Int32) (g : Nat → Nat), it2 (f_X12_decides_L8 (x_S X) p1 o1) nn x2 x3 = some o → Go X layM 8 [(0, .ref (x_q X 0)), (1, .int p1), (2, .int x2), (3, .int x3)] [] g [(38, o1.1), (39, o1.2.1), (44, o1.2.2.1)] [] [(17, o1.2.2.2.1), (18, o1.2.2.2.2.1), (19, o1.2.2.2.2.2.1), (20, o1.2.2.2.2.2.2)] [] [] 0 0 := by
    intro nn
    induction nn with
    | zero =>
      intro x2 x3 g hf
      exact none_no hf
    | succ nn ih =>
      intro x2 x3 g hf
      have hf : f_X12_decides_L8 (x_S X) p1 o1 (it2 (f_X12_decides_L8 (x_S X) p1 o1) nn) x2 x3 = some o := hf
      generalize it2 (f_X12_decides_L8 (x_S X) p1 o1) nn = r4 at ih hf
      unfold f_X12_decides_L8 at hf
      refine go_iload_n (pc' := 9) hC dX12_decides_8 rfl rfl ?_
      refine go_aload_n (pc' := 10) hC dX12_decides_9 rfl rfl ?_
      obtain ⟨o5, ho5, hf⟩ := bd_e hf
      refine go_callV0 (pc' := 13) (As := []) (st := [.int x3]) (st' := [.int o5, .int x3])   (b := 0) hC dX12_decides_10 ⟨mw_856, mw_859, mw_5, yd_yX12_sets, yp_yX12_sets, Nat.le_of_ble_eq_true rfl, Nat.le_of_ble_eq_true rfl, Nat.le_of_ble_eq_true rfl, Nat.le_of_ble_eq_true rfl⟩ mw_857 mw_858 layM_0 rfl rfl rfl (Nat.le_of_ble_eq_true rfl) (c_X12_sets (x_l X) (x_D X) (x_q X) g (x_cy X) (x_z X) _  o5 ho5) rfl rfl (fun g => ?_)
      refine go_icmp_ge (tgt := 58) (pc' := 16) hC dX12_decides_13 (by decide) rfl (fun h13 => ?_) (fun h13 => ?_)
      · have hf := ite_t h13 hf
        refine go_iload_n (pc' := 59) hC dX12_decides_58 rfl rfl ?_
        obtain rfl := Option.some.inj hf
        exact go_iret hC hQ dX12_decides_59 rfl rfl rfl rfl rfl rfl
      · have hf := ite_f h13 hf
        refine go_iload_n (pc' := 17) hC dX12_decides_16 rfl rfl ?_
        refine go_iload_n (pc' := 18) hC dX12_decides_17 rfl rfl ?_
        refine go_ishr (pc' := 19) hC dX12_decides_18 rfl ?_
        refine go_iconst (pc' := 20) hC dX12_decides_19 ki_1 rfl ?_
        refine go_iand (pc' := 21) hC dX12_decides_20 rfl ?_
        refine go_iconst (pc' := 22) hC dX12_decides_21 ki_1 rfl ?_
        obtain ⟨k52_7, hk52_7, hf⟩ := lk_e1 hf
        have jk52_7 : ∀ (x6 : Int32) (g : Nat → Nat), k52_7 x6 = some o → Go X layM 52 [(0, .ref (x_q X 0)), (1, .int p1), (2, .int x6), (3, .int x3)] [] g [(38, o1.1), (39, o1.2.1), (44, o1.2.2.1)] [] [(17, o1.2.2.2.1), (18, o1.2.2.2.2.1), (19, o1.2.2.2.2.2.1), (20, o1.2.2.2.2.2.2)] [] [] 0 0 := by
          intro x6 g hf
          have hf := hk52_7 x6 hf
          clear hk52_7
          refine go_iinc (lc' := [(0, .ref (x_q X 0)), (1, .int p1), (2, .int x6), (3, .int (x3 + (1 : Int32)))]) (pc' := 55) hC dX12_decides_52 rfl ki_1 (Nat.le_of_ble_eq_true rfl) rfl rfl ?_
          refine go_goto (tgt := 8) hC dX12_decides_55 (by decide) ?_
          exact ih x6 (x3 + (1 : Int32)) g hf
        clear hk52_7
        refine go_icmp_ne (tgt := 52) (pc' := 25) hC dX12_decides_22 (by decide) rfl (fun h12 => ?_) (fun h12 => ?_)
        · have hf := ite_f h12 hf
          exact jk52_7 x2 g hf
        · have hf := ite_t h12 hf
          refine go_aload_n (pc' := 26) hC dX12_decides_25 rfl rfl ?_
          refine go_getq (pc' := 29) hC 0 43 layM_0 rfl rfl inlX12 (Nat.le_of_ble_eq_true rfl) mw_201 rfl dX12_decides_26 rfl ?_
          refine go_iload_n (pc' := 30) hC dX12_decides_29 rfl rfl ?_
          obtain ⟨h8, hf⟩ := gd_e hf
          refine go_zald (f := o1.2.2.2.2.2.2) (pc' := 31) hC 20 layM_20 rfl rfl dX12_decides_30 (okx_in h8) rfl ?_
          refine go_if_eq (tgt := 52) (pc' := 34) hC dX12_decides_31 (by decide) rfl (fun h11 => ?_) (fun h11 => ?_)
          · have hf := ite_t h11 hf
            exact jk52_7 x2 g hf
          · have hf := ite_f h11 hf
            refine go_aload_n (pc' := 35) hC dX12_decides_34 rfl rfl ?_
            refine go_getq (pc' := 38) hC 0 43 layM_0 rfl rfl inlX12 (Nat.le_of_ble_eq_true rfl) mw_201 rfl dX12_decides_35 rfl ?_
            refine go_iload_n (pc' := 39) hC dX12_decides_38 rfl rfl ?_
            refine go_iconst (pc' := 40) hC dX12_decides_39 ki_1 rfl ?_
            refine go_iload_n (pc' := 41) hC dX12_decides_40 rfl rfl ?_
            refine go_ishl (pc' := 42) hC dX12_decides_41 rfl ?_
            refine go_iconst (pc' := 43) hC dX12_decides_42 ki_m1 rfl ?_
            refine go_ixor (pc' := 44) hC dX12_decides_43 rfl ?_
            refine go_iand (pc' := 45) hC dX12_decides_44 rfl ?_
            obtain ⟨h9, hf⟩ := gd_e hf
            refine go_zald (f := o1.2.2.2.2.2.2) (pc' := 46) hC 20 layM_20 rfl rfl dX12_decides_45 (okx_in h9) rfl ?_
            refine go_if_ne (tgt := 52) (pc' := 49) hC dX12_decides_46 (by decide) rfl (fun h10 => ?_) (fun h10 => ?_)
            · have hf := ite_f h10 hf
              exact jk52_7 x2 g hf
            · have hf := ite_t h10 hf
              refine go_iinc (lc' := [(0, .ref (x_q X 0)), (1, .int p1), (2, .int (x2 + (1 : Int32))), (3, .int x3)]) (pc' := 52) hC dX12_decides_49 rfl ki_1 (Nat.le_of_ble_eq_true rfl) rfl rfl ?_
              exact jk52_7 (x2 + (1 : Int32)) g hf
  exact l8_14 fuel (0 : Int32) (0 : Int32) g hf
theorem dX12_mattersOf_0 : decode cX12_mattersOf 0 = .ok (.aload_n 0, 1) := by decide +kernel
theorem dX12_mattersOf_1 : decode cX12_mattersOf 1 = .ok (.iload_n 1, 1) := by decide +kernel
theorem dX12_mattersOf_2 : decode cX12_mattersOf 2 = .ok (.iconst 1, 1) := by decide +kernel
theorem dX12_mattersOf_3 : decode cX12_mattersOf 3 = .ok (.invokevirtual 385, 3) := by decide +kernel
theorem dX12_mattersOf_6 : decode cX12_mattersOf 6 = .ok (.aload_n 0, 1) := by decide +kernel
theorem dX12_mattersOf_7 : decode cX12_mattersOf 7 = .ok (.iload_n 1, 1) := by decide +kernel
theorem dX12_mattersOf_8 : decode cX12_mattersOf 8 = .ok (.iconst 0, 1) := by decide +kernel
theorem dX12_mattersOf_9 : decode cX12_mattersOf 9 = .ok (.invokevirtual 385, 3) := by decide +kernel
theorem dX12_mattersOf_12 : decode cX12_mattersOf 12 = .ok (.lsub, 1) := by decide +kernel
theorem dX12_mattersOf_13 : decode cX12_mattersOf 13 = .ok (.lreturn, 1) := by decide +kernel
abbrev o_X12_mattersOf : Type := Int64 × Int32 × Int32 × Int32 × (Nat → Int32) × (Nat → Int32) × (Nat → Int32) × (Nat → Int32) × (Nat → Int32) × (Nat → Int32) × (Nat → Int64)
def f_X12_mattersOf (S : wd_W) (p1 : Int32) : Option o_X12_mattersOf :=
bd (f_X12_sureOf (wd_o S [(38, (S.1 38)), (39, (S.1 39)), (44, (S.1 44))] [] [(17, (S.2.2.1 17)), (18, (S.2.2.1 18)), (19, (S.2.2.1 19)), (20, (S.2.2.1 20)), (22, (S.2.2.1 22)), (23, (S.2.2.1 23))] [(21, (S.2.2.2.1 21))] []) p1 (1 : Int32)) fun o1 =>
bd (f_X12_sureOf (wd_o S [(38, o1.2.1), (39, o1.2.2.1), (44, o1.2.2.2.1)] [] [(17, o1.2.2.2.2.1), (18, o1.2.2.2.2.2.1), (19, o1.2.2.2.2.2.2.1), (20, o1.2.2.2.2.2.2.2.1), (22, o1.2.2.2.2.2.2.2.2.1), (23, o1.2.2.2.2.2.2.2.2.2.1)] [(21, o1.2.2.2.2.2.2.2.2.2.2)] []) p1 (0 : Int32)) fun o2 =>
some (o1.1 - o2.1, o2.2.1, o2.2.2.1, o2.2.2.2.1, o2.2.2.2.2.1, o2.2.2.2.2.2.1, o2.2.2.2.2.2.2.1, o2.2.2.2.2.2.2.2.1, o2.2.2.2.2.2.2.2.2.1, o2.2.2.2.2.2.2.2.2.2.1, o2.2.2.2.2.2.2.2.2.2.2)
set_option maxRecDepth 100000 in
set_option maxHeartbeats 4000000 in
theorem c_X12_mattersOf (l : Launch) (D : va_G) (q g : Nat → Nat) (cy : Nat → ClassId) (z : (Nat → Nat) × (Nat → Nat) × Nat) (S : wd_W) (p1 : Int32) (o : o_X12_mattersOf) (hf : f_X12_mattersOf S p1 = some o) : MX layM l yX12_mattersOf cX12_mattersOf 2 (some .long) ({ frames := 7, cells := 0, slots := 0, locals := 160 } : Room) D q g cy z [.ref (q 0), .int p1] S (some (.long o.1)) (wd_o S [(38, o.2.1), (39, o.2.2.1), (44, o.2.2.2.1)] [] [(17, o.2.2.2.2.1), (18, o.2.2.2.2.2.1), (19, o.2.2.2.2.2.2.1), (20, o.2.2.2.2.2.2.2.1), (22, o.2.2.2.2.2.2.2.2.1), (23, o.2.2.2.2.2.2.2.2.2.1)] [(21, o.2.2.2.2.2.2.2.2.2.2)] []) 0 0 := by
  refine mx_of (own := RX12) (lc := [(0, .ref (q 0)), (1, .int p1)]) (by decide +kernel) rfl layM_ok (Nat.le_of_ble_eq_true rfl) rfl ?_
  intro X hXl hXq hXS hC hQ
  subst hXl; subst hXq; subst hXS
  unfold f_X12_mattersOf at hf
  refine go_keys (L1 := [(38, ((x_S X).1 38)), (39, ((x_S X).1 39)), (44, ((x_S X).1 44))]) (L2 := []) (L3 := [(17, ((x_S X).2.2.1 17)), (18, ((x_S X).2.2.1 18)), (19, ((x_S X).2.2.1 19)), (20, ((x_S X).2.2.1 20)), (22, ((x_S X).2.2.1 22)), (23, ((x_S X).2.2.1 23))]) (L4 := [(21, ((x_S X).2.2.2.1 21))]) (L5 := []) [38, 39, 44] [] [17, 18, 19, 20, 22, 23] [21] [] rfl rfl rfl rfl rfl ?_
  refine go_aload_n (pc' := 1) hC dX12_mattersOf_0 rfl rfl ?_
  refine go_iload_n (pc' := 2) hC dX12_mattersOf_1 rfl rfl ?_
  refine go_iconst (pc' := 3) hC dX12_mattersOf_2 ki_1 rfl ?_
  obtain ⟨o1, ho1, hf⟩ := bd_e hf
  refine go_callV (pc' := 6) (As := [.int p1, .int (1 : Int32)]) (st := []) (st' := [.long o1.1]) (L1' := [(38, o1.2.1), (39, o1.2.2.1), (44, o1.2.2.2.1)]) (L2' := []) (L3' := [(17, o1.2.2.2.2.1), (18, o1.2.2.2.2.2.1), (19, o1.2.2.2.2.2.2.1), (20, o1.2.2.2.2.2.2.2.1), (22, o1.2.2.2.2.2.2.2.2.1), (23, o1.2.2.2.2.2.2.2.2.2.1)]) (L4' := [(21, o1.2.2.2.2.2.2.2.2.2.2)]) (L5' := []) (cells' := 0) (slots' := 0) (b := 0) hC dX12_mattersOf_3 ⟨mw_960, mw_963, mw_5, yd_yX12_sureOf, yp_yX12_sureOf, Nat.le_of_ble_eq_true rfl, Nat.le_of_ble_eq_true rfl, Nat.le_of_ble_eq_true rfl, Nat.le_of_ble_eq_true rfl⟩ mw_961 mw_962 layM_0 rfl rfl rfl (Nat.le_of_ble_eq_true rfl) (c_X12_sureOf (x_l X) (x_D X) (x_q X) g (x_cy X) (x_z X) _ p1 (1 : Int32) o1 ho1) rfl rfl rfl rfl rfl rfl rfl rfl rfl rfl rfl rfl rfl rfl (fun g => ?_)
  refine go_aload_n (pc' := 7) hC dX12_mattersOf_6 rfl rfl ?_
  refine go_iload_n (pc' := 8) hC dX12_mattersOf_7 rfl rfl ?_
  refine go_iconst (pc' := 9) hC dX12_mattersOf_8 ki_0 rfl ?_
  obtain ⟨o2, ho2, hf⟩ := bd_e hf
  refine go_callV (pc' := 12) (As := [.int p1, .int (0 : Int32)]) (st := [.long o1.1]) (st' := [.long o2.1, .long o1.1]) (L1' := [(38, o2.2.1), (39, o2.2.2.1), (44, o2.2.2.2.1)]) (L2' := []) (L3' := [(17, o2.2.2.2.2.1), (18, o2.2.2.2.2.2.1), (19, o2.2.2.2.2.2.2.1), (20, o2.2.2.2.2.2.2.2.1), (22, o2.2.2.2.2.2.2.2.2.1), (23, o2.2.2.2.2.2.2.2.2.2.1)]) (L4' := [(21, o2.2.2.2.2.2.2.2.2.2.2)]) (L5' := []) (cells' := 0) (slots' := 0) (b := 0) hC dX12_mattersOf_9 ⟨mw_960, mw_963, mw_5, yd_yX12_sureOf, yp_yX12_sureOf, Nat.le_of_ble_eq_true rfl, Nat.le_of_ble_eq_true rfl, Nat.le_of_ble_eq_true rfl, Nat.le_of_ble_eq_true rfl⟩ mw_961 mw_962 layM_0 rfl rfl rfl (Nat.le_of_ble_eq_true rfl) (c_X12_sureOf (x_l X) (x_D X) (x_q X) g (x_cy X) (x_z X) _ p1 (0 : Int32) o2 ho2) rfl rfl rfl rfl rfl rfl rfl rfl rfl rfl rfl rfl rfl rfl (fun g => ?_)
  refine go_lsub (pc' := 13) hC dX12_mattersOf_12 rfl ?_
  obtain rfl := Option.some.inj hf
  exact go_lret hC hQ dX12_mattersOf_13 rfl rfl rfl rfl rfl
theorem dX12_matters_0 : decode cX12_matters 0 = .ok (.aload_n 0, 1) := by decide +kernel
theorem dX12_matters_1 : decode cX12_matters 1 = .ok (.iload_n 1, 1) := by decide +kernel
theorem dX12_matters_2 : decode cX12_matters 2 = .ok (.invokevirtual 382, 3) := by decide +kernel
theorem dX12_matters_5 : decode cX12_matters 5 = .ok (.ifCond .ne 7, 3) := by decide +kernel
theorem dX12_matters_8 : decode cX12_matters 8 = .ok (.ldc2_w 373, 3) := by decide +kernel
theorem dX12_matters_11 : decode cX12_matters 11 = .ok (.lreturn, 1) := by decide +kernel
theorem dX12_matters_12 : decode cX12_matters 12 = .ok (.iload_n 2, 1) := by decide +kernel
theorem dX12_matters_13 : decode cX12_matters 13 = .ok (.ifCond .ne 11, 3) := by decide +kernel
theorem dX12_matters_16 : decode cX12_matters 16 = .ok (.aload_n 0, 1) := by decide +kernel
theorem dX12_matters_17 : decode cX12_matters 17 = .ok (.iload_n 1, 1) := by decide +kernel
theorem dX12_matters_18 : decode cX12_matters 18 = .ok (.invokevirtual 389, 3) := by decide +kernel
theorem dX12_matters_21 : decode cX12_matters 21 = .ok (.goto 35, 3) := by decide +kernel
theorem dX12_matters_24 : decode cX12_matters 24 = .ok (.iload_n 2, 1) := by decide +kernel
theorem dX12_matters_25 : decode cX12_matters 25 = .ok (.iconst 1, 1) := by decide +kernel
theorem dX12_matters_26 : decode cX12_matters 26 = .ok (.if_icmp .ne 12, 3) := by decide +kernel
theorem dX12_matters_29 : decode cX12_matters 29 = .ok (.aload_n 0, 1) := by decide +kernel
theorem dX12_matters_30 : decode cX12_matters 30 = .ok (.iload_n 1, 1) := by decide +kernel
theorem dX12_matters_31 : decode cX12_matters 31 = .ok (.invokevirtual 392, 3) := by decide +kernel
theorem dX12_matters_34 : decode cX12_matters 34 = .ok (.i2l, 1) := by decide +kernel
theorem dX12_matters_35 : decode cX12_matters 35 = .ok (.goto 21, 3) := by decide +kernel
theorem dX12_matters_38 : decode cX12_matters 38 = .ok (.iload_n 2, 1) := by decide +kernel
theorem dX12_matters_39 : decode cX12_matters 39 = .ok (.iconst 2, 1) := by decide +kernel
theorem dX12_matters_40 : decode cX12_matters 40 = .ok (.if_icmp .ne 13, 3) := by decide +kernel
theorem dX12_matters_43 : decode cX12_matters 43 = .ok (.aload_n 0, 1) := by decide +kernel
theorem dX12_matters_44 : decode cX12_matters 44 = .ok (.getfield 57, 3) := by decide +kernel
theorem dX12_matters_47 : decode cX12_matters 47 = .ok (.iload_n 1, 1) := by decide +kernel
theorem dX12_matters_48 : decode cX12_matters 48 = .ok (.iaload, 1) := by decide +kernel
theorem dX12_matters_49 : decode cX12_matters 49 = .ok (.i2l, 1) := by decide +kernel
theorem dX12_matters_50 : decode cX12_matters 50 = .ok (.goto 6, 3) := by decide +kernel
theorem dX12_matters_53 : decode cX12_matters 53 = .ok (.ldc2_w 373, 3) := by decide +kernel
theorem dX12_matters_56 : decode cX12_matters 56 = .ok (.lreturn, 1) := by decide +kernel
abbrev o_X12_matters : Type := Int64 × Int32 × Int32 × Int32 × (Nat → Int32) × (Nat → Int32) × (Nat → Int32) × (Nat → Int32) × (Nat → Int32) × (Nat → Int32) × (Nat → Int64)
def f_X12_matters (S : wd_W) (p1 : Int32) (p2 : Int32) : Option o_X12_matters :=
bd (f_X12_isThing (wd_o S [(38, (S.1 38)), (39, (S.1 39)), (44, (S.1 44))] [] [(17, (S.2.2.1 17)), (18, (S.2.2.1 18)), (19, (S.2.2.1 19)), (20, (S.2.2.1 20)), (22, (S.2.2.1 22)), (23, (S.2.2.1 23))] [(21, (S.2.2.2.1 21))] []) p1) fun o1 =>
if o1 = 0 then (
some ((-1 : Int64), (S.1 38), (S.1 39), (S.1 44), (S.2.2.1 17), (S.2.2.1 18), (S.2.2.1 19), (S.2.2.1 20), (S.2.2.1 22), (S.2.2.1 23), (S.2.2.2.1 21))) else (
if p2 = 0 then (
bd (f_X12_mattersOf (wd_o S [(38, (S.1 38)), (39, (S.1 39)), (44, (S.1 44))] [] [(17, (S.2.2.1 17)), (18, (S.2.2.1 18)), (19, (S.2.2.1 19)), (20, (S.2.2.1 20)), (22, (S.2.2.1 22)), (23, (S.2.2.1 23))] [(21, (S.2.2.2.1 21))] []) p1) fun o6 =>
some (o6.1, o6.2.1, o6.2.2.1, o6.2.2.2.1, o6.2.2.2.2.1, o6.2.2.2.2.2.1, o6.2.2.2.2.2.2.1, o6.2.2.2.2.2.2.2.1, o6.2.2.2.2.2.2.2.2.1, o6.2.2.2.2.2.2.2.2.2.1, o6.2.2.2.2.2.2.2.2.2.2)) else (
if p2 = (1 : Int32) then (
bd (f_X12_decides (wd_o S [(38, (S.1 38)), (39, (S.1 39)), (44, (S.1 44))] [] [(17, (S.2.2.1 17)), (18, (S.2.2.1 18)), (19, (S.2.2.1 19)), (20, (S.2.2.1 20)), (22, (S.2.2.1 22)), (23, (S.2.2.1 23))] [(21, (S.2.2.2.1 21))] []) p1) fun o4 =>
some (o4.1.toInt64, o4.2.1, o4.2.2.1, o4.2.2.2.1, o4.2.2.2.2.1, o4.2.2.2.2.2.1, o4.2.2.2.2.2.2.1, o4.2.2.2.2.2.2.2, (S.2.2.1 22), (S.2.2.1 23), (S.2.2.2.1 21))) else (
if p2 = (2 : Int32) then (
gd (okx p1 15) <|
some (((S.2.2.1 16) p1.toNatClampNeg).toInt64, (S.1 38), (S.1 39), (S.1 44), (S.2.2.1 17), (S.2.2.1 18), (S.2.2.1 19), (S.2.2.1 20), (S.2.2.1 22), (S.2.2.1 23), (S.2.2.2.1 21))) else (
some ((-1 : Int64), (S.1 38), (S.1 39), (S.1 44), (S.2.2.1 17), (S.2.2.1 18), (S.2.2.1 19), (S.2.2.1 20), (S.2.2.1 22), (S.2.2.1 23), (S.2.2.2.1 21))))))
set_option maxRecDepth 100000 in
set_option maxHeartbeats 4000000 in
theorem c_X12_matters (l : Launch) (D : va_G) (q g : Nat → Nat) (cy : Nat → ClassId) (z : (Nat → Nat) × (Nat → Nat) × Nat) (S : wd_W) (p1 : Int32) (p2 : Int32) (o : o_X12_matters) (hf : f_X12_matters S p1 p2 = some o) : MX layM l yX12_matters cX12_matters 3 (some .long) ({ frames := 8, cells := 0, slots := 0, locals := 181 } : Room) D q g cy z [.ref (q 0), .int p1, .int p2] S (some (.long o.1)) (wd_o S [(38, o.2.1), (39, o.2.2.1), (44, o.2.2.2.1)] [] [(17, o.2.2.2.2.1), (18, o.2.2.2.2.2.1), (19, o.2.2.2.2.2.2.1), (20, o.2.2.2.2.2.2.2.1), (22, o.2.2.2.2.2.2.2.2.1), (23, o.2.2.2.2.2.2.2.2.2.1)] [(21, o.2.2.2.2.2.2.2.2.2.2)] []) 0 0 := by
  refine mx_of (own := RX12) (lc := [(0, .ref (q 0)), (1, .int p1), (2, .int p2)]) (by decide +kernel) rfl layM_ok (Nat.le_of_ble_eq_true rfl) rfl ?_
  intro X hXl hXq hXS hC hQ
  subst hXl; subst hXq; subst hXS
  unfold f_X12_matters at hf
  refine go_keys (L1 := [(38, ((x_S X).1 38)), (39, ((x_S X).1 39)), (44, ((x_S X).1 44))]) (L2 := []) (L3 := [(17, ((x_S X).2.2.1 17)), (18, ((x_S X).2.2.1 18)), (19, ((x_S X).2.2.1 19)), (20, ((x_S X).2.2.1 20)), (22, ((x_S X).2.2.1 22)), (23, ((x_S X).2.2.1 23))]) (L4 := [(21, ((x_S X).2.2.2.1 21))]) (L5 := []) [38, 39, 44] [] [17, 18, 19, 20, 22, 23] [21] [] rfl rfl rfl rfl rfl ?_
  refine go_aload_n (pc' := 1) hC dX12_matters_0 rfl rfl ?_
  refine go_iload_n (pc' := 2) hC dX12_matters_1 rfl rfl ?_
  obtain ⟨o1, ho1, hf⟩ := bd_e hf
  refine go_callV0 (pc' := 5) (As := [.int p1]) (st := []) (st' := [.int o1])   (b := 0) hC dX12_matters_2 ⟨mw_956, mw_959, mw_5, yd_yX12_isThing, yp_yX12_isThing, Nat.le_of_ble_eq_true rfl, Nat.le_of_ble_eq_true rfl, Nat.le_of_ble_eq_true rfl, Nat.le_of_ble_eq_true rfl⟩ mw_957 mw_958 layM_0 rfl rfl rfl (Nat.le_of_ble_eq_true rfl) (c_X12_isThing (x_l X) (x_D X) (x_q X) g (x_cy X) (x_z X) _ p1 o1 ho1) rfl rfl (fun g => ?_)
  refine go_if_ne (tgt := 12) (pc' := 8) hC dX12_matters_5 (by decide) rfl (fun h8 => ?_) (fun h8 => ?_)
  · have hf := ite_f h8 hf
    refine go_iload_n (pc' := 13) hC dX12_matters_12 rfl rfl ?_
    refine go_if_ne (tgt := 24) (pc' := 16) hC dX12_matters_13 (by decide) rfl (fun h7 => ?_) (fun h7 => ?_)
    · have hf := ite_f h7 hf
      refine go_iload_n (pc' := 25) hC dX12_matters_24 rfl rfl ?_
      refine go_iconst (pc' := 26) hC dX12_matters_25 ki_1 rfl ?_
      refine go_icmp_ne (tgt := 38) (pc' := 29) hC dX12_matters_26 (by decide) rfl (fun h5 => ?_) (fun h5 => ?_)
      · have hf := ite_f h5 hf
        refine go_iload_n (pc' := 39) hC dX12_matters_38 rfl rfl ?_
        refine go_iconst (pc' := 40) hC dX12_matters_39 ki_2 rfl ?_
        refine go_icmp_ne (tgt := 53) (pc' := 43) hC dX12_matters_40 (by decide) rfl (fun h3 => ?_) (fun h3 => ?_)
        · have hf := ite_f h3 hf
          refine go_ldc2 (pc' := 56) hC dX12_matters_53 mw_922 rfl ?_
          obtain rfl := Option.some.inj hf
          exact go_lret hC hQ dX12_matters_56 rfl rfl rfl rfl rfl
        · have hf := ite_t h3 hf
          refine go_aload_n (pc' := 44) hC dX12_matters_43 rfl rfl ?_
          refine go_getq (pc' := 47) hC 0 33 layM_0 rfl rfl inlX12 (Nat.le_of_ble_eq_true rfl) mw_196 rfl dX12_matters_44 rfl ?_
          refine go_iload_n (pc' := 48) hC dX12_matters_47 rfl rfl ?_
          obtain ⟨h2, hf⟩ := gd_e hf
          refine go_iald (f := ((x_S X).2.2.1 16)) (pc' := 49) hC 16 layM_16 rfl rfl dX12_matters_48 (okx_in h2) rfl ?_
          refine go_i2l (pc' := 50) hC dX12_matters_49 rfl ?_
          refine go_goto (tgt := 56) hC dX12_matters_50 (by decide) ?_
          obtain rfl := Option.some.inj hf
          exact go_lret hC hQ dX12_matters_56 rfl rfl rfl rfl rfl
      · have hf := ite_t h5 hf
        refine go_aload_n (pc' := 30) hC dX12_matters_29 rfl rfl ?_
        refine go_iload_n (pc' := 31) hC dX12_matters_30 rfl rfl ?_
        obtain ⟨o4, ho4, hf⟩ := bd_e hf
        refine go_callV (pc' := 34) (As := [.int p1]) (st := []) (st' := [.int o4.1]) (L1' := [(38, o4.2.1), (39, o4.2.2.1), (44, o4.2.2.2.1)]) (L2' := []) (L3' := [(17, o4.2.2.2.2.1), (18, o4.2.2.2.2.2.1), (19, o4.2.2.2.2.2.2.1), (20, o4.2.2.2.2.2.2.2), (22, ((x_S X).2.2.1 22)), (23, ((x_S X).2.2.1 23))]) (L4' := [(21, ((x_S X).2.2.2.1 21))]) (L5' := []) (cells' := 0) (slots' := 0) (b := 0) hC dX12_matters_31 ⟨mw_989, mw_992, mw_5, yd_yX12_decides, yp_yX12_decides, Nat.le_of_ble_eq_true rfl, Nat.le_of_ble_eq_true rfl, Nat.le_of_ble_eq_true rfl, Nat.le_of_ble_eq_true rfl⟩ mw_990 mw_991 layM_0 rfl rfl rfl (Nat.le_of_ble_eq_true rfl) (c_X12_decides (x_l X) (x_D X) (x_q X) g (x_cy X) (x_z X) _ p1 o4 ho4) rfl rfl rfl rfl rfl rfl rfl rfl rfl rfl rfl rfl rfl rfl (fun g => ?_)
        refine go_i2l (pc' := 35) hC dX12_matters_34 rfl ?_
        refine go_goto (tgt := 56) hC dX12_matters_35 (by decide) ?_
        obtain rfl := Option.some.inj hf
        exact go_lret hC hQ dX12_matters_56 rfl rfl rfl rfl rfl
    · have hf := ite_t h7 hf
      refine go_aload_n (pc' := 17) hC dX12_matters_16 rfl rfl ?_
      refine go_iload_n (pc' := 18) hC dX12_matters_17 rfl rfl ?_
      obtain ⟨o6, ho6, hf⟩ := bd_e hf
      refine go_callV (pc' := 21) (As := [.int p1]) (st := []) (st' := [.long o6.1]) (L1' := [(38, o6.2.1), (39, o6.2.2.1), (44, o6.2.2.2.1)]) (L2' := []) (L3' := [(17, o6.2.2.2.2.1), (18, o6.2.2.2.2.2.1), (19, o6.2.2.2.2.2.2.1), (20, o6.2.2.2.2.2.2.2.1), (22, o6.2.2.2.2.2.2.2.2.1), (23, o6.2.2.2.2.2.2.2.2.2.1)]) (L4' := [(21, o6.2.2.2.2.2.2.2.2.2.2)]) (L5' := []) (cells' := 0) (slots' := 0) (b := 0) hC dX12_matters_18 ⟨mw_985, mw_988, mw_5, yd_yX12_mattersOf, yp_yX12_mattersOf, Nat.le_of_ble_eq_true rfl, Nat.le_of_ble_eq_true rfl, Nat.le_of_ble_eq_true rfl, Nat.le_of_ble_eq_true rfl⟩ mw_986 mw_987 layM_0 rfl rfl rfl (Nat.le_of_ble_eq_true rfl) (c_X12_mattersOf (x_l X) (x_D X) (x_q X) g (x_cy X) (x_z X) _ p1 o6 ho6) rfl rfl rfl rfl rfl rfl rfl rfl rfl rfl rfl rfl rfl rfl (fun g => ?_)
      refine go_goto (tgt := 56) hC dX12_matters_21 (by decide) ?_
      obtain rfl := Option.some.inj hf
      exact go_lret hC hQ dX12_matters_56 rfl rfl rfl rfl rfl
  · have hf := ite_t h8 hf
    refine go_ldc2 (pc' := 11) hC dX12_matters_8 mw_922 rfl ?_
    obtain rfl := Option.some.inj hf
    exact go_lret hC hQ dX12_matters_11 rfl rfl rfl rfl rfl
theorem dX12_most_0 : decode cX12_most 0 = .ok (.iconst (-1), 1) := by decide +kernel
theorem dX12_most_1 : decode cX12_most 1 = .ok (.istore_n 1, 1) := by decide +kernel
theorem dX12_most_2 : decode cX12_most 2 = .ok (.lconst 0, 1) := by decide +kernel
theorem dX12_most_3 : decode cX12_most 3 = .ok (.lstore_n 2, 1) := by decide +kernel
theorem dX12_most_4 : decode cX12_most 4 = .ok (.iconst 0, 1) := by decide +kernel
theorem dX12_most_5 : decode cX12_most 5 = .ok (.istore 4, 2) := by decide +kernel
theorem dX12_most_7 : decode cX12_most 7 = .ok (.iload 4, 2) := by decide +kernel
theorem dX12_most_9 : decode cX12_most 9 = .ok (.aload_n 0, 1) := by decide +kernel
theorem dX12_most_10 : decode cX12_most 10 = .ok (.getfield 288, 3) := by decide +kernel
theorem dX12_most_13 : decode cX12_most 13 = .ok (.if_icmp .ge 37, 3) := by decide +kernel
theorem dX12_most_16 : decode cX12_most 16 = .ok (.aload_n 0, 1) := by decide +kernel
theorem dX12_most_17 : decode cX12_most 17 = .ok (.iload 4, 2) := by decide +kernel
theorem dX12_most_19 : decode cX12_most 19 = .ok (.invokevirtual 389, 3) := by decide +kernel
theorem dX12_most_22 : decode cX12_most 22 = .ok (.lstore 5, 2) := by decide +kernel
theorem dX12_most_24 : decode cX12_most 24 = .ok (.iload_n 1, 1) := by decide +kernel
theorem dX12_most_25 : decode cX12_most 25 = .ok (.ifCond .lt 13, 3) := by decide +kernel
theorem dX12_most_28 : decode cX12_most 28 = .ok (.lload 5, 2) := by decide +kernel
theorem dX12_most_30 : decode cX12_most 30 = .ok (.lload_n 2, 1) := by decide +kernel
theorem dX12_most_31 : decode cX12_most 31 = .ok (.lcmp, 1) := by decide +kernel
theorem dX12_most_32 : decode cX12_most 32 = .ok (.ifCond .gt 6, 3) := by decide +kernel
theorem dX12_most_35 : decode cX12_most 35 = .ok (.goto 9, 3) := by decide +kernel
theorem dX12_most_38 : decode cX12_most 38 = .ok (.iload 4, 2) := by decide +kernel
theorem dX12_most_40 : decode cX12_most 40 = .ok (.istore_n 1, 1) := by decide +kernel
theorem dX12_most_41 : decode cX12_most 41 = .ok (.lload 5, 2) := by decide +kernel
theorem dX12_most_43 : decode cX12_most 43 = .ok (.lstore_n 2, 1) := by decide +kernel
theorem dX12_most_44 : decode cX12_most 44 = .ok (.iinc 4 1, 3) := by decide +kernel
theorem dX12_most_47 : decode cX12_most 47 = .ok (.goto (-40), 3) := by decide +kernel
theorem dX12_most_50 : decode cX12_most 50 = .ok (.iload_n 1, 1) := by decide +kernel
theorem dX12_most_51 : decode cX12_most 51 = .ok (.ireturn, 1) := by decide +kernel
abbrev o_X12_most : Type := Int32 × Int32 × Int32 × Int32 × (Nat → Int32) × (Nat → Int32) × (Nat → Int32) × (Nat → Int32) × (Nat → Int32) × (Nat → Int32) × (Nat → Int64)
def f_X12_most_L7 (S : wd_W) (r14 : (Int32) → (Int64) → (Int32) → (Int32) → (Int32) → (Int32) → (Nat → Int32) → (Nat → Int32) → (Nat → Int32) → (Nat → Int32) → (Nat → Int32) → (Nat → Int32) → (Nat → Int64) → (Option o_X12_most)) (x1 : Int32) (x2 : Int64) (x3 : Int32) (x4 : Int32) (x5 : Int32) (x6 : Int32) (a7 : Nat → Int32) (a8 : Nat → Int32) (a9 : Nat → Int32) (a10 : Nat → Int32) (a11 : Nat → Int32) (a12 : Nat → Int32) (a13 : Nat → Int64) : Option o_X12_most :=
if (S.1 32) ≤ x3 then (
some (x1, x4, x5, x6, a7, a8, a9, a10, a11, a12, a13)) else (
bd (f_X12_mattersOf (wd_o S [(38, x4), (39, x5), (44, x6)] [] [(17, a7), (18, a8), (19, a9), (20, a10), (22, a11), (23, a12)] [(21, a13)] []) x3) fun o15 =>
lk (fun x16 x17 =>
r14 x16 x17 (x3 + (1 : Int32)) o15.2.1 o15.2.2.1 o15.2.2.2.1 o15.2.2.2.2.1 o15.2.2.2.2.2.1 o15.2.2.2.2.2.2.1 o15.2.2.2.2.2.2.2.1 o15.2.2.2.2.2.2.2.2.1 o15.2.2.2.2.2.2.2.2.2.1 o15.2.2.2.2.2.2.2.2.2.2) fun k44_18 =>
lk (k44_18 x3 o15.1) fun k38_19 =>
if x1 < 0 then (
k38_19) else (
if x2 < o15.1 then (
k38_19) else (
k44_18 x1 x2)))
def f_X12_most (S : wd_W) : Option o_X12_most :=
it13 (f_X12_most_L7 S) fuel (-1 : Int32) (0 : Int64) (0 : Int32) (S.1 38) (S.1 39) (S.1 44) (S.2.2.1 17) (S.2.2.1 18) (S.2.2.1 19) (S.2.2.1 20) (S.2.2.1 22) (S.2.2.1 23) (S.2.2.2.1 21)
set_option maxRecDepth 100000 in
set_option maxHeartbeats 4000000 in
theorem c_X12_most (l : Launch) (D : va_G) (q g : Nat → Nat) (cy : Nat → ClassId) (z : (Nat → Nat) × (Nat → Nat) × Nat) (S : wd_W) (o : o_X12_most) (hf : f_X12_most S = some o) : MX layM l yX12_most cX12_most 7 (some .int) ({ frames := 8, cells := 0, slots := 0, locals := 181 } : Room) D q g cy z [.ref (q 0)] S (some (.int o.1)) (wd_o S [(38, o.2.1), (39, o.2.2.1), (44, o.2.2.2.1)] [] [(17, o.2.2.2.2.1), (18, o.2.2.2.2.2.1), (19, o.2.2.2.2.2.2.1), (20, o.2.2.2.2.2.2.2.1), (22, o.2.2.2.2.2.2.2.2.1), (23, o.2.2.2.2.2.2.2.2.2.1)] [(21, o.2.2.2.2.2.2.2.2.2.2)] []) 0 0 := by
  refine mx_of (own := RX12) (lc := [(0, .ref (q 0))]) (by decide +kernel) rfl layM_ok (Nat.le_of_ble_eq_true rfl) rfl ?_
  intro X hXl hXq hXS hC hQ
  subst hXl; subst hXq; subst hXS
  unfold f_X12_most at hf
  refine go_keys (L1 := [(38, ((x_S X).1 38)), (39, ((x_S X).1 39)), (44, ((x_S X).1 44))]) (L2 := []) (L3 := [(17, ((x_S X).2.2.1 17)), (18, ((x_S X).2.2.1 18)), (19, ((x_S X).2.2.1 19)), (20, ((x_S X).2.2.1 20)), (22, ((x_S X).2.2.1 22)), (23, ((x_S X).2.2.1 23))]) (L4 := [(21, ((x_S X).2.2.2.1 21))]) (L5 := []) [38, 39, 44] [] [17, 18, 19, 20, 22, 23] [21] [] rfl rfl rfl rfl rfl ?_
  refine go_iconst (pc' := 1) hC dX12_most_0 ki_m1 rfl ?_
  refine go_istore_n (lc' := [(0, .ref (x_q X 0)), (1, .int (-1 : Int32))]) (pc' := 2) hC dX12_most_1 (Nat.le_of_ble_eq_true rfl) rfl rfl ?_
  refine go_lconst (pc' := 3) hC dX12_most_2 kl_0 rfl ?_
  refine go_lstore_n (lc' := [(0, .ref (x_q X 0)), (1, .int (-1 : Int32)), (2, .long (0 : Int64))]) (pc' := 4) hC dX12_most_3 (Nat.le_of_ble_eq_true rfl) rfl rfl ?_
  refine go_iconst (pc' := 5) hC dX12_most_4 ki_0 rfl ?_
  refine go_istore (lc' := [(0, .ref (x_q X 0)), (1, .int (-1 : Int32)), (2, .long (0 : Int64)), (4, .int (0 : Int32))]) (pc' := 7) hC dX12_most_5 (Nat.le_of_ble_eq_true rfl) rfl rfl ?_
  have l7_23 : ∀ (nn : Nat) (x1 : Int32) (x2 : Int64) (x3 : Int32) (x4 : Int32) (x5 : Int32) (x6 : Int32) (a7 : Nat → Int32) (a8 : Nat → Int32) (a9 : Nat → Int32) (a10 : Nat → Int32) (a11 : Nat → Int32) (a12 : Nat → Int32) (a13 : Nat → Int64) (g : Nat → Nat), it13 (f_X12_most_L7 (x_S X)) nn x1 x2 x3 x4 x5 x6 a7 a8 a9 a10 a11 a12 a13 = some o → Go X layM 7 [(0, .ref (x_q X 0)), (1, .int x1), (2, .long x2), (4, .int x3)] [] g [(38, x4), (39, x5), (44, x6)] [] [(17, a7), (18, a8), (19, a9), (20, a10), (22, a11), (23, a12)] [(21, a13)] [] 0 0 := by
    intro nn
    induction nn with
    | zero =>
      intro x1 x2 x3 x4 x5 x6 a7 a8 a9 a10 a11 a12 a13 g hf
      exact none_no hf
    | succ nn ih =>
      intro x1 x2 x3 x4 x5 x6 a7 a8 a9 a10 a11 a12 a13 g hf
      have hf : f_X12_most_L7 (x_S X) (it13 (f_X12_most_L7 (x_S X)) nn) x1 x2 x3 x4 x5 x6 a7 a8 a9 a10 a11 a12 a13 = some o := hf
      generalize it13 (f_X12_most_L7 (x_S X)) nn = r14 at ih hf
      unfold f_X12_most_L7 at hf
      refine go_iload (pc' := 9) hC dX12_most_7 rfl rfl ?_
      refine go_aload_n (pc' := 10) hC dX12_most_9 rfl rfl ?_
      refine go_geti (v := ((x_S X).1 32)) (pc' := 13) hC 0 32 layM_0 rfl rfl inlX12 (Nat.le_of_ble_eq_true rfl) mw_250 rfl dX12_most_10 rfl rfl ?_
      refine go_icmp_ge (tgt := 50) (pc' := 16) hC dX12_most_13 (by decide) rfl (fun h22 => ?_) (fun h22 => ?_)
      · have hf := ite_t h22 hf
        refine go_iload_n (pc' := 51) hC dX12_most_50 rfl rfl ?_
        obtain rfl := Option.some.inj hf
        exact go_iret hC hQ dX12_most_51 rfl rfl rfl rfl rfl rfl
      · have hf := ite_f h22 hf
        refine go_aload_n (pc' := 17) hC dX12_most_16 rfl rfl ?_
        refine go_iload (pc' := 19) hC dX12_most_17 rfl rfl ?_
        obtain ⟨o15, ho15, hf⟩ := bd_e hf
        refine go_callV (pc' := 22) (As := [.int x3]) (st := []) (st' := [.long o15.1]) (L1' := [(38, o15.2.1), (39, o15.2.2.1), (44, o15.2.2.2.1)]) (L2' := []) (L3' := [(17, o15.2.2.2.2.1), (18, o15.2.2.2.2.2.1), (19, o15.2.2.2.2.2.2.1), (20, o15.2.2.2.2.2.2.2.1), (22, o15.2.2.2.2.2.2.2.2.1), (23, o15.2.2.2.2.2.2.2.2.2.1)]) (L4' := [(21, o15.2.2.2.2.2.2.2.2.2.2)]) (L5' := []) (cells' := 0) (slots' := 0) (b := 0) hC dX12_most_19 ⟨mw_985, mw_988, mw_5, yd_yX12_mattersOf, yp_yX12_mattersOf, Nat.le_of_ble_eq_true rfl, Nat.le_of_ble_eq_true rfl, Nat.le_of_ble_eq_true rfl, Nat.le_of_ble_eq_true rfl⟩ mw_986 mw_987 layM_0 rfl rfl rfl (Nat.le_of_ble_eq_true rfl) (c_X12_mattersOf (x_l X) (x_D X) (x_q X) g (x_cy X) (x_z X) _ x3 o15 ho15) rfl rfl rfl rfl rfl rfl rfl rfl rfl rfl rfl rfl rfl rfl (fun g => ?_)
        refine go_lstore (lc' := [(0, .ref (x_q X 0)), (1, .int x1), (2, .long x2), (4, .int x3), (5, .long o15.1)]) (pc' := 24) hC dX12_most_22 (Nat.le_of_ble_eq_true rfl) rfl rfl ?_
        refine go_iload_n (pc' := 25) hC dX12_most_24 rfl rfl ?_
        obtain ⟨k44_18, hk44_18, hf⟩ := lk_e2 hf
        have jk44_18 : ∀ (x16 : Int32) (x17 : Int64) (g : Nat → Nat), k44_18 x16 x17 = some o → Go X layM 44 [(0, .ref (x_q X 0)), (1, .int x16), (2, .long x17), (4, .int x3)] [] g [(38, o15.2.1), (39, o15.2.2.1), (44, o15.2.2.2.1)] [] [(17, o15.2.2.2.2.1), (18, o15.2.2.2.2.2.1), (19, o15.2.2.2.2.2.2.1), (20, o15.2.2.2.2.2.2.2.1), (22, o15.2.2.2.2.2.2.2.2.1), (23, o15.2.2.2.2.2.2.2.2.2.1)] [(21, o15.2.2.2.2.2.2.2.2.2.2)] [] 0 0 := by
          intro x16 x17 g hf
          have hf := hk44_18 x16 x17 hf
          clear hk44_18
          refine go_iinc (lc' := [(0, .ref (x_q X 0)), (1, .int x16), (2, .long x17), (4, .int (x3 + (1 : Int32)))]) (pc' := 47) hC dX12_most_44 rfl ki_1 (Nat.le_of_ble_eq_true rfl) rfl rfl ?_
          refine go_goto (tgt := 7) hC dX12_most_47 (by decide) ?_
          exact ih x16 x17 (x3 + (1 : Int32)) o15.2.1 o15.2.2.1 o15.2.2.2.1 o15.2.2.2.2.1 o15.2.2.2.2.2.1 o15.2.2.2.2.2.2.1 o15.2.2.2.2.2.2.2.1 o15.2.2.2.2.2.2.2.2.1 o15.2.2.2.2.2.2.2.2.2.1 o15.2.2.2.2.2.2.2.2.2.2 g hf
        clear hk44_18
        obtain ⟨k38_19, hk38_19, hf⟩ := lk_e0 hf
        have jk38_19 : ∀ (g : Nat → Nat), k38_19 = some o → Go X layM 38 [(0, .ref (x_q X 0)), (4, .int x3), (5, .long o15.1)] [] g [(38, o15.2.1), (39, o15.2.2.1), (44, o15.2.2.2.1)] [] [(17, o15.2.2.2.2.1), (18, o15.2.2.2.2.2.1), (19, o15.2.2.2.2.2.2.1), (20, o15.2.2.2.2.2.2.2.1), (22, o15.2.2.2.2.2.2.2.2.1), (23, o15.2.2.2.2.2.2.2.2.2.1)] [(21, o15.2.2.2.2.2.2.2.2.2.2)] [] 0 0 := by
          intro  g hf
          have hf := hk38_19 hf
          clear hk38_19
          refine go_iload (pc' := 40) hC dX12_most_38 rfl rfl ?_
          refine go_istore_n (lc' := [(0, .ref (x_q X 0)), (1, .int x3), (4, .int x3), (5, .long o15.1)]) (pc' := 41) hC dX12_most_40 (Nat.le_of_ble_eq_true rfl) rfl rfl ?_
          refine go_lload (pc' := 43) hC dX12_most_41 rfl rfl ?_
          refine go_lstore_n (lc' := [(0, .ref (x_q X 0)), (1, .int x3), (2, .long o15.1), (4, .int x3), (5, .long o15.1)]) (pc' := 44) hC dX12_most_43 (Nat.le_of_ble_eq_true rfl) rfl rfl ?_
          refine go_sub [0, 1, 2, 4] rfl ?_
          exact jk44_18 x3 o15.1 g hf
        clear hk38_19
        refine go_if_lt (tgt := 38) (pc' := 28) hC dX12_most_25 (by decide) rfl (fun h21 => ?_) (fun h21 => ?_)
        · have hf := ite_t h21 hf
          refine go_sub [0, 4, 5] rfl ?_
          exact jk38_19 g hf
        · have hf := ite_f h21 hf
          refine go_lload (pc' := 30) hC dX12_most_28 rfl rfl ?_
          refine go_lload_n (pc' := 31) hC dX12_most_30 rfl rfl ?_
          refine go_lcmp (pc' := 32) hC dX12_most_31 rfl ?_
          refine go_if_gt (tgt := 38) (pc' := 35) hC dX12_most_32 (by decide) rfl (fun h20 => ?_) (fun h20 => ?_)
          · have hf := ite_t (lg_gt.mp h20) hf
            refine go_sub [0, 4, 5] rfl ?_
            exact jk38_19 g hf
          · have hf := ite_f (mt lg_gt.mpr h20) hf
            refine go_goto (tgt := 44) hC dX12_most_35 (by decide) ?_
            refine go_sub [0, 1, 2, 4] rfl ?_
            exact jk44_18 x1 x2 g hf
  exact l7_23 fuel (-1 : Int32) (0 : Int64) (0 : Int32) ((x_S X).1 38) ((x_S X).1 39) ((x_S X).1 44) ((x_S X).2.2.1 17) ((x_S X).2.2.1 18) ((x_S X).2.2.1 19) ((x_S X).2.2.1 20) ((x_S X).2.2.1 22) ((x_S X).2.2.1 23) ((x_S X).2.2.2.1 21) g hf
theorem dX12_useless_0 : decode cX12_useless 0 = .ok (.iconst 0, 1) := by decide +kernel
theorem dX12_useless_1 : decode cX12_useless 1 = .ok (.istore_n 1, 1) := by decide +kernel
theorem dX12_useless_2 : decode cX12_useless 2 = .ok (.iconst 0, 1) := by decide +kernel
theorem dX12_useless_3 : decode cX12_useless 3 = .ok (.istore_n 2, 1) := by decide +kernel
theorem dX12_useless_4 : decode cX12_useless 4 = .ok (.iload_n 2, 1) := by decide +kernel
theorem dX12_useless_5 : decode cX12_useless 5 = .ok (.aload_n 0, 1) := by decide +kernel
theorem dX12_useless_6 : decode cX12_useless 6 = .ok (.getfield 288, 3) := by decide +kernel
theorem dX12_useless_9 : decode cX12_useless 9 = .ok (.if_icmp .ge 27, 3) := by decide +kernel
theorem dX12_useless_12 : decode cX12_useless 12 = .ok (.iload_n 1, 1) := by decide +kernel
theorem dX12_useless_13 : decode cX12_useless 13 = .ok (.aload_n 0, 1) := by decide +kernel
theorem dX12_useless_14 : decode cX12_useless 14 = .ok (.iload_n 2, 1) := by decide +kernel
theorem dX12_useless_15 : decode cX12_useless 15 = .ok (.invokevirtual 392, 3) := by decide +kernel
theorem dX12_useless_18 : decode cX12_useless 18 = .ok (.ifCond .ne 9, 3) := by decide +kernel
theorem dX12_useless_21 : decode cX12_useless 21 = .ok (.iconst 1, 1) := by decide +kernel
theorem dX12_useless_22 : decode cX12_useless 22 = .ok (.iload_n 2, 1) := by decide +kernel
theorem dX12_useless_23 : decode cX12_useless 23 = .ok (.ishl, 1) := by decide +kernel
theorem dX12_useless_24 : decode cX12_useless 24 = .ok (.goto 4, 3) := by decide +kernel
theorem dX12_useless_27 : decode cX12_useless 27 = .ok (.iconst 0, 1) := by decide +kernel
theorem dX12_useless_28 : decode cX12_useless 28 = .ok (.ior, 1) := by decide +kernel
theorem dX12_useless_29 : decode cX12_useless 29 = .ok (.istore_n 1, 1) := by decide +kernel
theorem dX12_useless_30 : decode cX12_useless 30 = .ok (.iinc 2 1, 3) := by decide +kernel
theorem dX12_useless_33 : decode cX12_useless 33 = .ok (.goto (-29), 3) := by decide +kernel
theorem dX12_useless_36 : decode cX12_useless 36 = .ok (.iload_n 1, 1) := by decide +kernel
theorem dX12_useless_37 : decode cX12_useless 37 = .ok (.ireturn, 1) := by decide +kernel
abbrev o_X12_useless : Type := Int32 × Int32 × Int32 × Int32 × (Nat → Int32) × (Nat → Int32) × (Nat → Int32) × (Nat → Int32)
def f_X12_useless_L4 (S : wd_W) (r10 : (Int32) → (Int32) → (Int32) → (Int32) → (Int32) → (Nat → Int32) → (Nat → Int32) → (Nat → Int32) → (Nat → Int32) → (Option o_X12_useless)) (x1 : Int32) (x2 : Int32) (x3 : Int32) (x4 : Int32) (x5 : Int32) (a6 : Nat → Int32) (a7 : Nat → Int32) (a8 : Nat → Int32) (a9 : Nat → Int32) : Option o_X12_useless :=
if (S.1 32) ≤ x2 then (
some (x1, x3, x4, x5, a6, a7, a8, a9)) else (
bd (f_X12_decides (wd_o S [(38, x3), (39, x4), (44, x5)] [] [(17, a6), (18, a7), (19, a8), (20, a9)] [] []) x2) fun o11 =>
lk (fun x12 x13 =>
lz (x13 ||| x12) fun x15 =>
r10 x15 (x2 + (1 : Int32)) o11.2.1 o11.2.2.1 o11.2.2.2.1 o11.2.2.2.2.1 o11.2.2.2.2.2.1 o11.2.2.2.2.2.2.1 o11.2.2.2.2.2.2.2) fun k28_14 =>
if o11.1 = 0 then (
k28_14 ((1 : Int32) <<< (x2 &&& 31)) x1) else (
k28_14 (0 : Int32) x1))
def f_X12_useless (S : wd_W) : Option o_X12_useless :=
it9 (f_X12_useless_L4 S) fuel (0 : Int32) (0 : Int32) (S.1 38) (S.1 39) (S.1 44) (S.2.2.1 17) (S.2.2.1 18) (S.2.2.1 19) (S.2.2.1 20)
set_option maxRecDepth 100000 in
set_option maxHeartbeats 4000000 in
theorem c_X12_useless (l : Launch) (D : va_G) (q g : Nat → Nat) (cy : Nat → ClassId) (z : (Nat → Nat) × (Nat → Nat) × Nat) (S : wd_W) (o : o_X12_useless) (hf : f_X12_useless S = some o) : MX layM l yX12_useless cX12_useless 3 (some .int) ({ frames := 6, cells := 0, slots := 0, locals := 138 } : Room) D q g cy z [.ref (q 0)] S (some (.int o.1)) (wd_o S [(38, o.2.1), (39, o.2.2.1), (44, o.2.2.2.1)] [] [(17, o.2.2.2.2.1), (18, o.2.2.2.2.2.1), (19, o.2.2.2.2.2.2.1), (20, o.2.2.2.2.2.2.2)] [] []) 0 0 := by
  refine mx_of (own := RX12) (lc := [(0, .ref (q 0))]) (by decide +kernel) rfl layM_ok (Nat.le_of_ble_eq_true rfl) rfl ?_
  intro X hXl hXq hXS hC hQ
  subst hXl; subst hXq; subst hXS
  unfold f_X12_useless at hf
  refine go_keys (L1 := [(38, ((x_S X).1 38)), (39, ((x_S X).1 39)), (44, ((x_S X).1 44))]) (L2 := []) (L3 := [(17, ((x_S X).2.2.1 17)), (18, ((x_S X).2.2.1 18)), (19, ((x_S X).2.2.1 19)), (20, ((x_S X).2.2.1 20))]) (L4 := []) (L5 := []) [38, 39, 44] [] [17, 18, 19, 20] [] [] rfl rfl rfl rfl rfl ?_
  refine go_iconst (pc' := 1) hC dX12_useless_0 ki_0 rfl ?_
  refine go_istore_n (lc' := [(0, .ref (x_q X 0)), (1, .int (0 : Int32))]) (pc' := 2) hC dX12_useless_1 (Nat.le_of_ble_eq_true rfl) rfl rfl ?_
  refine go_iconst (pc' := 3) hC dX12_useless_2 ki_0 rfl ?_
  refine go_istore_n (lc' := [(0, .ref (x_q X 0)), (1, .int (0 : Int32)), (2, .int (0 : Int32))]) (pc' := 4) hC dX12_useless_3 (Nat.le_of_ble_eq_true rfl) rfl rfl ?_
  have l4_18 : ∀ (nn : Nat) (x1 : Int32) (x2 : Int32) (x3 : Int32) (x4 : Int32) (x5 : Int32) (a6 : Nat → Int32) (a7 : Nat → Int32) (a8 : Nat → Int32) (a9 : Nat → Int32) (g : Nat → Nat), it9 (f_X12_useless_L4 (x_S X)) nn x1 x2 x3 x4 x5 a6 a7 a8 a9 = some o → Go X layM 4 [(0, .ref (x_q X 0)), (1, .int x1), (2, .int x2)] [] g [(38, x3), (39, x4), (44, x5)] [] [(17, a6), (18, a7), (19, a8), (20, a9)] [] [] 0 0 := by
    intro nn
    induction nn with
    | zero =>
      intro x1 x2 x3 x4 x5 a6 a7 a8 a9 g hf
      exact none_no hf
    | succ nn ih =>
      intro x1 x2 x3 x4 x5 a6 a7 a8 a9 g hf
      have hf : f_X12_useless_L4 (x_S X) (it9 (f_X12_useless_L4 (x_S X)) nn) x1 x2 x3 x4 x5 a6 a7 a8 a9 = some o := hf
      generalize it9 (f_X12_useless_L4 (x_S X)) nn = r10 at ih hf
      unfold f_X12_useless_L4 at hf
      refine go_iload_n (pc' := 5) hC dX12_useless_4 rfl rfl ?_
      refine go_aload_n (pc' := 6) hC dX12_useless_5 rfl rfl ?_
      refine go_geti (v := ((x_S X).1 32)) (pc' := 9) hC 0 32 layM_0 rfl rfl inlX12 (Nat.le_of_ble_eq_true rfl) mw_250 rfl dX12_useless_6 rfl rfl ?_
      refine go_icmp_ge (tgt := 36) (pc' := 12) hC dX12_useless_9 (by decide) rfl (fun h17 => ?_) (fun h17 => ?_)
      · have hf := ite_t h17 hf
        refine go_iload_n (pc' := 37) hC dX12_useless_36 rfl rfl ?_
        obtain rfl := Option.some.inj hf
        exact go_iret hC hQ dX12_useless_37 rfl rfl rfl rfl rfl rfl
      · have hf := ite_f h17 hf
        refine go_iload_n (pc' := 13) hC dX12_useless_12 rfl rfl ?_
        refine go_aload_n (pc' := 14) hC dX12_useless_13 rfl rfl ?_
        refine go_iload_n (pc' := 15) hC dX12_useless_14 rfl rfl ?_
        obtain ⟨o11, ho11, hf⟩ := bd_e hf
        refine go_callV (pc' := 18) (As := [.int x2]) (st := [.int x1]) (st' := [.int o11.1, .int x1]) (L1' := [(38, o11.2.1), (39, o11.2.2.1), (44, o11.2.2.2.1)]) (L2' := []) (L3' := [(17, o11.2.2.2.2.1), (18, o11.2.2.2.2.2.1), (19, o11.2.2.2.2.2.2.1), (20, o11.2.2.2.2.2.2.2)]) (L4' := []) (L5' := []) (cells' := 0) (slots' := 0) (b := 0) hC dX12_useless_15 ⟨mw_989, mw_992, mw_5, yd_yX12_decides, yp_yX12_decides, Nat.le_of_ble_eq_true rfl, Nat.le_of_ble_eq_true rfl, Nat.le_of_ble_eq_true rfl, Nat.le_of_ble_eq_true rfl⟩ mw_990 mw_991 layM_0 rfl rfl rfl (Nat.le_of_ble_eq_true rfl) (c_X12_decides (x_l X) (x_D X) (x_q X) g (x_cy X) (x_z X) _ x2 o11 ho11) rfl rfl rfl rfl rfl rfl rfl rfl rfl rfl rfl rfl rfl rfl (fun g => ?_)
        obtain ⟨k28_14, hk28_14, hf⟩ := lk_e2 hf
        have jk28_14 : ∀ (x12 : Int32) (x13 : Int32) (g : Nat → Nat), k28_14 x12 x13 = some o → Go X layM 28 [(0, .ref (x_q X 0)), (2, .int x2)] [.int x12, .int x13] g [(38, o11.2.1), (39, o11.2.2.1), (44, o11.2.2.2.1)] [] [(17, o11.2.2.2.2.1), (18, o11.2.2.2.2.2.1), (19, o11.2.2.2.2.2.2.1), (20, o11.2.2.2.2.2.2.2)] [] [] 0 0 := by
          intro x12 x13 g hf
          have hf := hk28_14 x12 x13 hf
          clear hk28_14
          refine go_ior (pc' := 29) hC dX12_useless_28 rfl ?_
          refine go_namei (fun x15 hx => ?_)
          have hf := lz_r hx hf
          clear hx
          refine go_istore_n (lc' := [(0, .ref (x_q X 0)), (1, .int x15), (2, .int x2)]) (pc' := 30) hC dX12_useless_29 (Nat.le_of_ble_eq_true rfl) rfl rfl ?_
          refine go_iinc (lc' := [(0, .ref (x_q X 0)), (1, .int x15), (2, .int (x2 + (1 : Int32)))]) (pc' := 33) hC dX12_useless_30 rfl ki_1 (Nat.le_of_ble_eq_true rfl) rfl rfl ?_
          refine go_goto (tgt := 4) hC dX12_useless_33 (by decide) ?_
          exact ih x15 (x2 + (1 : Int32)) o11.2.1 o11.2.2.1 o11.2.2.2.1 o11.2.2.2.2.1 o11.2.2.2.2.2.1 o11.2.2.2.2.2.2.1 o11.2.2.2.2.2.2.2 g hf
        clear hk28_14
        refine go_if_ne (tgt := 27) (pc' := 21) hC dX12_useless_18 (by decide) rfl (fun h16 => ?_) (fun h16 => ?_)
        · have hf := ite_f h16 hf
          refine go_iconst (pc' := 28) hC dX12_useless_27 ki_0 rfl ?_
          refine go_sub [0, 2] rfl ?_
          exact jk28_14 (0 : Int32) x1 g hf
        · have hf := ite_t h16 hf
          refine go_iconst (pc' := 22) hC dX12_useless_21 ki_1 rfl ?_
          refine go_iload_n (pc' := 23) hC dX12_useless_22 rfl rfl ?_
          refine go_ishl (pc' := 24) hC dX12_useless_23 rfl ?_
          refine go_goto (tgt := 28) hC dX12_useless_24 (by decide) ?_
          refine go_sub [0, 2] rfl ?_
          exact jk28_14 ((1 : Int32) <<< (x2 &&& 31)) x1 g hf
  exact l4_18 fuel (0 : Int32) (0 : Int32) ((x_S X).1 38) ((x_S X).1 39) ((x_S X).1 44) ((x_S X).2.2.1 17) ((x_S X).2.2.1 18) ((x_S X).2.2.1 19) ((x_S X).2.2.1 20) g hf
theorem dX12_isWay_0 : decode cX12_isWay 0 = .ok (.aload_n 0, 1) := by decide +kernel
theorem dX12_isWay_1 : decode cX12_isWay 1 = .ok (.getfield 70, 3) := by decide +kernel
theorem dX12_isWay_4 : decode cX12_isWay 4 = .ok (.iload_n 1, 1) := by decide +kernel
theorem dX12_isWay_5 : decode cX12_isWay 5 = .ok (.baload, 1) := by decide +kernel
theorem dX12_isWay_6 : decode cX12_isWay 6 = .ok (.ifCond .ne 5, 3) := by decide +kernel
theorem dX12_isWay_9 : decode cX12_isWay 9 = .ok (.iconst 0, 1) := by decide +kernel
theorem dX12_isWay_10 : decode cX12_isWay 10 = .ok (.ireturn, 1) := by decide +kernel
theorem dX12_isWay_11 : decode cX12_isWay 11 = .ok (.iconst 0, 1) := by decide +kernel
theorem dX12_isWay_12 : decode cX12_isWay 12 = .ok (.istore_n 2, 1) := by decide +kernel
theorem dX12_isWay_13 : decode cX12_isWay 13 = .ok (.iload_n 2, 1) := by decide +kernel
theorem dX12_isWay_14 : decode cX12_isWay 14 = .ok (.aload_n 0, 1) := by decide +kernel
theorem dX12_isWay_15 : decode cX12_isWay 15 = .ok (.getfield 288, 3) := by decide +kernel
theorem dX12_isWay_18 : decode cX12_isWay 18 = .ok (.if_icmp .ge 35, 3) := by decide +kernel
theorem dX12_isWay_21 : decode cX12_isWay 21 = .ok (.iload_n 1, 1) := by decide +kernel
theorem dX12_isWay_22 : decode cX12_isWay 22 = .ok (.iload_n 2, 1) := by decide +kernel
theorem dX12_isWay_23 : decode cX12_isWay 23 = .ok (.ishr, 1) := by decide +kernel
theorem dX12_isWay_24 : decode cX12_isWay 24 = .ok (.iconst 1, 1) := by decide +kernel
theorem dX12_isWay_25 : decode cX12_isWay 25 = .ok (.iand, 1) := by decide +kernel
theorem dX12_isWay_26 : decode cX12_isWay 26 = .ok (.iconst 1, 1) := by decide +kernel
theorem dX12_isWay_27 : decode cX12_isWay 27 = .ok (.if_icmp .ne 20, 3) := by decide +kernel
theorem dX12_isWay_30 : decode cX12_isWay 30 = .ok (.aload_n 0, 1) := by decide +kernel
theorem dX12_isWay_31 : decode cX12_isWay 31 = .ok (.getfield 70, 3) := by decide +kernel
theorem dX12_isWay_34 : decode cX12_isWay 34 = .ok (.iload_n 1, 1) := by decide +kernel
theorem dX12_isWay_35 : decode cX12_isWay 35 = .ok (.iconst 1, 1) := by decide +kernel
theorem dX12_isWay_36 : decode cX12_isWay 36 = .ok (.iload_n 2, 1) := by decide +kernel
theorem dX12_isWay_37 : decode cX12_isWay 37 = .ok (.ishl, 1) := by decide +kernel
theorem dX12_isWay_38 : decode cX12_isWay 38 = .ok (.iconst (-1), 1) := by decide +kernel
theorem dX12_isWay_39 : decode cX12_isWay 39 = .ok (.ixor, 1) := by decide +kernel
theorem dX12_isWay_40 : decode cX12_isWay 40 = .ok (.iand, 1) := by decide +kernel
theorem dX12_isWay_41 : decode cX12_isWay 41 = .ok (.baload, 1) := by decide +kernel
theorem dX12_isWay_42 : decode cX12_isWay 42 = .ok (.ifCond .eq 5, 3) := by decide +kernel
theorem dX12_isWay_45 : decode cX12_isWay 45 = .ok (.iconst 0, 1) := by decide +kernel
theorem dX12_isWay_46 : decode cX12_isWay 46 = .ok (.ireturn, 1) := by decide +kernel
theorem dX12_isWay_47 : decode cX12_isWay 47 = .ok (.iinc 2 1, 3) := by decide +kernel
theorem dX12_isWay_50 : decode cX12_isWay 50 = .ok (.goto (-37), 3) := by decide +kernel
theorem dX12_isWay_53 : decode cX12_isWay 53 = .ok (.iconst 1, 1) := by decide +kernel
theorem dX12_isWay_54 : decode cX12_isWay 54 = .ok (.ireturn, 1) := by decide +kernel
abbrev o_X12_isWay : Type := Int32
def f_X12_isWay_L13 (S : wd_W) (p1 : Int32) (r3 : (Int32) → (Option o_X12_isWay)) (x2 : Int32) : Option o_X12_isWay :=
if (S.1 32) ≤ x2 then (
some (1 : Int32)) else (
lk (r3 (x2 + (1 : Int32))) fun k47_4 =>
if ((p1 >>> (x2 &&& 31)) &&& (1 : Int32)) = (1 : Int32) then (
gd (okx (p1 &&& (((1 : Int32) <<< (x2 &&& 31)) ^^^ (-1 : Int32))) 32768) <|
if ((S.2.2.1 20) (p1 &&& (((1 : Int32) <<< (x2 &&& 31)) ^^^ (-1 : Int32))).toNatClampNeg) = 0 then (
k47_4) else (
some (0 : Int32))) else (
k47_4))
def f_X12_isWay (S : wd_W) (p1 : Int32) : Option o_X12_isWay :=
gd (okx p1 32768) <|
if ((S.2.2.1 20) p1.toNatClampNeg) = 0 then (
some (0 : Int32)) else (
it1 (f_X12_isWay_L13 S p1) fuel (0 : Int32))
set_option maxRecDepth 100000 in
set_option maxHeartbeats 4000000 in
theorem c_X12_isWay (l : Launch) (D : va_G) (q g : Nat → Nat) (cy : Nat → ClassId) (z : (Nat → Nat) × (Nat → Nat) × Nat) (S : wd_W) (p1 : Int32) (o : o_X12_isWay) (hf : f_X12_isWay S p1 = some o) : MX layM l yX12_isWay cX12_isWay 3 (some .boolean) ({ frames := 0, cells := 0, slots := 0, locals := 0 } : Room) D q g cy z [.ref (q 0), .int p1] S (some (.int o)) (wd_o S [] [] [] [] []) 0 0 := by
  refine mx_of (own := RX12) (lc := [(0, .ref (q 0)), (1, .int p1)]) (by decide +kernel) rfl layM_ok (Nat.le_of_ble_eq_true rfl) rfl ?_
  intro X hXl hXq hXS hC hQ
  subst hXl; subst hXq; subst hXS
  unfold f_X12_isWay at hf
  refine go_aload_n (pc' := 1) hC dX12_isWay_0 rfl rfl ?_
  refine go_getq (pc' := 4) hC 0 43 layM_0 rfl rfl inlX12 (Nat.le_of_ble_eq_true rfl) mw_201 rfl dX12_isWay_1 rfl ?_
  refine go_iload_n (pc' := 5) hC dX12_isWay_4 rfl rfl ?_
  obtain ⟨h1, hf⟩ := gd_e hf
  refine go_zald (f := ((x_S X).2.2.1 20)) (pc' := 6) hC 20 layM_20 rfl rfl dX12_isWay_5 (okx_in h1) rfl ?_
  refine go_if_ne (tgt := 11) (pc' := 9) hC dX12_isWay_6 (by decide) rfl (fun h10 => ?_) (fun h10 => ?_)
  · have hf := ite_f h10 hf
    refine go_iconst (pc' := 12) hC dX12_isWay_11 ki_0 rfl ?_
    refine go_istore_n (lc' := [(0, .ref (x_q X 0)), (1, .int p1), (2, .int (0 : Int32))]) (pc' := 13) hC dX12_isWay_12 (Nat.le_of_ble_eq_true rfl) rfl rfl ?_
    have l13_9 : ∀ (nn : Nat) (x2 : Int32) (g : Nat → Nat), it1 (f_X12_isWay_L13 (x_S X) p1) nn x2 = some o → Go X layM 13 [(0, .ref (x_q X 0)), (1, .int p1), (2, .int x2)] [] g [] [] [] [] [] 0 0 := by
      intro nn
      induction nn with
      | zero =>
        intro x2 g hf
        exact none_no hf
      | succ nn ih =>
        intro x2 g hf
        have hf : f_X12_isWay_L13 (x_S X) p1 (it1 (f_X12_isWay_L13 (x_S X) p1) nn) x2 = some o := hf
        generalize it1 (f_X12_isWay_L13 (x_S X) p1) nn = r3 at ih hf
        unfold f_X12_isWay_L13 at hf
        refine go_iload_n (pc' := 14) hC dX12_isWay_13 rfl rfl ?_
        refine go_aload_n (pc' := 15) hC dX12_isWay_14 rfl rfl ?_
        refine go_geti (v := ((x_S X).1 32)) (pc' := 18) hC 0 32 layM_0 rfl rfl inlX12 (Nat.le_of_ble_eq_true rfl) mw_250 rfl dX12_isWay_15 rfl rfl ?_
        refine go_icmp_ge (tgt := 53) (pc' := 21) hC dX12_isWay_18 (by decide) rfl (fun h8 => ?_) (fun h8 => ?_)
        · have hf := ite_t h8 hf
          refine go_iconst (pc' := 54) hC dX12_isWay_53 ki_1 rfl ?_
          obtain rfl := Option.some.inj hf
          exact go_iret hC hQ dX12_isWay_54 rfl rfl rfl rfl rfl rfl
        · have hf := ite_f h8 hf
          refine go_iload_n (pc' := 22) hC dX12_isWay_21 rfl rfl ?_
          refine go_iload_n (pc' := 23) hC dX12_isWay_22 rfl rfl ?_
          refine go_ishr (pc' := 24) hC dX12_isWay_23 rfl ?_
          refine go_iconst (pc' := 25) hC dX12_isWay_24 ki_1 rfl ?_
          refine go_iand (pc' := 26) hC dX12_isWay_25 rfl ?_
          refine go_iconst (pc' := 27) hC dX12_isWay_26 ki_1 rfl ?_
          obtain ⟨k47_4, hk47_4, hf⟩ := lk_e0 hf
          have jk47_4 : ∀ (g : Nat → Nat), k47_4 = some o → Go X layM 47 [(0, .ref (x_q X 0)), (1, .int p1), (2, .int x2)] [] g [] [] [] [] [] 0 0 := by
            intro  g hf
            have hf := hk47_4 hf
            clear hk47_4
            refine go_iinc (lc' := [(0, .ref (x_q X 0)), (1, .int p1), (2, .int (x2 + (1 : Int32)))]) (pc' := 50) hC dX12_isWay_47 rfl ki_1 (Nat.le_of_ble_eq_true rfl) rfl rfl ?_
            refine go_goto (tgt := 13) hC dX12_isWay_50 (by decide) ?_
            exact ih (x2 + (1 : Int32)) g hf
          clear hk47_4
          refine go_icmp_ne (tgt := 47) (pc' := 30) hC dX12_isWay_27 (by decide) rfl (fun h7 => ?_) (fun h7 => ?_)
          · have hf := ite_f h7 hf
            exact jk47_4 g hf
          · have hf := ite_t h7 hf
            refine go_aload_n (pc' := 31) hC dX12_isWay_30 rfl rfl ?_
            refine go_getq (pc' := 34) hC 0 43 layM_0 rfl rfl inlX12 (Nat.le_of_ble_eq_true rfl) mw_201 rfl dX12_isWay_31 rfl ?_
            refine go_iload_n (pc' := 35) hC dX12_isWay_34 rfl rfl ?_
            refine go_iconst (pc' := 36) hC dX12_isWay_35 ki_1 rfl ?_
            refine go_iload_n (pc' := 37) hC dX12_isWay_36 rfl rfl ?_
            refine go_ishl (pc' := 38) hC dX12_isWay_37 rfl ?_
            refine go_iconst (pc' := 39) hC dX12_isWay_38 ki_m1 rfl ?_
            refine go_ixor (pc' := 40) hC dX12_isWay_39 rfl ?_
            refine go_iand (pc' := 41) hC dX12_isWay_40 rfl ?_
            obtain ⟨h5, hf⟩ := gd_e hf
            refine go_zald (f := ((x_S X).2.2.1 20)) (pc' := 42) hC 20 layM_20 rfl rfl dX12_isWay_41 (okx_in h5) rfl ?_
            refine go_if_eq (tgt := 47) (pc' := 45) hC dX12_isWay_42 (by decide) rfl (fun h6 => ?_) (fun h6 => ?_)
            · have hf := ite_t h6 hf
              exact jk47_4 g hf
            · have hf := ite_f h6 hf
              refine go_iconst (pc' := 46) hC dX12_isWay_45 ki_0 rfl ?_
              obtain rfl := Option.some.inj hf
              exact go_iret hC hQ dX12_isWay_46 rfl rfl rfl rfl rfl rfl
    exact l13_9 fuel (0 : Int32) g hf
  · have hf := ite_t h10 hf
    refine go_iconst (pc' := 10) hC dX12_isWay_9 ki_0 rfl ?_
    obtain rfl := Option.some.inj hf
    exact go_iret hC hQ dX12_isWay_10 rfl rfl rfl rfl rfl rfl
theorem dX12_isCut_0 : decode cX12_isCut 0 = .ok (.aload_n 0, 1) := by decide +kernel
theorem dX12_isCut_1 : decode cX12_isCut 1 = .ok (.invokevirtual 354, 3) := by decide +kernel
theorem dX12_isCut_4 : decode cX12_isCut 4 = .ok (.iconst 1, 1) := by decide +kernel
theorem dX12_isCut_5 : decode cX12_isCut 5 = .ok (.isub, 1) := by decide +kernel
theorem dX12_isCut_6 : decode cX12_isCut 6 = .ok (.istore_n 2, 1) := by decide +kernel
theorem dX12_isCut_7 : decode cX12_isCut 7 = .ok (.aload_n 0, 1) := by decide +kernel
theorem dX12_isCut_8 : decode cX12_isCut 8 = .ok (.getfield 70, 3) := by decide +kernel
theorem dX12_isCut_11 : decode cX12_isCut 11 = .ok (.iload_n 2, 1) := by decide +kernel
theorem dX12_isCut_12 : decode cX12_isCut 12 = .ok (.iload_n 1, 1) := by decide +kernel
theorem dX12_isCut_13 : decode cX12_isCut 13 = .ok (.iconst (-1), 1) := by decide +kernel
theorem dX12_isCut_14 : decode cX12_isCut 14 = .ok (.ixor, 1) := by decide +kernel
theorem dX12_isCut_15 : decode cX12_isCut 15 = .ok (.iand, 1) := by decide +kernel
theorem dX12_isCut_16 : decode cX12_isCut 16 = .ok (.baload, 1) := by decide +kernel
theorem dX12_isCut_17 : decode cX12_isCut 17 = .ok (.ifCond .eq 5, 3) := by decide +kernel
theorem dX12_isCut_20 : decode cX12_isCut 20 = .ok (.iconst 0, 1) := by decide +kernel
theorem dX12_isCut_21 : decode cX12_isCut 21 = .ok (.ireturn, 1) := by decide +kernel
theorem dX12_isCut_22 : decode cX12_isCut 22 = .ok (.iconst 0, 1) := by decide +kernel
theorem dX12_isCut_23 : decode cX12_isCut 23 = .ok (.istore_n 3, 1) := by decide +kernel
theorem dX12_isCut_24 : decode cX12_isCut 24 = .ok (.iload_n 3, 1) := by decide +kernel
theorem dX12_isCut_25 : decode cX12_isCut 25 = .ok (.aload_n 0, 1) := by decide +kernel
theorem dX12_isCut_26 : decode cX12_isCut 26 = .ok (.getfield 288, 3) := by decide +kernel
theorem dX12_isCut_29 : decode cX12_isCut 29 = .ok (.if_icmp .ge 37, 3) := by decide +kernel
theorem dX12_isCut_32 : decode cX12_isCut 32 = .ok (.iload_n 1, 1) := by decide +kernel
theorem dX12_isCut_33 : decode cX12_isCut 33 = .ok (.iload_n 3, 1) := by decide +kernel
theorem dX12_isCut_34 : decode cX12_isCut 34 = .ok (.ishr, 1) := by decide +kernel
theorem dX12_isCut_35 : decode cX12_isCut 35 = .ok (.iconst 1, 1) := by decide +kernel
theorem dX12_isCut_36 : decode cX12_isCut 36 = .ok (.iand, 1) := by decide +kernel
theorem dX12_isCut_37 : decode cX12_isCut 37 = .ok (.iconst 1, 1) := by decide +kernel
theorem dX12_isCut_38 : decode cX12_isCut 38 = .ok (.if_icmp .ne 22, 3) := by decide +kernel
theorem dX12_isCut_41 : decode cX12_isCut 41 = .ok (.aload_n 0, 1) := by decide +kernel
theorem dX12_isCut_42 : decode cX12_isCut 42 = .ok (.getfield 70, 3) := by decide +kernel
theorem dX12_isCut_45 : decode cX12_isCut 45 = .ok (.iload_n 2, 1) := by decide +kernel
theorem dX12_isCut_46 : decode cX12_isCut 46 = .ok (.iload_n 1, 1) := by decide +kernel
theorem dX12_isCut_47 : decode cX12_isCut 47 = .ok (.iconst (-1), 1) := by decide +kernel
theorem dX12_isCut_48 : decode cX12_isCut 48 = .ok (.ixor, 1) := by decide +kernel
theorem dX12_isCut_49 : decode cX12_isCut 49 = .ok (.iand, 1) := by decide +kernel
theorem dX12_isCut_50 : decode cX12_isCut 50 = .ok (.iconst 1, 1) := by decide +kernel
theorem dX12_isCut_51 : decode cX12_isCut 51 = .ok (.iload_n 3, 1) := by decide +kernel
theorem dX12_isCut_52 : decode cX12_isCut 52 = .ok (.ishl, 1) := by decide +kernel
theorem dX12_isCut_53 : decode cX12_isCut 53 = .ok (.ior, 1) := by decide +kernel
theorem dX12_isCut_54 : decode cX12_isCut 54 = .ok (.baload, 1) := by decide +kernel
theorem dX12_isCut_55 : decode cX12_isCut 55 = .ok (.ifCond .ne 5, 3) := by decide +kernel
theorem dX12_isCut_58 : decode cX12_isCut 58 = .ok (.iconst 0, 1) := by decide +kernel
theorem dX12_isCut_59 : decode cX12_isCut 59 = .ok (.ireturn, 1) := by decide +kernel
theorem dX12_isCut_60 : decode cX12_isCut 60 = .ok (.iinc 3 1, 3) := by decide +kernel
theorem dX12_isCut_63 : decode cX12_isCut 63 = .ok (.goto (-39), 3) := by decide +kernel
theorem dX12_isCut_66 : decode cX12_isCut 66 = .ok (.iconst 1, 1) := by decide +kernel
theorem dX12_isCut_67 : decode cX12_isCut 67 = .ok (.ireturn, 1) := by decide +kernel
abbrev o_X12_isCut : Type := Int32
def f_X12_isCut_L24 (S : wd_W) (p1 : Int32) (x2 : Int32) (r5 : (Int32) → (Option o_X12_isCut)) (x4 : Int32) : Option o_X12_isCut :=
if (S.1 32) ≤ x4 then (
some (1 : Int32)) else (
lk (r5 (x4 + (1 : Int32))) fun k60_6 =>
if ((p1 >>> (x4 &&& 31)) &&& (1 : Int32)) = (1 : Int32) then (
gd (okx ((x2 &&& (p1 ^^^ (-1 : Int32))) ||| ((1 : Int32) <<< (x4 &&& 31))) 32768) <|
if ((S.2.2.1 20) ((x2 &&& (p1 ^^^ (-1 : Int32))) ||| ((1 : Int32) <<< (x4 &&& 31))).toNatClampNeg) = 0 then (
some (0 : Int32)) else (
k60_6)) else (
k60_6))
def f_X12_isCut (S : wd_W) (p1 : Int32) : Option o_X12_isCut :=
bd (f_X12_sets (wd_o S [] [] [] [] [])) fun o1 =>
lz (o1 - (1 : Int32)) fun x2 =>
gd (okx (x2 &&& (p1 ^^^ (-1 : Int32))) 32768) <|
if ((S.2.2.1 20) (x2 &&& (p1 ^^^ (-1 : Int32))).toNatClampNeg) = 0 then (
it1 (f_X12_isCut_L24 S p1 x2) fuel (0 : Int32)) else (
some (0 : Int32))
set_option maxRecDepth 100000 in
set_option maxHeartbeats 4000000 in
theorem c_X12_isCut (l : Launch) (D : va_G) (q g : Nat → Nat) (cy : Nat → ClassId) (z : (Nat → Nat) × (Nat → Nat) × Nat) (S : wd_W) (p1 : Int32) (o : o_X12_isCut) (hf : f_X12_isCut S p1 = some o) : MX layM l yX12_isCut cX12_isCut 4 (some .boolean) ({ frames := 1, cells := 0, slots := 0, locals := 20 } : Room) D q g cy z [.ref (q 0), .int p1] S (some (.int o)) (wd_o S [] [] [] [] []) 0 0 := by
  refine mx_of (own := RX12) (lc := [(0, .ref (q 0)), (1, .int p1)]) (by decide +kernel) rfl layM_ok (Nat.le_of_ble_eq_true rfl) rfl ?_
  intro X hXl hXq hXS hC hQ
  subst hXl; subst hXq; subst hXS
  unfold f_X12_isCut at hf
  refine go_aload_n (pc' := 1) hC dX12_isCut_0 rfl rfl ?_
  obtain ⟨o1, ho1, hf⟩ := bd_e hf
  refine go_callV0 (pc' := 4) (As := []) (st := []) (st' := [.int o1])   (b := 0) hC dX12_isCut_1 ⟨mw_856, mw_859, mw_5, yd_yX12_sets, yp_yX12_sets, Nat.le_of_ble_eq_true rfl, Nat.le_of_ble_eq_true rfl, Nat.le_of_ble_eq_true rfl, Nat.le_of_ble_eq_true rfl⟩ mw_857 mw_858 layM_0 rfl rfl rfl (Nat.le_of_ble_eq_true rfl) (c_X12_sets (x_l X) (x_D X) (x_q X) g (x_cy X) (x_z X) _  o1 ho1) rfl rfl (fun g => ?_)
  refine go_iconst (pc' := 5) hC dX12_isCut_4 ki_1 rfl ?_
  refine go_isub (pc' := 6) hC dX12_isCut_5 rfl ?_
  refine go_namei (fun x2 hx => ?_)
  have hf := lz_r hx hf
  clear hx
  refine go_istore_n (lc' := [(0, .ref (x_q X 0)), (1, .int p1), (2, .int x2)]) (pc' := 7) hC dX12_isCut_6 (Nat.le_of_ble_eq_true rfl) rfl rfl ?_
  refine go_aload_n (pc' := 8) hC dX12_isCut_7 rfl rfl ?_
  refine go_getq (pc' := 11) hC 0 43 layM_0 rfl rfl inlX12 (Nat.le_of_ble_eq_true rfl) mw_201 rfl dX12_isCut_8 rfl ?_
  refine go_iload_n (pc' := 12) hC dX12_isCut_11 rfl rfl ?_
  refine go_iload_n (pc' := 13) hC dX12_isCut_12 rfl rfl ?_
  refine go_iconst (pc' := 14) hC dX12_isCut_13 ki_m1 rfl ?_
  refine go_ixor (pc' := 15) hC dX12_isCut_14 rfl ?_
  refine go_iand (pc' := 16) hC dX12_isCut_15 rfl ?_
  obtain ⟨h3, hf⟩ := gd_e hf
  refine go_zald (f := ((x_S X).2.2.1 20)) (pc' := 17) hC 20 layM_20 rfl rfl dX12_isCut_16 (okx_in h3) rfl ?_
  refine go_if_eq (tgt := 22) (pc' := 20) hC dX12_isCut_17 (by decide) rfl (fun h12 => ?_) (fun h12 => ?_)
  · have hf := ite_t h12 hf
    refine go_iconst (pc' := 23) hC dX12_isCut_22 ki_0 rfl ?_
    refine go_istore_n (lc' := [(0, .ref (x_q X 0)), (1, .int p1), (2, .int x2), (3, .int (0 : Int32))]) (pc' := 24) hC dX12_isCut_23 (Nat.le_of_ble_eq_true rfl) rfl rfl ?_
    have l24_11 : ∀ (nn : Nat) (x4 : Int32) (g : Nat → Nat), it1 (f_X12_isCut_L24 (x_S X) p1 x2) nn x4 = some o → Go X layM 24 [(0, .ref (x_q X 0)), (1, .int p1), (2, .int x2), (3, .int x4)] [] g [] [] [] [] [] 0 0 := by
      intro nn
      induction nn with
      | zero =>
        intro x4 g hf
        exact none_no hf
      | succ nn ih =>
        intro x4 g hf
        have hf : f_X12_isCut_L24 (x_S X) p1 x2 (it1 (f_X12_isCut_L24 (x_S X) p1 x2) nn) x4 = some o := hf
        generalize it1 (f_X12_isCut_L24 (x_S X) p1 x2) nn = r5 at ih hf
        unfold f_X12_isCut_L24 at hf
        refine go_iload_n (pc' := 25) hC dX12_isCut_24 rfl rfl ?_
        refine go_aload_n (pc' := 26) hC dX12_isCut_25 rfl rfl ?_
        refine go_geti (v := ((x_S X).1 32)) (pc' := 29) hC 0 32 layM_0 rfl rfl inlX12 (Nat.le_of_ble_eq_true rfl) mw_250 rfl dX12_isCut_26 rfl rfl ?_
        refine go_icmp_ge (tgt := 66) (pc' := 32) hC dX12_isCut_29 (by decide) rfl (fun h10 => ?_) (fun h10 => ?_)
        · have hf := ite_t h10 hf
          refine go_iconst (pc' := 67) hC dX12_isCut_66 ki_1 rfl ?_
          obtain rfl := Option.some.inj hf
          exact go_iret hC hQ dX12_isCut_67 rfl rfl rfl rfl rfl rfl
        · have hf := ite_f h10 hf
          refine go_iload_n (pc' := 33) hC dX12_isCut_32 rfl rfl ?_
          refine go_iload_n (pc' := 34) hC dX12_isCut_33 rfl rfl ?_
          refine go_ishr (pc' := 35) hC dX12_isCut_34 rfl ?_
          refine go_iconst (pc' := 36) hC dX12_isCut_35 ki_1 rfl ?_
          refine go_iand (pc' := 37) hC dX12_isCut_36 rfl ?_
          refine go_iconst (pc' := 38) hC dX12_isCut_37 ki_1 rfl ?_
          obtain ⟨k60_6, hk60_6, hf⟩ := lk_e0 hf
          have jk60_6 : ∀ (g : Nat → Nat), k60_6 = some o → Go X layM 60 [(0, .ref (x_q X 0)), (1, .int p1), (2, .int x2), (3, .int x4)] [] g [] [] [] [] [] 0 0 := by
            intro  g hf
            have hf := hk60_6 hf
            clear hk60_6
            refine go_iinc (lc' := [(0, .ref (x_q X 0)), (1, .int p1), (2, .int x2), (3, .int (x4 + (1 : Int32)))]) (pc' := 63) hC dX12_isCut_60 rfl ki_1 (Nat.le_of_ble_eq_true rfl) rfl rfl ?_
            refine go_goto (tgt := 24) hC dX12_isCut_63 (by decide) ?_
            exact ih (x4 + (1 : Int32)) g hf
          clear hk60_6
          refine go_icmp_ne (tgt := 60) (pc' := 41) hC dX12_isCut_38 (by decide) rfl (fun h9 => ?_) (fun h9 => ?_)
          · have hf := ite_f h9 hf
            exact jk60_6 g hf
          · have hf := ite_t h9 hf
            refine go_aload_n (pc' := 42) hC dX12_isCut_41 rfl rfl ?_
            refine go_getq (pc' := 45) hC 0 43 layM_0 rfl rfl inlX12 (Nat.le_of_ble_eq_true rfl) mw_201 rfl dX12_isCut_42 rfl ?_
            refine go_iload_n (pc' := 46) hC dX12_isCut_45 rfl rfl ?_
            refine go_iload_n (pc' := 47) hC dX12_isCut_46 rfl rfl ?_
            refine go_iconst (pc' := 48) hC dX12_isCut_47 ki_m1 rfl ?_
            refine go_ixor (pc' := 49) hC dX12_isCut_48 rfl ?_
            refine go_iand (pc' := 50) hC dX12_isCut_49 rfl ?_
            refine go_iconst (pc' := 51) hC dX12_isCut_50 ki_1 rfl ?_
            refine go_iload_n (pc' := 52) hC dX12_isCut_51 rfl rfl ?_
            refine go_ishl (pc' := 53) hC dX12_isCut_52 rfl ?_
            refine go_ior (pc' := 54) hC dX12_isCut_53 rfl ?_
            obtain ⟨h7, hf⟩ := gd_e hf
            refine go_zald (f := ((x_S X).2.2.1 20)) (pc' := 55) hC 20 layM_20 rfl rfl dX12_isCut_54 (okx_in h7) rfl ?_
            refine go_if_ne (tgt := 60) (pc' := 58) hC dX12_isCut_55 (by decide) rfl (fun h8 => ?_) (fun h8 => ?_)
            · have hf := ite_f h8 hf
              exact jk60_6 g hf
            · have hf := ite_t h8 hf
              refine go_iconst (pc' := 59) hC dX12_isCut_58 ki_0 rfl ?_
              obtain rfl := Option.some.inj hf
              exact go_iret hC hQ dX12_isCut_59 rfl rfl rfl rfl rfl rfl
    exact l24_11 fuel (0 : Int32) g hf
  · have hf := ite_f h12 hf
    refine go_iconst (pc' := 21) hC dX12_isCut_20 ki_0 rfl ?_
    obtain rfl := Option.some.inj hf
    exact go_iret hC hQ dX12_isCut_21 rfl rfl rfl rfl rfl rfl
theorem dX12_chanceOf_0 : decode cX12_chanceOf 0 = .ok (.lconst 1, 1) := by decide +kernel
theorem dX12_chanceOf_1 : decode cX12_chanceOf 1 = .ok (.lstore_n 3, 1) := by decide +kernel
theorem dX12_chanceOf_2 : decode cX12_chanceOf 2 = .ok (.iconst 0, 1) := by decide +kernel
theorem dX12_chanceOf_3 : decode cX12_chanceOf 3 = .ok (.istore 5, 2) := by decide +kernel
theorem dX12_chanceOf_5 : decode cX12_chanceOf 5 = .ok (.iload 5, 2) := by decide +kernel
theorem dX12_chanceOf_7 : decode cX12_chanceOf 7 = .ok (.aload_n 0, 1) := by decide +kernel
theorem dX12_chanceOf_8 : decode cX12_chanceOf 8 = .ok (.getfield 288, 3) := by decide +kernel
theorem dX12_chanceOf_11 : decode cX12_chanceOf 11 = .ok (.if_icmp .ge 53, 3) := by decide +kernel
theorem dX12_chanceOf_14 : decode cX12_chanceOf 14 = .ok (.lload_n 3, 1) := by decide +kernel
theorem dX12_chanceOf_15 : decode cX12_chanceOf 15 = .ok (.iload_n 1, 1) := by decide +kernel
theorem dX12_chanceOf_16 : decode cX12_chanceOf 16 = .ok (.iload 5, 2) := by decide +kernel
theorem dX12_chanceOf_18 : decode cX12_chanceOf 18 = .ok (.ishr, 1) := by decide +kernel
theorem dX12_chanceOf_19 : decode cX12_chanceOf 19 = .ok (.iconst 1, 1) := by decide +kernel
theorem dX12_chanceOf_20 : decode cX12_chanceOf 20 = .ok (.iand, 1) := by decide +kernel
theorem dX12_chanceOf_21 : decode cX12_chanceOf 21 = .ok (.ifCond .ne 9, 3) := by decide +kernel
theorem dX12_chanceOf_24 : decode cX12_chanceOf 24 = .ok (.ldc2_w 367, 3) := by decide +kernel
theorem dX12_chanceOf_27 : decode cX12_chanceOf 27 = .ok (.goto 29, 3) := by decide +kernel
theorem dX12_chanceOf_30 : decode cX12_chanceOf 30 = .ok (.iload_n 2, 1) := by decide +kernel
theorem dX12_chanceOf_31 : decode cX12_chanceOf 31 = .ok (.ifCond .eq 17, 3) := by decide +kernel
theorem dX12_chanceOf_34 : decode cX12_chanceOf 34 = .ok (.bipush 16, 2) := by decide +kernel
theorem dX12_chanceOf_36 : decode cX12_chanceOf 36 = .ok (.aload_n 0, 1) := by decide +kernel
theorem dX12_chanceOf_37 : decode cX12_chanceOf 37 = .ok (.getfield 57, 3) := by decide +kernel
theorem dX12_chanceOf_40 : decode cX12_chanceOf 40 = .ok (.iload 5, 2) := by decide +kernel
theorem dX12_chanceOf_42 : decode cX12_chanceOf 42 = .ok (.iaload, 1) := by decide +kernel
theorem dX12_chanceOf_43 : decode cX12_chanceOf 43 = .ok (.isub, 1) := by decide +kernel
theorem dX12_chanceOf_44 : decode cX12_chanceOf 44 = .ok (.i2l, 1) := by decide +kernel
theorem dX12_chanceOf_45 : decode cX12_chanceOf 45 = .ok (.goto 11, 3) := by decide +kernel
theorem dX12_chanceOf_48 : decode cX12_chanceOf 48 = .ok (.aload_n 0, 1) := by decide +kernel
theorem dX12_chanceOf_49 : decode cX12_chanceOf 49 = .ok (.getfield 57, 3) := by decide +kernel
theorem dX12_chanceOf_52 : decode cX12_chanceOf 52 = .ok (.iload 5, 2) := by decide +kernel
theorem dX12_chanceOf_54 : decode cX12_chanceOf 54 = .ok (.iaload, 1) := by decide +kernel
theorem dX12_chanceOf_55 : decode cX12_chanceOf 55 = .ok (.i2l, 1) := by decide +kernel
theorem dX12_chanceOf_56 : decode cX12_chanceOf 56 = .ok (.lmul, 1) := by decide +kernel
theorem dX12_chanceOf_57 : decode cX12_chanceOf 57 = .ok (.lstore_n 3, 1) := by decide +kernel
theorem dX12_chanceOf_58 : decode cX12_chanceOf 58 = .ok (.iinc 5 1, 3) := by decide +kernel
theorem dX12_chanceOf_61 : decode cX12_chanceOf 61 = .ok (.goto (-56), 3) := by decide +kernel
theorem dX12_chanceOf_64 : decode cX12_chanceOf 64 = .ok (.lload_n 3, 1) := by decide +kernel
theorem dX12_chanceOf_65 : decode cX12_chanceOf 65 = .ok (.lreturn, 1) := by decide +kernel
abbrev o_X12_chanceOf : Type := Int64
def f_X12_chanceOf_L5 (S : wd_W) (p1 : Int32) (p2 : Int32) (r3 : (Int64) → (Int32) → (Option o_X12_chanceOf)) (x1 : Int64) (x2 : Int32) : Option o_X12_chanceOf :=
if (S.1 32) ≤ x2 then (
some x1) else (
lk (fun x4 x5 =>
lz (x5 * x4) fun x7 =>
r3 x7 (x2 + (1 : Int32))) fun k56_6 =>
if ((p1 >>> (x2 &&& 31)) &&& (1 : Int32)) = 0 then (
k56_6 (16 : Int64) x1) else (
if p2 = 0 then (
gd (okx x2 15) <|
k56_6 (((S.2.2.1 16) x2.toNatClampNeg).toInt64) x1) else (
gd (okx x2 15) <|
k56_6 (((16 : Int32) - ((S.2.2.1 16) x2.toNatClampNeg)).toInt64) x1)))
def f_X12_chanceOf (S : wd_W) (p1 : Int32) (p2 : Int32) : Option o_X12_chanceOf :=
it2 (f_X12_chanceOf_L5 S p1 p2) fuel (1 : Int64) (0 : Int32)
set_option maxRecDepth 100000 in
set_option maxHeartbeats 4000000 in
theorem c_X12_chanceOf (l : Launch) (D : va_G) (q g : Nat → Nat) (cy : Nat → ClassId) (z : (Nat → Nat) × (Nat → Nat) × Nat) (S : wd_W) (p1 : Int32) (p2 : Int32) (o : o_X12_chanceOf) (hf : f_X12_chanceOf S p1 p2 = some o) : MX layM l yX12_chanceOf cX12_chanceOf 6 (some .long) ({ frames := 0, cells := 0, slots := 0, locals := 0 } : Room) D q g cy z [.ref (q 0), .int p1, .int p2] S (some (.long o)) (wd_o S [] [] [] [] []) 0 0 := by
  refine mx_of (own := RX12) (lc := [(0, .ref (q 0)), (1, .int p1), (2, .int p2)]) (by decide +kernel) rfl layM_ok (Nat.le_of_ble_eq_true rfl) rfl ?_
  intro X hXl hXq hXS hC hQ
  subst hXl; subst hXq; subst hXS
  unfold f_X12_chanceOf at hf
  refine go_lconst (pc' := 1) hC dX12_chanceOf_0 kl_1 rfl ?_
  refine go_lstore_n (lc' := [(0, .ref (x_q X 0)), (1, .int p1), (2, .int p2), (3, .long (1 : Int64))]) (pc' := 2) hC dX12_chanceOf_1 (Nat.le_of_ble_eq_true rfl) rfl rfl ?_
  refine go_iconst (pc' := 3) hC dX12_chanceOf_2 ki_0 rfl ?_
  refine go_istore (lc' := [(0, .ref (x_q X 0)), (1, .int p1), (2, .int p2), (3, .long (1 : Int64)), (5, .int (0 : Int32))]) (pc' := 5) hC dX12_chanceOf_3 (Nat.le_of_ble_eq_true rfl) rfl rfl ?_
  have l5_13 : ∀ (nn : Nat) (x1 : Int64) (x2 : Int32) (g : Nat → Nat), it2 (f_X12_chanceOf_L5 (x_S X) p1 p2) nn x1 x2 = some o → Go X layM 5 [(0, .ref (x_q X 0)), (1, .int p1), (2, .int p2), (3, .long x1), (5, .int x2)] [] g [] [] [] [] [] 0 0 := by
    intro nn
    induction nn with
    | zero =>
      intro x1 x2 g hf
      exact none_no hf
    | succ nn ih =>
      intro x1 x2 g hf
      have hf : f_X12_chanceOf_L5 (x_S X) p1 p2 (it2 (f_X12_chanceOf_L5 (x_S X) p1 p2) nn) x1 x2 = some o := hf
      generalize it2 (f_X12_chanceOf_L5 (x_S X) p1 p2) nn = r3 at ih hf
      unfold f_X12_chanceOf_L5 at hf
      refine go_iload (pc' := 7) hC dX12_chanceOf_5 rfl rfl ?_
      refine go_aload_n (pc' := 8) hC dX12_chanceOf_7 rfl rfl ?_
      refine go_geti (v := ((x_S X).1 32)) (pc' := 11) hC 0 32 layM_0 rfl rfl inlX12 (Nat.le_of_ble_eq_true rfl) mw_250 rfl dX12_chanceOf_8 rfl rfl ?_
      refine go_icmp_ge (tgt := 64) (pc' := 14) hC dX12_chanceOf_11 (by decide) rfl (fun h12 => ?_) (fun h12 => ?_)
      · have hf := ite_t h12 hf
        refine go_lload_n (pc' := 65) hC dX12_chanceOf_64 rfl rfl ?_
        obtain rfl := Option.some.inj hf
        exact go_lret hC hQ dX12_chanceOf_65 rfl rfl rfl rfl rfl
      · have hf := ite_f h12 hf
        refine go_lload_n (pc' := 15) hC dX12_chanceOf_14 rfl rfl ?_
        refine go_iload_n (pc' := 16) hC dX12_chanceOf_15 rfl rfl ?_
        refine go_iload (pc' := 18) hC dX12_chanceOf_16 rfl rfl ?_
        refine go_ishr (pc' := 19) hC dX12_chanceOf_18 rfl ?_
        refine go_iconst (pc' := 20) hC dX12_chanceOf_19 ki_1 rfl ?_
        refine go_iand (pc' := 21) hC dX12_chanceOf_20 rfl ?_
        obtain ⟨k56_6, hk56_6, hf⟩ := lk_e2 hf
        have jk56_6 : ∀ (x4 : Int64) (x5 : Int64) (g : Nat → Nat), k56_6 x4 x5 = some o → Go X layM 56 [(0, .ref (x_q X 0)), (1, .int p1), (2, .int p2), (5, .int x2)] [.long x4, .long x5] g [] [] [] [] [] 0 0 := by
          intro x4 x5 g hf
          have hf := hk56_6 x4 x5 hf
          clear hk56_6
          refine go_lmul (pc' := 57) hC dX12_chanceOf_56 rfl ?_
          refine go_namel (fun x7 hx => ?_)
          have hf := lz_r hx hf
          clear hx
          refine go_lstore_n (lc' := [(0, .ref (x_q X 0)), (1, .int p1), (2, .int p2), (3, .long x7), (5, .int x2)]) (pc' := 58) hC dX12_chanceOf_57 (Nat.le_of_ble_eq_true rfl) rfl rfl ?_
          refine go_iinc (lc' := [(0, .ref (x_q X 0)), (1, .int p1), (2, .int p2), (3, .long x7), (5, .int (x2 + (1 : Int32)))]) (pc' := 61) hC dX12_chanceOf_58 rfl ki_1 (Nat.le_of_ble_eq_true rfl) rfl rfl ?_
          refine go_goto (tgt := 5) hC dX12_chanceOf_61 (by decide) ?_
          exact ih x7 (x2 + (1 : Int32)) g hf
        clear hk56_6
        refine go_if_ne (tgt := 30) (pc' := 24) hC dX12_chanceOf_21 (by decide) rfl (fun h11 => ?_) (fun h11 => ?_)
        · have hf := ite_f h11 hf
          refine go_iload_n (pc' := 31) hC dX12_chanceOf_30 rfl rfl ?_
          refine go_if_eq (tgt := 48) (pc' := 34) hC dX12_chanceOf_31 (by decide) rfl (fun h10 => ?_) (fun h10 => ?_)
          · have hf := ite_t h10 hf
            refine go_aload_n (pc' := 49) hC dX12_chanceOf_48 rfl rfl ?_
            refine go_getq (pc' := 52) hC 0 33 layM_0 rfl rfl inlX12 (Nat.le_of_ble_eq_true rfl) mw_196 rfl dX12_chanceOf_49 rfl ?_
            refine go_iload (pc' := 54) hC dX12_chanceOf_52 rfl rfl ?_
            obtain ⟨h8, hf⟩ := gd_e hf
            refine go_iald (f := ((x_S X).2.2.1 16)) (pc' := 55) hC 16 layM_16 rfl rfl dX12_chanceOf_54 (okx_in h8) rfl ?_
            refine go_i2l (pc' := 56) hC dX12_chanceOf_55 rfl ?_
            refine go_sub [0, 1, 2, 5] rfl ?_
            exact jk56_6 ((((x_S X).2.2.1 16) x2.toNatClampNeg).toInt64) x1 g hf
          · have hf := ite_f h10 hf
            refine go_bipush (pc' := 36) hC dX12_chanceOf_34 kb_16 rfl ?_
            refine go_aload_n (pc' := 37) hC dX12_chanceOf_36 rfl rfl ?_
            refine go_getq (pc' := 40) hC 0 33 layM_0 rfl rfl inlX12 (Nat.le_of_ble_eq_true rfl) mw_196 rfl dX12_chanceOf_37 rfl ?_
            refine go_iload (pc' := 42) hC dX12_chanceOf_40 rfl rfl ?_
            obtain ⟨h9, hf⟩ := gd_e hf
            refine go_iald (f := ((x_S X).2.2.1 16)) (pc' := 43) hC 16 layM_16 rfl rfl dX12_chanceOf_42 (okx_in h9) rfl ?_
            refine go_isub (pc' := 44) hC dX12_chanceOf_43 rfl ?_
            refine go_i2l (pc' := 45) hC dX12_chanceOf_44 rfl ?_
            refine go_goto (tgt := 56) hC dX12_chanceOf_45 (by decide) ?_
            refine go_sub [0, 1, 2, 5] rfl ?_
            exact jk56_6 (((16 : Int32) - (((x_S X).2.2.1 16) x2.toNatClampNeg)).toInt64) x1 g hf
        · have hf := ite_t h11 hf
          refine go_ldc2 (pc' := 27) hC dX12_chanceOf_24 mw_1038 rfl ?_
          refine go_goto (tgt := 56) hC dX12_chanceOf_27 (by decide) ?_
          refine go_sub [0, 1, 2, 5] rfl ?_
          exact jk56_6 (16 : Int64) x1 g hf
  exact l5_13 fuel (1 : Int64) (0 : Int32) g hf
