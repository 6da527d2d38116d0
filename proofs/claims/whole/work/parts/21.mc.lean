theorem dX12_takes_0 : decode cX12_takes 0 = .ok (.aload_n 0, 1) := by decide +kernel
theorem dX12_takes_1 : decode cX12_takes 1 = .ok (.aload_n 0, 1) := by decide +kernel
theorem dX12_takes_2 : decode cX12_takes 2 = .ok (.getfield 178, 3) := by decide +kernel
theorem dX12_takes_5 : decode cX12_takes 5 = .ok (.putfield 276, 3) := by decide +kernel
theorem dX12_takes_8 : decode cX12_takes 8 = .ok (.aload_n 0, 1) := by decide +kernel
theorem dX12_takes_9 : decode cX12_takes 9 = .ok (.aload_n 0, 1) := by decide +kernel
theorem dX12_takes_10 : decode cX12_takes 10 = .ok (.getfield 169, 3) := by decide +kernel
theorem dX12_takes_13 : decode cX12_takes 13 = .ok (.putfield 279, 3) := by decide +kernel
theorem dX12_takes_16 : decode cX12_takes 16 = .ok (.aload_n 0, 1) := by decide +kernel
theorem dX12_takes_17 : decode cX12_takes 17 = .ok (.aload_n 0, 1) := by decide +kernel
theorem dX12_takes_18 : decode cX12_takes 18 = .ok (.getfield 172, 3) := by decide +kernel
theorem dX12_takes_21 : decode cX12_takes 21 = .ok (.putfield 282, 3) := by decide +kernel
theorem dX12_takes_24 : decode cX12_takes 24 = .ok (.aload_n 0, 1) := by decide +kernel
theorem dX12_takes_25 : decode cX12_takes 25 = .ok (.aload_n 0, 1) := by decide +kernel
theorem dX12_takes_26 : decode cX12_takes 26 = .ok (.getfield 175, 3) := by decide +kernel
theorem dX12_takes_29 : decode cX12_takes 29 = .ok (.putfield 285, 3) := by decide +kernel
theorem dX12_takes_32 : decode cX12_takes 32 = .ok (.aload_n 0, 1) := by decide +kernel
theorem dX12_takes_33 : decode cX12_takes 33 = .ok (.aload_n 0, 1) := by decide +kernel
theorem dX12_takes_34 : decode cX12_takes 34 = .ok (.invokevirtual 232, 3) := by decide +kernel
theorem dX12_takes_37 : decode cX12_takes 37 = .ok (.putfield 288, 3) := by decide +kernel
theorem dX12_takes_40 : decode cX12_takes 40 = .ok (.aload_n 0, 1) := by decide +kernel
theorem dX12_takes_41 : decode cX12_takes 41 = .ok (.aload_n 0, 1) := by decide +kernel
theorem dX12_takes_42 : decode cX12_takes 42 = .ok (.getfield 181, 3) := by decide +kernel
theorem dX12_takes_45 : decode cX12_takes 45 = .ok (.putfield 291, 3) := by decide +kernel
theorem dX12_takes_48 : decode cX12_takes 48 = .ok (.aload_n 0, 1) := by decide +kernel
theorem dX12_takes_49 : decode cX12_takes 49 = .ok (.aload_n 0, 1) := by decide +kernel
theorem dX12_takes_50 : decode cX12_takes 50 = .ok (.getfield 184, 3) := by decide +kernel
theorem dX12_takes_53 : decode cX12_takes 53 = .ok (.putfield 294, 3) := by decide +kernel
theorem dX12_takes_56 : decode cX12_takes 56 = .ok (.aload_n 0, 1) := by decide +kernel
theorem dX12_takes_57 : decode cX12_takes 57 = .ok (.aload_n 0, 1) := by decide +kernel
theorem dX12_takes_58 : decode cX12_takes 58 = .ok (.getfield 187, 3) := by decide +kernel
theorem dX12_takes_61 : decode cX12_takes 61 = .ok (.putfield 297, 3) := by decide +kernel
theorem dX12_takes_64 : decode cX12_takes 64 = .ok (.aload_n 0, 1) := by decide +kernel
theorem dX12_takes_65 : decode cX12_takes 65 = .ok (.aload_n 0, 1) := by decide +kernel
theorem dX12_takes_66 : decode cX12_takes 66 = .ok (.getfield 190, 3) := by decide +kernel
theorem dX12_takes_69 : decode cX12_takes 69 = .ok (.putfield 300, 3) := by decide +kernel
theorem dX12_takes_72 : decode cX12_takes 72 = .ok (.iconst 0, 1) := by decide +kernel
theorem dX12_takes_73 : decode cX12_takes 73 = .ok (.istore_n 1, 1) := by decide +kernel
theorem dX12_takes_74 : decode cX12_takes 74 = .ok (.iload_n 1, 1) := by decide +kernel
theorem dX12_takes_75 : decode cX12_takes 75 = .ok (.bipush 10, 2) := by decide +kernel
theorem dX12_takes_77 : decode cX12_takes 77 = .ok (.if_icmp .ge 23, 3) := by decide +kernel
theorem dX12_takes_80 : decode cX12_takes 80 = .ok (.aload_n 0, 1) := by decide +kernel
theorem dX12_takes_81 : decode cX12_takes 81 = .ok (.getfield 54, 3) := by decide +kernel
theorem dX12_takes_84 : decode cX12_takes 84 = .ok (.iload_n 1, 1) := by decide +kernel
theorem dX12_takes_85 : decode cX12_takes 85 = .ok (.iconst (-1), 1) := by decide +kernel
theorem dX12_takes_86 : decode cX12_takes 86 = .ok (.iastore, 1) := by decide +kernel
theorem dX12_takes_87 : decode cX12_takes 87 = .ok (.aload_n 0, 1) := by decide +kernel
theorem dX12_takes_88 : decode cX12_takes 88 = .ok (.getfield 51, 3) := by decide +kernel
theorem dX12_takes_91 : decode cX12_takes 91 = .ok (.iload_n 1, 1) := by decide +kernel
theorem dX12_takes_92 : decode cX12_takes 92 = .ok (.iconst 0, 1) := by decide +kernel
theorem dX12_takes_93 : decode cX12_takes 93 = .ok (.iastore, 1) := by decide +kernel
theorem dX12_takes_94 : decode cX12_takes 94 = .ok (.iinc 1 1, 3) := by decide +kernel
theorem dX12_takes_97 : decode cX12_takes 97 = .ok (.goto (-23), 3) := by decide +kernel
theorem dX12_takes_100 : decode cX12_takes 100 = .ok (.iconst 0, 1) := by decide +kernel
theorem dX12_takes_101 : decode cX12_takes 101 = .ok (.istore_n 1, 1) := by decide +kernel
theorem dX12_takes_102 : decode cX12_takes 102 = .ok (.iload_n 1, 1) := by decide +kernel
theorem dX12_takes_103 : decode cX12_takes 103 = .ok (.aload_n 0, 1) := by decide +kernel
theorem dX12_takes_104 : decode cX12_takes 104 = .ok (.getfield 279, 3) := by decide +kernel
theorem dX12_takes_107 : decode cX12_takes 107 = .ok (.if_icmp .ge 115, 3) := by decide +kernel
theorem dX12_takes_110 : decode cX12_takes 110 = .ok (.aload_n 0, 1) := by decide +kernel
theorem dX12_takes_111 : decode cX12_takes 111 = .ok (.getfield 32, 3) := by decide +kernel
theorem dX12_takes_114 : decode cX12_takes 114 = .ok (.iload_n 1, 1) := by decide +kernel
theorem dX12_takes_115 : decode cX12_takes 115 = .ok (.aload_n 0, 1) := by decide +kernel
theorem dX12_takes_116 : decode cX12_takes 116 = .ok (.getfield 13, 3) := by decide +kernel
theorem dX12_takes_119 : decode cX12_takes 119 = .ok (.iconst 5, 1) := by decide +kernel
theorem dX12_takes_120 : decode cX12_takes 120 = .ok (.iload_n 1, 1) := by decide +kernel
theorem dX12_takes_121 : decode cX12_takes 121 = .ok (.imul, 1) := by decide +kernel
theorem dX12_takes_122 : decode cX12_takes 122 = .ok (.iaload, 1) := by decide +kernel
theorem dX12_takes_123 : decode cX12_takes 123 = .ok (.iastore, 1) := by decide +kernel
theorem dX12_takes_124 : decode cX12_takes 124 = .ok (.aload_n 0, 1) := by decide +kernel
theorem dX12_takes_125 : decode cX12_takes 125 = .ok (.getfield 35, 3) := by decide +kernel
theorem dX12_takes_128 : decode cX12_takes 128 = .ok (.iload_n 1, 1) := by decide +kernel
theorem dX12_takes_129 : decode cX12_takes 129 = .ok (.aload_n 0, 1) := by decide +kernel
theorem dX12_takes_130 : decode cX12_takes 130 = .ok (.getfield 13, 3) := by decide +kernel
theorem dX12_takes_133 : decode cX12_takes 133 = .ok (.iconst 5, 1) := by decide +kernel
theorem dX12_takes_134 : decode cX12_takes 134 = .ok (.iload_n 1, 1) := by decide +kernel
theorem dX12_takes_135 : decode cX12_takes 135 = .ok (.imul, 1) := by decide +kernel
theorem dX12_takes_136 : decode cX12_takes 136 = .ok (.iconst 1, 1) := by decide +kernel
theorem dX12_takes_137 : decode cX12_takes 137 = .ok (.iadd, 1) := by decide +kernel
theorem dX12_takes_138 : decode cX12_takes 138 = .ok (.iaload, 1) := by decide +kernel
theorem dX12_takes_139 : decode cX12_takes 139 = .ok (.iastore, 1) := by decide +kernel
theorem dX12_takes_140 : decode cX12_takes 140 = .ok (.aload_n 0, 1) := by decide +kernel
theorem dX12_takes_141 : decode cX12_takes 141 = .ok (.getfield 38, 3) := by decide +kernel
theorem dX12_takes_144 : decode cX12_takes 144 = .ok (.iload_n 1, 1) := by decide +kernel
theorem dX12_takes_145 : decode cX12_takes 145 = .ok (.aload_n 0, 1) := by decide +kernel
theorem dX12_takes_146 : decode cX12_takes 146 = .ok (.getfield 13, 3) := by decide +kernel
theorem dX12_takes_149 : decode cX12_takes 149 = .ok (.iconst 5, 1) := by decide +kernel
theorem dX12_takes_150 : decode cX12_takes 150 = .ok (.iload_n 1, 1) := by decide +kernel
theorem dX12_takes_151 : decode cX12_takes 151 = .ok (.imul, 1) := by decide +kernel
theorem dX12_takes_152 : decode cX12_takes 152 = .ok (.iconst 2, 1) := by decide +kernel
theorem dX12_takes_153 : decode cX12_takes 153 = .ok (.iadd, 1) := by decide +kernel
theorem dX12_takes_154 : decode cX12_takes 154 = .ok (.iaload, 1) := by decide +kernel
theorem dX12_takes_155 : decode cX12_takes 155 = .ok (.iastore, 1) := by decide +kernel
theorem dX12_takes_156 : decode cX12_takes 156 = .ok (.aload_n 0, 1) := by decide +kernel
theorem dX12_takes_157 : decode cX12_takes 157 = .ok (.getfield 41, 3) := by decide +kernel
theorem dX12_takes_160 : decode cX12_takes 160 = .ok (.iload_n 1, 1) := by decide +kernel
theorem dX12_takes_161 : decode cX12_takes 161 = .ok (.aload_n 0, 1) := by decide +kernel
theorem dX12_takes_162 : decode cX12_takes 162 = .ok (.getfield 13, 3) := by decide +kernel
theorem dX12_takes_165 : decode cX12_takes 165 = .ok (.iconst 5, 1) := by decide +kernel
theorem dX12_takes_166 : decode cX12_takes 166 = .ok (.iload_n 1, 1) := by decide +kernel
theorem dX12_takes_167 : decode cX12_takes 167 = .ok (.imul, 1) := by decide +kernel
theorem dX12_takes_168 : decode cX12_takes 168 = .ok (.iconst 3, 1) := by decide +kernel
theorem dX12_takes_169 : decode cX12_takes 169 = .ok (.iadd, 1) := by decide +kernel
theorem dX12_takes_170 : decode cX12_takes 170 = .ok (.iaload, 1) := by decide +kernel
theorem dX12_takes_171 : decode cX12_takes 171 = .ok (.iconst 1, 1) := by decide +kernel
theorem dX12_takes_172 : decode cX12_takes 172 = .ok (.if_icmp .ne 7, 3) := by decide +kernel
theorem dX12_takes_175 : decode cX12_takes 175 = .ok (.iconst 1, 1) := by decide +kernel
theorem dX12_takes_176 : decode cX12_takes 176 = .ok (.goto 4, 3) := by decide +kernel
theorem dX12_takes_179 : decode cX12_takes 179 = .ok (.iconst 0, 1) := by decide +kernel
theorem dX12_takes_180 : decode cX12_takes 180 = .ok (.bastore, 1) := by decide +kernel
theorem dX12_takes_181 : decode cX12_takes 181 = .ok (.aload_n 0, 1) := by decide +kernel
theorem dX12_takes_182 : decode cX12_takes 182 = .ok (.getfield 45, 3) := by decide +kernel
theorem dX12_takes_185 : decode cX12_takes 185 = .ok (.iload_n 1, 1) := by decide +kernel
theorem dX12_takes_186 : decode cX12_takes 186 = .ok (.aload_n 0, 1) := by decide +kernel
theorem dX12_takes_187 : decode cX12_takes 187 = .ok (.getfield 13, 3) := by decide +kernel
theorem dX12_takes_190 : decode cX12_takes 190 = .ok (.iconst 5, 1) := by decide +kernel
theorem dX12_takes_191 : decode cX12_takes 191 = .ok (.iload_n 1, 1) := by decide +kernel
theorem dX12_takes_192 : decode cX12_takes 192 = .ok (.imul, 1) := by decide +kernel
theorem dX12_takes_193 : decode cX12_takes 193 = .ok (.iconst 4, 1) := by decide +kernel
theorem dX12_takes_194 : decode cX12_takes 194 = .ok (.iadd, 1) := by decide +kernel
theorem dX12_takes_195 : decode cX12_takes 195 = .ok (.iaload, 1) := by decide +kernel
theorem dX12_takes_196 : decode cX12_takes 196 = .ok (.iastore, 1) := by decide +kernel
theorem dX12_takes_197 : decode cX12_takes 197 = .ok (.aload_n 0, 1) := by decide +kernel
theorem dX12_takes_198 : decode cX12_takes 198 = .ok (.getfield 48, 3) := by decide +kernel
theorem dX12_takes_201 : decode cX12_takes 201 = .ok (.iload_n 1, 1) := by decide +kernel
theorem dX12_takes_202 : decode cX12_takes 202 = .ok (.iconst 0, 1) := by decide +kernel
theorem dX12_takes_203 : decode cX12_takes 203 = .ok (.iastore, 1) := by decide +kernel
theorem dX12_takes_204 : decode cX12_takes 204 = .ok (.aload_n 0, 1) := by decide +kernel
theorem dX12_takes_205 : decode cX12_takes 205 = .ok (.getfield 57, 3) := by decide +kernel
theorem dX12_takes_208 : decode cX12_takes 208 = .ok (.iload_n 1, 1) := by decide +kernel
theorem dX12_takes_209 : decode cX12_takes 209 = .ok (.aload_n 0, 1) := by decide +kernel
theorem dX12_takes_210 : decode cX12_takes 210 = .ok (.getfield 38, 3) := by decide +kernel
theorem dX12_takes_213 : decode cX12_takes 213 = .ok (.iload_n 1, 1) := by decide +kernel
theorem dX12_takes_214 : decode cX12_takes 214 = .ok (.iaload, 1) := by decide +kernel
theorem dX12_takes_215 : decode cX12_takes 215 = .ok (.iastore, 1) := by decide +kernel
theorem dX12_takes_216 : decode cX12_takes 216 = .ok (.iinc 1 1, 3) := by decide +kernel
theorem dX12_takes_219 : decode cX12_takes 219 = .ok (.goto (-117), 3) := by decide +kernel
theorem dX12_takes_222 : decode cX12_takes 222 = .ok (.iconst 0, 1) := by decide +kernel
theorem dX12_takes_223 : decode cX12_takes 223 = .ok (.istore_n 1, 1) := by decide +kernel
theorem dX12_takes_224 : decode cX12_takes 224 = .ok (.iload_n 1, 1) := by decide +kernel
theorem dX12_takes_225 : decode cX12_takes 225 = .ok (.aload_n 0, 1) := by decide +kernel
theorem dX12_takes_226 : decode cX12_takes 226 = .ok (.getfield 282, 3) := by decide +kernel
theorem dX12_takes_229 : decode cX12_takes 229 = .ok (.if_icmp .ge 43, 3) := by decide +kernel
theorem dX12_takes_232 : decode cX12_takes 232 = .ok (.aload_n 0, 1) := by decide +kernel
theorem dX12_takes_233 : decode cX12_takes 233 = .ok (.getfield 54, 3) := by decide +kernel
theorem dX12_takes_236 : decode cX12_takes 236 = .ok (.aload_n 0, 1) := by decide +kernel
theorem dX12_takes_237 : decode cX12_takes 237 = .ok (.getfield 17, 3) := by decide +kernel
theorem dX12_takes_240 : decode cX12_takes 240 = .ok (.iload_n 1, 1) := by decide +kernel
theorem dX12_takes_241 : decode cX12_takes 241 = .ok (.iaload, 1) := by decide +kernel
theorem dX12_takes_242 : decode cX12_takes 242 = .ok (.aload_n 0, 1) := by decide +kernel
theorem dX12_takes_243 : decode cX12_takes 243 = .ok (.getfield 279, 3) := by decide +kernel
theorem dX12_takes_246 : decode cX12_takes 246 = .ok (.iload_n 1, 1) := by decide +kernel
theorem dX12_takes_247 : decode cX12_takes 247 = .ok (.iadd, 1) := by decide +kernel
theorem dX12_takes_248 : decode cX12_takes 248 = .ok (.iastore, 1) := by decide +kernel
theorem dX12_takes_249 : decode cX12_takes 249 = .ok (.aload_n 0, 1) := by decide +kernel
theorem dX12_takes_250 : decode cX12_takes 250 = .ok (.getfield 57, 3) := by decide +kernel
theorem dX12_takes_253 : decode cX12_takes 253 = .ok (.aload_n 0, 1) := by decide +kernel
theorem dX12_takes_254 : decode cX12_takes 254 = .ok (.getfield 279, 3) := by decide +kernel
theorem dX12_takes_257 : decode cX12_takes 257 = .ok (.iload_n 1, 1) := by decide +kernel
theorem dX12_takes_258 : decode cX12_takes 258 = .ok (.iadd, 1) := by decide +kernel
theorem dX12_takes_259 : decode cX12_takes 259 = .ok (.aload_n 0, 1) := by decide +kernel
theorem dX12_takes_260 : decode cX12_takes 260 = .ok (.getfield 20, 3) := by decide +kernel
theorem dX12_takes_263 : decode cX12_takes 263 = .ok (.iload_n 1, 1) := by decide +kernel
theorem dX12_takes_264 : decode cX12_takes 264 = .ok (.iaload, 1) := by decide +kernel
theorem dX12_takes_265 : decode cX12_takes 265 = .ok (.iastore, 1) := by decide +kernel
theorem dX12_takes_266 : decode cX12_takes 266 = .ok (.iinc 1 1, 3) := by decide +kernel
theorem dX12_takes_269 : decode cX12_takes 269 = .ok (.goto (-45), 3) := by decide +kernel
theorem dX12_takes_272 : decode cX12_takes 272 = .ok (.iconst 0, 1) := by decide +kernel
theorem dX12_takes_273 : decode cX12_takes 273 = .ok (.istore_n 1, 1) := by decide +kernel
theorem dX12_takes_274 : decode cX12_takes 274 = .ok (.iload_n 1, 1) := by decide +kernel
theorem dX12_takes_275 : decode cX12_takes 275 = .ok (.aload_n 0, 1) := by decide +kernel
theorem dX12_takes_276 : decode cX12_takes 276 = .ok (.getfield 285, 3) := by decide +kernel
theorem dX12_takes_279 : decode cX12_takes 279 = .ok (.if_icmp .ge 107, 3) := by decide +kernel
theorem dX12_takes_282 : decode cX12_takes 282 = .ok (.aload_n 0, 1) := by decide +kernel
theorem dX12_takes_283 : decode cX12_takes 283 = .ok (.getfield 279, 3) := by decide +kernel
theorem dX12_takes_286 : decode cX12_takes 286 = .ok (.aload_n 0, 1) := by decide +kernel
theorem dX12_takes_287 : decode cX12_takes 287 = .ok (.getfield 282, 3) := by decide +kernel
theorem dX12_takes_290 : decode cX12_takes 290 = .ok (.iadd, 1) := by decide +kernel
theorem dX12_takes_291 : decode cX12_takes 291 = .ok (.iload_n 1, 1) := by decide +kernel
theorem dX12_takes_292 : decode cX12_takes 292 = .ok (.iadd, 1) := by decide +kernel
theorem dX12_takes_293 : decode cX12_takes 293 = .ok (.istore_n 2, 1) := by decide +kernel
theorem dX12_takes_294 : decode cX12_takes 294 = .ok (.aload_n 0, 1) := by decide +kernel
theorem dX12_takes_295 : decode cX12_takes 295 = .ok (.getfield 57, 3) := by decide +kernel
theorem dX12_takes_298 : decode cX12_takes 298 = .ok (.iload_n 2, 1) := by decide +kernel
theorem dX12_takes_299 : decode cX12_takes 299 = .ok (.aload_n 0, 1) := by decide +kernel
theorem dX12_takes_300 : decode cX12_takes 300 = .ok (.getfield 23, 3) := by decide +kernel
theorem dX12_takes_303 : decode cX12_takes 303 = .ok (.iload_n 1, 1) := by decide +kernel
theorem dX12_takes_304 : decode cX12_takes 304 = .ok (.iaload, 1) := by decide +kernel
theorem dX12_takes_305 : decode cX12_takes 305 = .ok (.iastore, 1) := by decide +kernel
theorem dX12_takes_306 : decode cX12_takes 306 = .ok (.iconst 0, 1) := by decide +kernel
theorem dX12_takes_307 : decode cX12_takes 307 = .ok (.istore_n 3, 1) := by decide +kernel
theorem dX12_takes_308 : decode cX12_takes 308 = .ok (.iload_n 3, 1) := by decide +kernel
theorem dX12_takes_309 : decode cX12_takes 309 = .ok (.aload_n 0, 1) := by decide +kernel
theorem dX12_takes_310 : decode cX12_takes 310 = .ok (.getfield 279, 3) := by decide +kernel
theorem dX12_takes_313 : decode cX12_takes 313 = .ok (.if_icmp .ge 30, 3) := by decide +kernel
theorem dX12_takes_316 : decode cX12_takes 316 = .ok (.aload_n 0, 1) := by decide +kernel
theorem dX12_takes_317 : decode cX12_takes 317 = .ok (.getfield 48, 3) := by decide +kernel
theorem dX12_takes_320 : decode cX12_takes 320 = .ok (.iload_n 3, 1) := by decide +kernel
theorem dX12_takes_321 : decode cX12_takes 321 = .ok (.dup2, 1) := by decide +kernel
theorem dX12_takes_322 : decode cX12_takes 322 = .ok (.iaload, 1) := by decide +kernel
theorem dX12_takes_323 : decode cX12_takes 323 = .ok (.aload_n 0, 1) := by decide +kernel
theorem dX12_takes_324 : decode cX12_takes 324 = .ok (.getfield 26, 3) := by decide +kernel
theorem dX12_takes_327 : decode cX12_takes 327 = .ok (.iload_n 1, 1) := by decide +kernel
theorem dX12_takes_328 : decode cX12_takes 328 = .ok (.iaload, 1) := by decide +kernel
theorem dX12_takes_329 : decode cX12_takes 329 = .ok (.iload_n 3, 1) := by decide +kernel
theorem dX12_takes_330 : decode cX12_takes 330 = .ok (.ishr, 1) := by decide +kernel
theorem dX12_takes_331 : decode cX12_takes 331 = .ok (.iconst 1, 1) := by decide +kernel
theorem dX12_takes_332 : decode cX12_takes 332 = .ok (.iand, 1) := by decide +kernel
theorem dX12_takes_333 : decode cX12_takes 333 = .ok (.iload_n 2, 1) := by decide +kernel
theorem dX12_takes_334 : decode cX12_takes 334 = .ok (.ishl, 1) := by decide +kernel
theorem dX12_takes_335 : decode cX12_takes 335 = .ok (.ior, 1) := by decide +kernel
theorem dX12_takes_336 : decode cX12_takes 336 = .ok (.iastore, 1) := by decide +kernel
theorem dX12_takes_337 : decode cX12_takes 337 = .ok (.iinc 3 1, 3) := by decide +kernel
theorem dX12_takes_340 : decode cX12_takes 340 = .ok (.goto (-32), 3) := by decide +kernel
theorem dX12_takes_343 : decode cX12_takes 343 = .ok (.iconst 0, 1) := by decide +kernel
theorem dX12_takes_344 : decode cX12_takes 344 = .ok (.istore_n 3, 1) := by decide +kernel
theorem dX12_takes_345 : decode cX12_takes 345 = .ok (.iload_n 3, 1) := by decide +kernel
theorem dX12_takes_346 : decode cX12_takes 346 = .ok (.aload_n 0, 1) := by decide +kernel
theorem dX12_takes_347 : decode cX12_takes 347 = .ok (.getfield 276, 3) := by decide +kernel
theorem dX12_takes_350 : decode cX12_takes 350 = .ok (.if_icmp .ge 30, 3) := by decide +kernel
theorem dX12_takes_353 : decode cX12_takes 353 = .ok (.aload_n 0, 1) := by decide +kernel
theorem dX12_takes_354 : decode cX12_takes 354 = .ok (.getfield 51, 3) := by decide +kernel
theorem dX12_takes_357 : decode cX12_takes 357 = .ok (.iload_n 3, 1) := by decide +kernel
theorem dX12_takes_358 : decode cX12_takes 358 = .ok (.dup2, 1) := by decide +kernel
theorem dX12_takes_359 : decode cX12_takes 359 = .ok (.iaload, 1) := by decide +kernel
theorem dX12_takes_360 : decode cX12_takes 360 = .ok (.aload_n 0, 1) := by decide +kernel
theorem dX12_takes_361 : decode cX12_takes 361 = .ok (.getfield 29, 3) := by decide +kernel
theorem dX12_takes_364 : decode cX12_takes 364 = .ok (.iload_n 1, 1) := by decide +kernel
theorem dX12_takes_365 : decode cX12_takes 365 = .ok (.iaload, 1) := by decide +kernel
theorem dX12_takes_366 : decode cX12_takes 366 = .ok (.iload_n 3, 1) := by decide +kernel
theorem dX12_takes_367 : decode cX12_takes 367 = .ok (.ishr, 1) := by decide +kernel
theorem dX12_takes_368 : decode cX12_takes 368 = .ok (.iconst 1, 1) := by decide +kernel
theorem dX12_takes_369 : decode cX12_takes 369 = .ok (.iand, 1) := by decide +kernel
theorem dX12_takes_370 : decode cX12_takes 370 = .ok (.iload_n 2, 1) := by decide +kernel
theorem dX12_takes_371 : decode cX12_takes 371 = .ok (.ishl, 1) := by decide +kernel
theorem dX12_takes_372 : decode cX12_takes 372 = .ok (.ior, 1) := by decide +kernel
theorem dX12_takes_373 : decode cX12_takes 373 = .ok (.iastore, 1) := by decide +kernel
theorem dX12_takes_374 : decode cX12_takes 374 = .ok (.iinc 3 1, 3) := by decide +kernel
theorem dX12_takes_377 : decode cX12_takes 377 = .ok (.goto (-32), 3) := by decide +kernel
theorem dX12_takes_380 : decode cX12_takes 380 = .ok (.iinc 1 1, 3) := by decide +kernel
theorem dX12_takes_383 : decode cX12_takes 383 = .ok (.goto (-109), 3) := by decide +kernel
theorem dX12_takes_386 : decode cX12_takes 386 = .ok (.aload_n 0, 1) := by decide +kernel
theorem dX12_takes_387 : decode cX12_takes 387 = .ok (.iconst 0, 1) := by decide +kernel
theorem dX12_takes_388 : decode cX12_takes 388 = .ok (.putfield 303, 3) := by decide +kernel
theorem dX12_takes_391 : decode cX12_takes 391 = .ok (.aload_n 0, 1) := by decide +kernel
theorem dX12_takes_392 : decode cX12_takes 392 = .ok (.iconst 0, 1) := by decide +kernel
theorem dX12_takes_393 : decode cX12_takes 393 = .ok (.putfield 306, 3) := by decide +kernel
theorem dX12_takes_396 : decode cX12_takes 396 = .ok (.aload_n 0, 1) := by decide +kernel
theorem dX12_takes_397 : decode cX12_takes 397 = .ok (.iconst 0, 1) := by decide +kernel
theorem dX12_takes_398 : decode cX12_takes 398 = .ok (.putfield 309, 3) := by decide +kernel
theorem dX12_takes_401 : decode cX12_takes 401 = .ok (.aload_n 0, 1) := by decide +kernel
theorem dX12_takes_402 : decode cX12_takes 402 = .ok (.iconst 0, 1) := by decide +kernel
theorem dX12_takes_403 : decode cX12_takes 403 = .ok (.putfield 312, 3) := by decide +kernel
theorem dX12_takes_406 : decode cX12_takes 406 = .ok (.return_, 1) := by decide +kernel
abbrev o_X12_takes : Type := Int32 × Int32 × Int32 × Int32 × Int32 × Int32 × Int32 × Int32 × Int32 × Int32 × Int32 × Int32 × Int32 × (Nat → Int32) × (Nat → Int32) × (Nat → Int32) × (Nat → Int32) × (Nat → Int32) × (Nat → Int32) × (Nat → Int32) × (Nat → Int32) × (Nat → Int32)
def f_X12_takes_L345 (S : wd_W) (x1 : Int32) (x28 : Int32) (x33 : Int32) (k380_41 : (Nat → Int32) → (Option o_X12_takes)) (r44 : (Int32) → (Nat → Int32) → (Option o_X12_takes)) (x42 : Int32) (a43 : Nat → Int32) : Option o_X12_takes :=
if x1 ≤ x42 then (
k380_41 a43) else (
gd (okx x42 10) <|
gd (okx x28 3) <|
lz ((a43 x42.toNatClampNeg) ||| (((((S.2.2.1 7) x28.toNatClampNeg) >>> (x42 &&& 31)) &&& (1 : Int32)) <<< (x33 &&& 31))) fun x47 =>
gd (okx x42 10) <|
lz (upd a43 x42.toNatClampNeg x47) fun a49 =>
r44 (x42 + (1 : Int32)) a49)
def f_X12_takes_L308 (S : wd_W) (x2 : Int32) (x28 : Int32) (x33 : Int32) (k343_39 : (Nat → Int32) → (Option o_X12_takes)) (r54 : (Int32) → (Nat → Int32) → (Option o_X12_takes)) (x52 : Int32) (a53 : Nat → Int32) : Option o_X12_takes :=
if x2 ≤ x52 then (
k343_39 a53) else (
gd (okx x52 13) <|
gd (okx x28 3) <|
lz ((a53 x52.toNatClampNeg) ||| (((((S.2.2.1 6) x28.toNatClampNeg) >>> (x52 &&& 31)) &&& (1 : Int32)) <<< (x33 &&& 31))) fun x57 =>
gd (okx x52 13) <|
lz (upd a53 x52.toNatClampNeg x57) fun a59 =>
r54 (x52 + (1 : Int32)) a59)
def f_X12_takes_L274 (S : wd_W) (x1 : Int32) (x2 : Int32) (x3 : Int32) (x4 : Int32) (k386_27 : (Nat → Int32) → (Nat → Int32) → (Nat → Int32) → (Option o_X12_takes)) (r32 : (Int32) → (Nat → Int32) → (Nat → Int32) → (Nat → Int32) → (Option o_X12_takes)) (x28 : Int32) (a29 : Nat → Int32) (a30 : Nat → Int32) (a31 : Nat → Int32) : Option o_X12_takes :=
if x4 ≤ x28 then (
k386_27 a29 a30 a31) else (
lz ((x2 + x3) + x28) fun x33 =>
gd (okx x28 3) <|
lz ((S.2.2.1 5) x28.toNatClampNeg) fun x35 =>
gd (okx x33 15) <|
lz (upd a31 x33.toNatClampNeg x35) fun a37 =>
lk (fun a38 =>
lk (fun a40 =>
r32 (x28 + (1 : Int32)) a38 a40 a37) fun k380_41 =>
it2 (f_X12_takes_L345 S x1 x28 x33 k380_41) fuel (0 : Int32) a30) fun k343_39 =>
it2 (f_X12_takes_L308 S x2 x28 x33 k343_39) fuel (0 : Int32) a29)
def f_X12_takes_L224 (S : wd_W) (x2 : Int32) (x3 : Int32) (k272_23 : (Nat → Int32) → (Nat → Int32) → (Option o_X12_takes)) (r67 : (Int32) → (Nat → Int32) → (Nat → Int32) → (Option o_X12_takes)) (x64 : Int32) (a65 : Nat → Int32) (a66 : Nat → Int32) : Option o_X12_takes :=
if x3 ≤ x64 then (
k272_23 a65 a66) else (
gd (okx x64 10) <|
lz (x2 + x64) fun x69 =>
gd (okx ((S.2.2.1 3) x64.toNatClampNeg) 10) <|
lz (upd a65 ((S.2.2.1 3) x64.toNatClampNeg).toNatClampNeg x69) fun a71 =>
gd (okx x64 10) <|
lz ((S.2.2.1 4) x64.toNatClampNeg) fun x73 =>
gd (okx (x2 + x64) 15) <|
lz (upd a66 (x2 + x64).toNatClampNeg x73) fun a75 =>
r67 (x64 + (1 : Int32)) a71 a75)
def f_X12_takes_L102 (S : wd_W) (x2 : Int32) (k222_20 : (Nat → Int32) → (Nat → Int32) → (Nat → Int32) → (Nat → Int32) → (Nat → Int32) → (Nat → Int32) → (Nat → Int32) → (Option o_X12_takes)) (r86 : (Int32) → (Nat → Int32) → (Nat → Int32) → (Nat → Int32) → (Nat → Int32) → (Nat → Int32) → (Nat → Int32) → (Nat → Int32) → (Option o_X12_takes)) (x78 : Int32) (a79 : Nat → Int32) (a80 : Nat → Int32) (a81 : Nat → Int32) (a82 : Nat → Int32) (a83 : Nat → Int32) (a84 : Nat → Int32) (a85 : Nat → Int32) : Option o_X12_takes :=
if x2 ≤ x78 then (
k222_20 a79 a80 a81 a82 a83 a84 a85) else (
gd (okx ((5 : Int32) * x78) 60) <|
lz ((S.2.2.1 2) ((5 : Int32) * x78).toNatClampNeg) fun x88 =>
gd (okx x78 13) <|
lz (upd a79 x78.toNatClampNeg x88) fun a90 =>
gd (okx (((5 : Int32) * x78) + (1 : Int32)) 60) <|
lz ((S.2.2.1 2) (((5 : Int32) * x78) + (1 : Int32)).toNatClampNeg) fun x92 =>
gd (okx x78 13) <|
lz (upd a80 x78.toNatClampNeg x92) fun a94 =>
gd (okx (((5 : Int32) * x78) + (2 : Int32)) 60) <|
lz ((S.2.2.1 2) (((5 : Int32) * x78) + (2 : Int32)).toNatClampNeg) fun x96 =>
gd (okx x78 13) <|
lz (upd a81 x78.toNatClampNeg x96) fun a98 =>
gd (okx (((5 : Int32) * x78) + (3 : Int32)) 60) <|
lk (fun x100 x101 =>
gd (okx x101 13) <|
lz (upd a82 x101.toNatClampNeg (vp_nar .boolean x100)) fun a104 =>
gd (okx (((5 : Int32) * x78) + (4 : Int32)) 60) <|
lz ((S.2.2.1 2) (((5 : Int32) * x78) + (4 : Int32)).toNatClampNeg) fun x106 =>
gd (okx x78 13) <|
lz (upd a83 x78.toNatClampNeg x106) fun a108 =>
gd (okx x78 13) <|
lz (upd a84 x78.toNatClampNeg (0 : Int32)) fun a110 =>
gd (okx x78 13) <|
lz (a98 x78.toNatClampNeg) fun x112 =>
gd (okx x78 15) <|
lz (upd a85 x78.toNatClampNeg x112) fun a114 =>
r86 (x78 + (1 : Int32)) a90 a94 a98 a104 a108 a110 a114) fun k180_102 =>
if ((S.2.2.1 2) (((5 : Int32) * x78) + (3 : Int32)).toNatClampNeg) = (1 : Int32) then (
k180_102 (1 : Int32) x78) else (
k180_102 (0 : Int32) x78))
def f_X12_takes_L74 (k100_12 : (Nat → Int32) → (Nat → Int32) → (Option o_X12_takes)) (r121 : (Int32) → (Nat → Int32) → (Nat → Int32) → (Option o_X12_takes)) (x118 : Int32) (a119 : Nat → Int32) (a120 : Nat → Int32) : Option o_X12_takes :=
if (10 : Int32) ≤ x118 then (
k100_12 a119 a120) else (
gd (okx x118 10) <|
lz (upd a120 x118.toNatClampNeg (-1 : Int32)) fun a123 =>
gd (okx x118 10) <|
lz (upd a119 x118.toNatClampNeg (0 : Int32)) fun a125 =>
r121 (x118 + (1 : Int32)) a125 a123)
def f_X12_takes (S : wd_W) : Option o_X12_takes :=
lz ((S.1 11)) fun x1 =>
lz ((S.1 3)) fun x2 =>
lz ((S.1 6)) fun x3 =>
lz ((S.1 10)) fun x4 =>
bd (f_X12_readThings (wd_o S [(20, x1), (21, x2), (30, x3), (31, x4), (32, (S.1 32)), (34, (S.1 34)), (35, (S.1 35)), (36, (S.1 36)), (37, (S.1 37)), (44, (S.1 44)), (51, (S.1 51)), (55, (S.1 55)), (60, (S.1 60))] [] [(8, (S.2.2.1 8)), (9, (S.2.2.1 9)), (10, (S.2.2.1 10)), (11, (S.2.2.1 11)), (12, (S.2.2.1 12)), (13, (S.2.2.1 13)), (14, (S.2.2.1 14)), (15, (S.2.2.1 15)), (16, (S.2.2.1 16))] [] [])) fun o5 =>
lz ((S.1 12)) fun x6 =>
lz ((S.1 13)) fun x7 =>
lz ((S.1 14)) fun x8 =>
lz ((S.1 15)) fun x9 =>
lk (fun a10 a11 =>
lk (fun a13 a14 a15 a16 a17 a18 a19 =>
lk (fun a21 a22 =>
lk (fun a24 a25 a26 =>
some (x1, x2, x3, x4, o5, x6, x7, x8, x9, (0 : Int32), (0 : Int32), (0 : Int32), (0 : Int32), a13, a14, a15, a16, a17, a24, a25, a21, a26)) fun k386_27 =>
it4 (f_X12_takes_L274 S x1 x2 x3 x4 k386_27) fuel (0 : Int32) a18 a10 a22) fun k272_23 =>
it3 (f_X12_takes_L224 S x2 x3 k272_23) fuel (0 : Int32) a11 a19) fun k222_20 =>
it8 (f_X12_takes_L102 S x2 k222_20) fuel (0 : Int32) (S.2.2.1 8) (S.2.2.1 9) (S.2.2.1 10) (S.2.2.1 11) (S.2.2.1 12) (S.2.2.1 13) (S.2.2.1 16)) fun k100_12 =>
it3 (f_X12_takes_L74 k100_12) fuel (0 : Int32) (S.2.2.1 14) (S.2.2.1 15)
set_option maxRecDepth 100000 in
set_option maxHeartbeats 4000000 in
theorem c_X12_takes (l : Launch) (D : va_G) (q g : Nat → Nat) (cy : Nat → ClassId) (z : (Nat → Nat) × (Nat → Nat) × Nat) (S : wd_W) (o : o_X12_takes) (hf : f_X12_takes S = some o) : MX layM l yX12_takes cX12_takes 4 none ({ frames := 1, cells := 0, slots := 0, locals := 20 } : Room) D q g cy z [.ref (q 0)] S false (none) (wd_o S [(20, o.1), (21, o.2.1), (30, o.2.2.1), (31, o.2.2.2.1), (32, o.2.2.2.2.1), (34, o.2.2.2.2.2.1), (35, o.2.2.2.2.2.2.1), (36, o.2.2.2.2.2.2.2.1), (37, o.2.2.2.2.2.2.2.2.1), (44, o.2.2.2.2.2.2.2.2.2.1), (51, o.2.2.2.2.2.2.2.2.2.2.1), (55, o.2.2.2.2.2.2.2.2.2.2.2.1), (60, o.2.2.2.2.2.2.2.2.2.2.2.2.1)] [] [(8, o.2.2.2.2.2.2.2.2.2.2.2.2.2.1), (9, o.2.2.2.2.2.2.2.2.2.2.2.2.2.2.1), (10, o.2.2.2.2.2.2.2.2.2.2.2.2.2.2.2.1), (11, o.2.2.2.2.2.2.2.2.2.2.2.2.2.2.2.2.1), (12, o.2.2.2.2.2.2.2.2.2.2.2.2.2.2.2.2.2.1), (13, o.2.2.2.2.2.2.2.2.2.2.2.2.2.2.2.2.2.2.1), (14, o.2.2.2.2.2.2.2.2.2.2.2.2.2.2.2.2.2.2.2.1), (15, o.2.2.2.2.2.2.2.2.2.2.2.2.2.2.2.2.2.2.2.2.1), (16, o.2.2.2.2.2.2.2.2.2.2.2.2.2.2.2.2.2.2.2.2.2)] [] []) 0 0 := by
  refine mx_of (own := RX12) (lc := [(0, .ref (q 0))]) (by decide +kernel) rfl layM_ok (Nat.le_of_ble_eq_true rfl) rfl ?_
  intro X hXl hXq hXz hC hQ
  subst hXl; subst hXq; subst hXz
  unfold f_X12_takes at hf
  refine go_keys (L1 := [(20, (S.1 20)), (21, (S.1 21)), (30, (S.1 30)), (31, (S.1 31)), (32, (S.1 32)), (34, (S.1 34)), (35, (S.1 35)), (36, (S.1 36)), (37, (S.1 37)), (44, (S.1 44)), (51, (S.1 51)), (55, (S.1 55)), (60, (S.1 60))]) (L2 := []) (L3 := [(8, (S.2.2.1 8)), (9, (S.2.2.1 9)), (10, (S.2.2.1 10)), (11, (S.2.2.1 11)), (12, (S.2.2.1 12)), (13, (S.2.2.1 13)), (14, (S.2.2.1 14)), (15, (S.2.2.1 15)), (16, (S.2.2.1 16))]) (L4 := []) (L5 := []) [20, 21, 30, 31, 32, 34, 35, 36, 37, 44, 51, 55, 60] [] [8, 9, 10, 11, 12, 13, 14, 15, 16] [] [] rfl rfl rfl rfl rfl ?_
  refine go_aload_n (pc' := 1) hC dX12_takes_0 rfl rfl ?_
  refine go_aload_n (pc' := 2) hC dX12_takes_1 rfl rfl ?_
  refine go_geti (v := (S.1 11)) (pc' := 5) hC 0 11 layM_0 rfl rfl inlX12 (Nat.le_of_ble_eq_true rfl) mw_236 rfl dX12_takes_2 rfl rfl ?_
  refine go_namei (fun x1 hx => ?_)
  have hf := lz_r hx hf
  clear hx
  refine go_puti (L1' := [(20, x1), (21, (S.1 21)), (30, (S.1 30)), (31, (S.1 31)), (32, (S.1 32)), (34, (S.1 34)), (35, (S.1 35)), (36, (S.1 36)), (37, (S.1 37)), (44, (S.1 44)), (51, (S.1 51)), (55, (S.1 55)), (60, (S.1 60))]) (pc' := 8) hC 0 20 layM_0 rfl rfl inlX12 tyX12_ok nmX12 (Nat.le_of_ble_eq_true rfl) mw_246 rfl rfl rfl rfl dX12_takes_5 rfl rfl rfl ?_
  refine go_aload_n (pc' := 9) hC dX12_takes_8 rfl rfl ?_
  refine go_aload_n (pc' := 10) hC dX12_takes_9 rfl rfl ?_
  refine go_geti (v := (S.1 3)) (pc' := 13) hC 0 3 layM_0 rfl rfl inlX12 (Nat.le_of_ble_eq_true rfl) mw_233 rfl dX12_takes_10 rfl rfl ?_
  refine go_namei (fun x2 hx => ?_)
  have hf := lz_r hx hf
  clear hx
  refine go_puti (L1' := [(20, x1), (21, x2), (30, (S.1 30)), (31, (S.1 31)), (32, (S.1 32)), (34, (S.1 34)), (35, (S.1 35)), (36, (S.1 36)), (37, (S.1 37)), (44, (S.1 44)), (51, (S.1 51)), (55, (S.1 55)), (60, (S.1 60))]) (pc' := 16) hC 0 21 layM_0 rfl rfl inlX12 tyX12_ok nmX12 (Nat.le_of_ble_eq_true rfl) mw_247 rfl rfl rfl rfl dX12_takes_13 rfl rfl rfl ?_
  refine go_aload_n (pc' := 17) hC dX12_takes_16 rfl rfl ?_
  refine go_aload_n (pc' := 18) hC dX12_takes_17 rfl rfl ?_
  refine go_geti (v := (S.1 6)) (pc' := 21) hC 0 6 layM_0 rfl rfl inlX12 (Nat.le_of_ble_eq_true rfl) mw_234 rfl dX12_takes_18 rfl rfl ?_
  refine go_namei (fun x3 hx => ?_)
  have hf := lz_r hx hf
  clear hx
  refine go_puti (L1' := [(20, x1), (21, x2), (30, x3), (31, (S.1 31)), (32, (S.1 32)), (34, (S.1 34)), (35, (S.1 35)), (36, (S.1 36)), (37, (S.1 37)), (44, (S.1 44)), (51, (S.1 51)), (55, (S.1 55)), (60, (S.1 60))]) (pc' := 24) hC 0 30 layM_0 rfl rfl inlX12 tyX12_ok nmX12 (Nat.le_of_ble_eq_true rfl) mw_248 rfl rfl rfl rfl dX12_takes_21 rfl rfl rfl ?_
  refine go_aload_n (pc' := 25) hC dX12_takes_24 rfl rfl ?_
  refine go_aload_n (pc' := 26) hC dX12_takes_25 rfl rfl ?_
  refine go_geti (v := (S.1 10)) (pc' := 29) hC 0 10 layM_0 rfl rfl inlX12 (Nat.le_of_ble_eq_true rfl) mw_235 rfl dX12_takes_26 rfl rfl ?_
  refine go_namei (fun x4 hx => ?_)
  have hf := lz_r hx hf
  clear hx
  refine go_puti (L1' := [(20, x1), (21, x2), (30, x3), (31, x4), (32, (S.1 32)), (34, (S.1 34)), (35, (S.1 35)), (36, (S.1 36)), (37, (S.1 37)), (44, (S.1 44)), (51, (S.1 51)), (55, (S.1 55)), (60, (S.1 60))]) (pc' := 32) hC 0 31 layM_0 rfl rfl inlX12 tyX12_ok nmX12 (Nat.le_of_ble_eq_true rfl) mw_249 rfl rfl rfl rfl dX12_takes_29 rfl rfl rfl ?_
  refine go_aload_n (pc' := 33) hC dX12_takes_32 rfl rfl ?_
  refine go_aload_n (pc' := 34) hC dX12_takes_33 rfl rfl ?_
  obtain ⟨o5, ho5, hf⟩ := bd_e hf
  refine go_callV0 (pc' := 37) (As := []) (st := [.ref (x_q X 0)]) (st' := [.int o5, .ref (x_q X 0)])    (b := 0) hC dX12_takes_34 ⟨mw_259, mw_262, mw_5, yd_yX12_readThings, yp_yX12_readThings, Nat.le_of_ble_eq_true rfl, Nat.le_of_ble_eq_true rfl, (Nat.le_of_ble_eq_true rfl), (Nat.le_of_ble_eq_true rfl)⟩ mw_260 mw_261 layM_0 rfl rfl rfl (Nat.le_of_ble_eq_true rfl) (c_X12_readThings (x_l X) (x_D X) (x_q X) g (x_cy X) (x_z X) _  o5 ho5) rfl rfl ?_
  refine go_puti (L1' := [(20, x1), (21, x2), (30, x3), (31, x4), (32, o5), (34, (S.1 34)), (35, (S.1 35)), (36, (S.1 36)), (37, (S.1 37)), (44, (S.1 44)), (51, (S.1 51)), (55, (S.1 55)), (60, (S.1 60))]) (pc' := 40) hC 0 32 layM_0 rfl rfl inlX12 tyX12_ok nmX12 (Nat.le_of_ble_eq_true rfl) mw_250 rfl rfl rfl rfl dX12_takes_37 rfl rfl rfl ?_
  refine go_aload_n (pc' := 41) hC dX12_takes_40 rfl rfl ?_
  refine go_aload_n (pc' := 42) hC dX12_takes_41 rfl rfl ?_
  refine go_geti (v := (S.1 12)) (pc' := 45) hC 0 12 layM_0 rfl rfl inlX12 (Nat.le_of_ble_eq_true rfl) mw_237 rfl dX12_takes_42 rfl rfl ?_
  refine go_namei (fun x6 hx => ?_)
  have hf := lz_r hx hf
  clear hx
  refine go_puti (L1' := [(20, x1), (21, x2), (30, x3), (31, x4), (32, o5), (34, x6), (35, (S.1 35)), (36, (S.1 36)), (37, (S.1 37)), (44, (S.1 44)), (51, (S.1 51)), (55, (S.1 55)), (60, (S.1 60))]) (pc' := 48) hC 0 34 layM_0 rfl rfl inlX12 tyX12_ok nmX12 (Nat.le_of_ble_eq_true rfl) mw_251 rfl rfl rfl rfl dX12_takes_45 rfl rfl rfl ?_
  refine go_aload_n (pc' := 49) hC dX12_takes_48 rfl rfl ?_
  refine go_aload_n (pc' := 50) hC dX12_takes_49 rfl rfl ?_
  refine go_geti (v := (S.1 13)) (pc' := 53) hC 0 13 layM_0 rfl rfl inlX12 (Nat.le_of_ble_eq_true rfl) mw_238 rfl dX12_takes_50 rfl rfl ?_
  refine go_namei (fun x7 hx => ?_)
  have hf := lz_r hx hf
  clear hx
  refine go_puti (L1' := [(20, x1), (21, x2), (30, x3), (31, x4), (32, o5), (34, x6), (35, x7), (36, (S.1 36)), (37, (S.1 37)), (44, (S.1 44)), (51, (S.1 51)), (55, (S.1 55)), (60, (S.1 60))]) (pc' := 56) hC 0 35 layM_0 rfl rfl inlX12 tyX12_ok nmX12 (Nat.le_of_ble_eq_true rfl) mw_252 rfl rfl rfl rfl dX12_takes_53 rfl rfl rfl ?_
  refine go_aload_n (pc' := 57) hC dX12_takes_56 rfl rfl ?_
  refine go_aload_n (pc' := 58) hC dX12_takes_57 rfl rfl ?_
  refine go_geti (v := (S.1 14)) (pc' := 61) hC 0 14 layM_0 rfl rfl inlX12 (Nat.le_of_ble_eq_true rfl) mw_239 rfl dX12_takes_58 rfl rfl ?_
  refine go_namei (fun x8 hx => ?_)
  have hf := lz_r hx hf
  clear hx
  refine go_puti (L1' := [(20, x1), (21, x2), (30, x3), (31, x4), (32, o5), (34, x6), (35, x7), (36, x8), (37, (S.1 37)), (44, (S.1 44)), (51, (S.1 51)), (55, (S.1 55)), (60, (S.1 60))]) (pc' := 64) hC 0 36 layM_0 rfl rfl inlX12 tyX12_ok nmX12 (Nat.le_of_ble_eq_true rfl) mw_253 rfl rfl rfl rfl dX12_takes_61 rfl rfl rfl ?_
  refine go_aload_n (pc' := 65) hC dX12_takes_64 rfl rfl ?_
  refine go_aload_n (pc' := 66) hC dX12_takes_65 rfl rfl ?_
  refine go_geti (v := (S.1 15)) (pc' := 69) hC 0 15 layM_0 rfl rfl inlX12 (Nat.le_of_ble_eq_true rfl) mw_240 rfl dX12_takes_66 rfl rfl ?_
  refine go_namei (fun x9 hx => ?_)
  have hf := lz_r hx hf
  clear hx
  refine go_puti (L1' := [(20, x1), (21, x2), (30, x3), (31, x4), (32, o5), (34, x6), (35, x7), (36, x8), (37, x9), (44, (S.1 44)), (51, (S.1 51)), (55, (S.1 55)), (60, (S.1 60))]) (pc' := 72) hC 0 37 layM_0 rfl rfl inlX12 tyX12_ok nmX12 (Nat.le_of_ble_eq_true rfl) mw_254 rfl rfl rfl rfl dX12_takes_69 rfl rfl rfl ?_
  refine go_iconst (pc' := 73) hC dX12_takes_72 ki_0 rfl ?_
  refine go_istore_n (lc' := [(0, .ref (x_q X 0)), (1, .int (0 : Int32))]) (pc' := 74) hC dX12_takes_73 (Nat.le_of_ble_eq_true rfl) rfl rfl ?_
  obtain ⟨k100_12, hk100_12, hf⟩ := lk_e2 hf
  have jk100_12 : ∀ (a10 : Nat → Int32) (a11 : Nat → Int32), k100_12 a10 a11 = some o → Go X layM S 100 [(0, .ref (x_q X 0))] [] g [(20, x1), (21, x2), (30, x3), (31, x4), (32, o5), (34, x6), (35, x7), (36, x8), (37, x9), (44, (S.1 44)), (51, (S.1 51)), (55, (S.1 55)), (60, (S.1 60))] [] [(8, (S.2.2.1 8)), (9, (S.2.2.1 9)), (10, (S.2.2.1 10)), (11, (S.2.2.1 11)), (12, (S.2.2.1 12)), (13, (S.2.2.1 13)), (14, a10), (15, a11), (16, (S.2.2.1 16))] [] [] 0 0 := by
    intro a10 a11 hf
    have hf := hk100_12 a10 a11 hf
    clear hk100_12
    refine go_iconst (pc' := 101) hC dX12_takes_100 ki_0 rfl ?_
    refine go_istore_n (lc' := [(0, .ref (x_q X 0)), (1, .int (0 : Int32))]) (pc' := 102) hC dX12_takes_101 (Nat.le_of_ble_eq_true rfl) rfl rfl ?_
    obtain ⟨k222_20, hk222_20, hf⟩ := lk_e7 hf
    have jk222_20 : ∀ (a13 : Nat → Int32) (a14 : Nat → Int32) (a15 : Nat → Int32) (a16 : Nat → Int32) (a17 : Nat → Int32) (a18 : Nat → Int32) (a19 : Nat → Int32), k222_20 a13 a14 a15 a16 a17 a18 a19 = some o → Go X layM S 222 [(0, .ref (x_q X 0))] [] g [(20, x1), (21, x2), (30, x3), (31, x4), (32, o5), (34, x6), (35, x7), (36, x8), (37, x9), (44, (S.1 44)), (51, (S.1 51)), (55, (S.1 55)), (60, (S.1 60))] [] [(8, a13), (9, a14), (10, a15), (11, a16), (12, a17), (13, a18), (14, a10), (15, a11), (16, a19)] [] [] 0 0 := by
      intro a13 a14 a15 a16 a17 a18 a19 hf
      have hf := hk222_20 a13 a14 a15 a16 a17 a18 a19 hf
      clear hk222_20
      refine go_iconst (pc' := 223) hC dX12_takes_222 ki_0 rfl ?_
      refine go_istore_n (lc' := [(0, .ref (x_q X 0)), (1, .int (0 : Int32))]) (pc' := 224) hC dX12_takes_223 (Nat.le_of_ble_eq_true rfl) rfl rfl ?_
      obtain ⟨k272_23, hk272_23, hf⟩ := lk_e2 hf
      have jk272_23 : ∀ (a21 : Nat → Int32) (a22 : Nat → Int32), k272_23 a21 a22 = some o → Go X layM S 272 [(0, .ref (x_q X 0))] [] g [(20, x1), (21, x2), (30, x3), (31, x4), (32, o5), (34, x6), (35, x7), (36, x8), (37, x9), (44, (S.1 44)), (51, (S.1 51)), (55, (S.1 55)), (60, (S.1 60))] [] [(8, a13), (9, a14), (10, a15), (11, a16), (12, a17), (13, a18), (14, a10), (15, a21), (16, a22)] [] [] 0 0 := by
        intro a21 a22 hf
        have hf := hk272_23 a21 a22 hf
        clear hk272_23
        refine go_iconst (pc' := 273) hC dX12_takes_272 ki_0 rfl ?_
        refine go_istore_n (lc' := [(0, .ref (x_q X 0)), (1, .int (0 : Int32))]) (pc' := 274) hC dX12_takes_273 (Nat.le_of_ble_eq_true rfl) rfl rfl ?_
        obtain ⟨k386_27, hk386_27, hf⟩ := lk_e3 hf
        have jk386_27 : ∀ (a24 : Nat → Int32) (a25 : Nat → Int32) (a26 : Nat → Int32), k386_27 a24 a25 a26 = some o → Go X layM S 386 [(0, .ref (x_q X 0))] [] g [(20, x1), (21, x2), (30, x3), (31, x4), (32, o5), (34, x6), (35, x7), (36, x8), (37, x9), (44, (S.1 44)), (51, (S.1 51)), (55, (S.1 55)), (60, (S.1 60))] [] [(8, a13), (9, a14), (10, a15), (11, a16), (12, a17), (13, a24), (14, a25), (15, a21), (16, a26)] [] [] 0 0 := by
          intro a24 a25 a26 hf
          have hf := hk386_27 a24 a25 a26 hf
          clear hk386_27
          refine go_aload_n (pc' := 387) hC dX12_takes_386 rfl rfl ?_
          refine go_iconst (pc' := 388) hC dX12_takes_387 ki_0 rfl ?_
          refine go_puti (L1' := [(20, x1), (21, x2), (30, x3), (31, x4), (32, o5), (34, x6), (35, x7), (36, x8), (37, x9), (44, (S.1 44)), (51, (0 : Int32)), (55, (S.1 55)), (60, (S.1 60))]) (pc' := 391) hC 0 51 layM_0 rfl rfl inlX12 tyX12_ok nmX12 (Nat.le_of_ble_eq_true rfl) mw_255 rfl rfl rfl rfl dX12_takes_388 rfl rfl rfl ?_
          refine go_aload_n (pc' := 392) hC dX12_takes_391 rfl rfl ?_
          refine go_iconst (pc' := 393) hC dX12_takes_392 ki_0 rfl ?_
          refine go_puti (L1' := [(20, x1), (21, x2), (30, x3), (31, x4), (32, o5), (34, x6), (35, x7), (36, x8), (37, x9), (44, (S.1 44)), (51, (0 : Int32)), (55, (S.1 55)), (60, (0 : Int32))]) (pc' := 396) hC 0 60 layM_0 rfl rfl inlX12 tyX12_ok nmX12 (Nat.le_of_ble_eq_true rfl) mw_256 rfl rfl rfl rfl dX12_takes_393 rfl rfl rfl ?_
          refine go_aload_n (pc' := 397) hC dX12_takes_396 rfl rfl ?_
          refine go_iconst (pc' := 398) hC dX12_takes_397 ki_0 rfl ?_
          refine go_puti (L1' := [(20, x1), (21, x2), (30, x3), (31, x4), (32, o5), (34, x6), (35, x7), (36, x8), (37, x9), (44, (S.1 44)), (51, (0 : Int32)), (55, (0 : Int32)), (60, (0 : Int32))]) (pc' := 401) hC 0 55 layM_0 rfl rfl inlX12 tyX12_ok nmX12 (Nat.le_of_ble_eq_true rfl) mw_257 rfl rfl rfl rfl dX12_takes_398 rfl rfl rfl ?_
          refine go_aload_n (pc' := 402) hC dX12_takes_401 rfl rfl ?_
          refine go_iconst (pc' := 403) hC dX12_takes_402 ki_0 rfl ?_
          refine go_puti (L1' := [(20, x1), (21, x2), (30, x3), (31, x4), (32, o5), (34, x6), (35, x7), (36, x8), (37, x9), (44, (0 : Int32)), (51, (0 : Int32)), (55, (0 : Int32)), (60, (0 : Int32))]) (pc' := 406) hC 0 44 layM_0 rfl rfl inlX12 tyX12_ok nmX12 (Nat.le_of_ble_eq_true rfl) mw_258 rfl rfl rfl rfl dX12_takes_403 rfl rfl rfl ?_
          obtain rfl := Option.some.inj hf
          exact go_vret hC hQ dX12_takes_406 rfl rfl rfl (fun _ => rfl) rfl rfl
        clear hk386_27
        have l274_63 : ∀ (nn : Nat) (x28 : Int32) (a29 : Nat → Int32) (a30 : Nat → Int32) (a31 : Nat → Int32), it4 (f_X12_takes_L274 S x1 x2 x3 x4 k386_27) nn x28 a29 a30 a31 = some o → Go X layM S 274 [(0, .ref (x_q X 0)), (1, .int x28)] [] g [(20, x1), (21, x2), (30, x3), (31, x4), (32, o5), (34, x6), (35, x7), (36, x8), (37, x9), (44, (S.1 44)), (51, (S.1 51)), (55, (S.1 55)), (60, (S.1 60))] [] [(8, a13), (9, a14), (10, a15), (11, a16), (12, a17), (13, a29), (14, a30), (15, a21), (16, a31)] [] [] 0 0 := by
          intro nn
          induction nn with
          | zero =>
            intro x28 a29 a30 a31 hf
            exact none_no hf
          | succ nn ih =>
            intro x28 a29 a30 a31 hf
            have hf : f_X12_takes_L274 S x1 x2 x3 x4 k386_27 (it4 (f_X12_takes_L274 S x1 x2 x3 x4 k386_27) nn) x28 a29 a30 a31 = some o := hf
            generalize it4 (f_X12_takes_L274 S x1 x2 x3 x4 k386_27) nn = r32 at ih hf
            unfold f_X12_takes_L274 at hf
            refine go_iload_n (pc' := 275) hC dX12_takes_274 rfl rfl ?_
            refine go_aload_n (pc' := 276) hC dX12_takes_275 rfl rfl ?_
            refine go_geti (v := x4) (pc' := 279) hC 0 31 layM_0 rfl rfl inlX12 (Nat.le_of_ble_eq_true rfl) mw_249 rfl dX12_takes_276 rfl rfl ?_
            refine go_icmp_ge (tgt := 386) (pc' := 282) hC dX12_takes_279 (by decide) rfl (fun h62 => ?_) (fun h62 => ?_)
            · have hf := ite_t h62 hf
              refine go_sub [0] rfl ?_
              exact jk386_27 a29 a30 a31 hf
            · have hf := ite_f h62 hf
              refine go_aload_n (pc' := 283) hC dX12_takes_282 rfl rfl ?_
              refine go_geti (v := x2) (pc' := 286) hC 0 21 layM_0 rfl rfl inlX12 (Nat.le_of_ble_eq_true rfl) mw_247 rfl dX12_takes_283 rfl rfl ?_
              refine go_aload_n (pc' := 287) hC dX12_takes_286 rfl rfl ?_
              refine go_geti (v := x3) (pc' := 290) hC 0 30 layM_0 rfl rfl inlX12 (Nat.le_of_ble_eq_true rfl) mw_248 rfl dX12_takes_287 rfl rfl ?_
              refine go_iadd (pc' := 291) hC dX12_takes_290 rfl ?_
              refine go_iload_n (pc' := 292) hC dX12_takes_291 rfl rfl ?_
              refine go_iadd (pc' := 293) hC dX12_takes_292 rfl ?_
              refine go_namei (fun x33 hx => ?_)
              have hf := lz_r hx hf
              clear hx
              refine go_istore_n (lc' := [(0, .ref (x_q X 0)), (1, .int x28), (2, .int x33)]) (pc' := 294) hC dX12_takes_293 (Nat.le_of_ble_eq_true rfl) rfl rfl ?_
              refine go_aload_n (pc' := 295) hC dX12_takes_294 rfl rfl ?_
              refine go_getq (pc' := 298) hC 0 33 layM_0 rfl rfl inlX12 (Nat.le_of_ble_eq_true rfl) mw_196 rfl dX12_takes_295 rfl ?_
              refine go_iload_n (pc' := 299) hC dX12_takes_298 rfl rfl ?_
              refine go_aload_n (pc' := 300) hC dX12_takes_299 rfl rfl ?_
              refine go_getq (pc' := 303) hC 0 7 layM_0 rfl rfl inlX12 (Nat.le_of_ble_eq_true rfl) mw_184 rfl dX12_takes_300 rfl ?_
              refine go_iload_n (pc' := 304) hC dX12_takes_303 rfl rfl ?_
              obtain ⟨h34, hf⟩ := gd_e hf
              refine go_iald (f := (S.2.2.1 5)) (pc' := 305) hC 5 layM_5 rfl rfl dX12_takes_304 (okx_in h34) rfl ?_
              refine go_namei (fun x35 hx => ?_)
              have hf := lz_r hx hf
              clear hx
              obtain ⟨h36, hf⟩ := gd_e hf
              refine go_iast (f := a31) (pc' := 306) hC 16 layM_16 rfl rfl dX12_takes_305 (okx_in h36) rfl rfl (fun a37 ha L3' hL => ?_)
              have hf := lz_r ha hf
              clear ha
              obtain rfl : L3' = [(8, a13), (9, a14), (10, a15), (11, a16), (12, a17), (13, a29), (14, a30), (15, a21), (16, a37)] := hL.symm
              refine go_iconst (pc' := 307) hC dX12_takes_306 ki_0 rfl ?_
              refine go_istore_n (lc' := [(0, .ref (x_q X 0)), (1, .int x28), (2, .int x33), (3, .int (0 : Int32))]) (pc' := 308) hC dX12_takes_307 (Nat.le_of_ble_eq_true rfl) rfl rfl ?_
              obtain ⟨k343_39, hk343_39, hf⟩ := lk_e1 hf
              have jk343_39 : ∀ (a38 : Nat → Int32), k343_39 a38 = some o → Go X layM S 343 [(0, .ref (x_q X 0)), (1, .int x28), (2, .int x33)] [] g [(20, x1), (21, x2), (30, x3), (31, x4), (32, o5), (34, x6), (35, x7), (36, x8), (37, x9), (44, (S.1 44)), (51, (S.1 51)), (55, (S.1 55)), (60, (S.1 60))] [] [(8, a13), (9, a14), (10, a15), (11, a16), (12, a17), (13, a38), (14, a30), (15, a21), (16, a37)] [] [] 0 0 := by
                intro a38 hf
                have hf := hk343_39 a38 hf
                clear hk343_39
                refine go_iconst (pc' := 344) hC dX12_takes_343 ki_0 rfl ?_
                refine go_istore_n (lc' := [(0, .ref (x_q X 0)), (1, .int x28), (2, .int x33), (3, .int (0 : Int32))]) (pc' := 345) hC dX12_takes_344 (Nat.le_of_ble_eq_true rfl) rfl rfl ?_
                obtain ⟨k380_41, hk380_41, hf⟩ := lk_e1 hf
                have jk380_41 : ∀ (a40 : Nat → Int32), k380_41 a40 = some o → Go X layM S 380 [(0, .ref (x_q X 0)), (1, .int x28)] [] g [(20, x1), (21, x2), (30, x3), (31, x4), (32, o5), (34, x6), (35, x7), (36, x8), (37, x9), (44, (S.1 44)), (51, (S.1 51)), (55, (S.1 55)), (60, (S.1 60))] [] [(8, a13), (9, a14), (10, a15), (11, a16), (12, a17), (13, a38), (14, a40), (15, a21), (16, a37)] [] [] 0 0 := by
                  intro a40 hf
                  have hf := hk380_41 a40 hf
                  clear hk380_41
                  refine go_iinc (lc' := [(0, .ref (x_q X 0)), (1, .int (x28 + (1 : Int32)))]) (pc' := 383) hC dX12_takes_380 rfl ki_1 (Nat.le_of_ble_eq_true rfl) rfl rfl ?_
                  refine go_goto (tgt := 274) hC dX12_takes_383 (by decide) ?_
                  exact ih (x28 + (1 : Int32)) a38 a40 a37 hf
                clear hk380_41
                have l345_51 : ∀ (nn : Nat) (x42 : Int32) (a43 : Nat → Int32), it2 (f_X12_takes_L345 S x1 x28 x33 k380_41) nn x42 a43 = some o → Go X layM S 345 [(0, .ref (x_q X 0)), (1, .int x28), (2, .int x33), (3, .int x42)] [] g [(20, x1), (21, x2), (30, x3), (31, x4), (32, o5), (34, x6), (35, x7), (36, x8), (37, x9), (44, (S.1 44)), (51, (S.1 51)), (55, (S.1 55)), (60, (S.1 60))] [] [(8, a13), (9, a14), (10, a15), (11, a16), (12, a17), (13, a38), (14, a43), (15, a21), (16, a37)] [] [] 0 0 := by
                  intro nn
                  induction nn with
                  | zero =>
                    intro x42 a43 hf
                    exact none_no hf
                  | succ nn ih =>
                    intro x42 a43 hf
                    have hf : f_X12_takes_L345 S x1 x28 x33 k380_41 (it2 (f_X12_takes_L345 S x1 x28 x33 k380_41) nn) x42 a43 = some o := hf
                    generalize it2 (f_X12_takes_L345 S x1 x28 x33 k380_41) nn = r44 at ih hf
                    unfold f_X12_takes_L345 at hf
                    refine go_iload_n (pc' := 346) hC dX12_takes_345 rfl rfl ?_
                    refine go_aload_n (pc' := 347) hC dX12_takes_346 rfl rfl ?_
                    refine go_geti (v := x1) (pc' := 350) hC 0 20 layM_0 rfl rfl inlX12 (Nat.le_of_ble_eq_true rfl) mw_246 rfl dX12_takes_347 rfl rfl ?_
                    refine go_icmp_ge (tgt := 380) (pc' := 353) hC dX12_takes_350 (by decide) rfl (fun h50 => ?_) (fun h50 => ?_)
                    · have hf := ite_t h50 hf
                      refine go_sub [0, 1] rfl ?_
                      exact jk380_41 a43 hf
                    · have hf := ite_f h50 hf
                      refine go_aload_n (pc' := 354) hC dX12_takes_353 rfl rfl ?_
                      refine go_getq (pc' := 357) hC 0 28 layM_0 rfl rfl inlX12 (Nat.le_of_ble_eq_true rfl) mw_194 rfl dX12_takes_354 rfl ?_
                      refine go_iload_n (pc' := 358) hC dX12_takes_357 rfl rfl ?_
                      refine go_dup2 (pc' := 359) hC dX12_takes_358 rfl rfl rfl ?_
                      obtain ⟨h45, hf⟩ := gd_e hf
                      refine go_iald (f := a43) (pc' := 360) hC 14 layM_14 rfl rfl dX12_takes_359 (okx_in h45) rfl ?_
                      refine go_aload_n (pc' := 361) hC dX12_takes_360 rfl rfl ?_
                      refine go_getq (pc' := 364) hC 0 9 layM_0 rfl rfl inlX12 (Nat.le_of_ble_eq_true rfl) mw_186 rfl dX12_takes_361 rfl ?_
                      refine go_iload_n (pc' := 365) hC dX12_takes_364 rfl rfl ?_
                      obtain ⟨h46, hf⟩ := gd_e hf
                      refine go_iald (f := (S.2.2.1 7)) (pc' := 366) hC 7 layM_7 rfl rfl dX12_takes_365 (okx_in h46) rfl ?_
                      refine go_iload_n (pc' := 367) hC dX12_takes_366 rfl rfl ?_
                      refine go_ishr (pc' := 368) hC dX12_takes_367 rfl ?_
                      refine go_iconst (pc' := 369) hC dX12_takes_368 ki_1 rfl ?_
                      refine go_iand (pc' := 370) hC dX12_takes_369 rfl ?_
                      refine go_iload_n (pc' := 371) hC dX12_takes_370 rfl rfl ?_
                      refine go_ishl (pc' := 372) hC dX12_takes_371 rfl ?_
                      refine go_ior (pc' := 373) hC dX12_takes_372 rfl ?_
                      refine go_namei (fun x47 hx => ?_)
                      have hf := lz_r hx hf
                      clear hx
                      obtain ⟨h48, hf⟩ := gd_e hf
                      refine go_iast (f := a43) (pc' := 374) hC 14 layM_14 rfl rfl dX12_takes_373 (okx_in h48) rfl rfl (fun a49 ha L3' hL => ?_)
                      have hf := lz_r ha hf
                      clear ha
                      obtain rfl : L3' = [(8, a13), (9, a14), (10, a15), (11, a16), (12, a17), (13, a38), (14, a49), (15, a21), (16, a37)] := hL.symm
                      refine go_iinc (lc' := [(0, .ref (x_q X 0)), (1, .int x28), (2, .int x33), (3, .int (x42 + (1 : Int32)))]) (pc' := 377) hC dX12_takes_374 rfl ki_1 (Nat.le_of_ble_eq_true rfl) rfl rfl ?_
                      refine go_goto (tgt := 345) hC dX12_takes_377 (by decide) ?_
                      exact ih (x42 + (1 : Int32)) a49 hf
                exact l345_51 fuel (0 : Int32) a30 hf
              clear hk343_39
              have l308_61 : ∀ (nn : Nat) (x52 : Int32) (a53 : Nat → Int32), it2 (f_X12_takes_L308 S x2 x28 x33 k343_39) nn x52 a53 = some o → Go X layM S 308 [(0, .ref (x_q X 0)), (1, .int x28), (2, .int x33), (3, .int x52)] [] g [(20, x1), (21, x2), (30, x3), (31, x4), (32, o5), (34, x6), (35, x7), (36, x8), (37, x9), (44, (S.1 44)), (51, (S.1 51)), (55, (S.1 55)), (60, (S.1 60))] [] [(8, a13), (9, a14), (10, a15), (11, a16), (12, a17), (13, a53), (14, a30), (15, a21), (16, a37)] [] [] 0 0 := by
                intro nn
                induction nn with
                | zero =>
                  intro x52 a53 hf
                  exact none_no hf
                | succ nn ih =>
                  intro x52 a53 hf
                  have hf : f_X12_takes_L308 S x2 x28 x33 k343_39 (it2 (f_X12_takes_L308 S x2 x28 x33 k343_39) nn) x52 a53 = some o := hf
                  generalize it2 (f_X12_takes_L308 S x2 x28 x33 k343_39) nn = r54 at ih hf
                  unfold f_X12_takes_L308 at hf
                  refine go_iload_n (pc' := 309) hC dX12_takes_308 rfl rfl ?_
                  refine go_aload_n (pc' := 310) hC dX12_takes_309 rfl rfl ?_
                  refine go_geti (v := x2) (pc' := 313) hC 0 21 layM_0 rfl rfl inlX12 (Nat.le_of_ble_eq_true rfl) mw_247 rfl dX12_takes_310 rfl rfl ?_
                  refine go_icmp_ge (tgt := 343) (pc' := 316) hC dX12_takes_313 (by decide) rfl (fun h60 => ?_) (fun h60 => ?_)
                  · have hf := ite_t h60 hf
                    refine go_sub [0, 1, 2] rfl ?_
                    exact jk343_39 a53 hf
                  · have hf := ite_f h60 hf
                    refine go_aload_n (pc' := 317) hC dX12_takes_316 rfl rfl ?_
                    refine go_getq (pc' := 320) hC 0 27 layM_0 rfl rfl inlX12 (Nat.le_of_ble_eq_true rfl) mw_193 rfl dX12_takes_317 rfl ?_
                    refine go_iload_n (pc' := 321) hC dX12_takes_320 rfl rfl ?_
                    refine go_dup2 (pc' := 322) hC dX12_takes_321 rfl rfl rfl ?_
                    obtain ⟨h55, hf⟩ := gd_e hf
                    refine go_iald (f := a53) (pc' := 323) hC 13 layM_13 rfl rfl dX12_takes_322 (okx_in h55) rfl ?_
                    refine go_aload_n (pc' := 324) hC dX12_takes_323 rfl rfl ?_
                    refine go_getq (pc' := 327) hC 0 8 layM_0 rfl rfl inlX12 (Nat.le_of_ble_eq_true rfl) mw_185 rfl dX12_takes_324 rfl ?_
                    refine go_iload_n (pc' := 328) hC dX12_takes_327 rfl rfl ?_
                    obtain ⟨h56, hf⟩ := gd_e hf
                    refine go_iald (f := (S.2.2.1 6)) (pc' := 329) hC 6 layM_6 rfl rfl dX12_takes_328 (okx_in h56) rfl ?_
                    refine go_iload_n (pc' := 330) hC dX12_takes_329 rfl rfl ?_
                    refine go_ishr (pc' := 331) hC dX12_takes_330 rfl ?_
                    refine go_iconst (pc' := 332) hC dX12_takes_331 ki_1 rfl ?_
                    refine go_iand (pc' := 333) hC dX12_takes_332 rfl ?_
                    refine go_iload_n (pc' := 334) hC dX12_takes_333 rfl rfl ?_
                    refine go_ishl (pc' := 335) hC dX12_takes_334 rfl ?_
                    refine go_ior (pc' := 336) hC dX12_takes_335 rfl ?_
                    refine go_namei (fun x57 hx => ?_)
                    have hf := lz_r hx hf
                    clear hx
                    obtain ⟨h58, hf⟩ := gd_e hf
                    refine go_iast (f := a53) (pc' := 337) hC 13 layM_13 rfl rfl dX12_takes_336 (okx_in h58) rfl rfl (fun a59 ha L3' hL => ?_)
                    have hf := lz_r ha hf
                    clear ha
                    obtain rfl : L3' = [(8, a13), (9, a14), (10, a15), (11, a16), (12, a17), (13, a59), (14, a30), (15, a21), (16, a37)] := hL.symm
                    refine go_iinc (lc' := [(0, .ref (x_q X 0)), (1, .int x28), (2, .int x33), (3, .int (x52 + (1 : Int32)))]) (pc' := 340) hC dX12_takes_337 rfl ki_1 (Nat.le_of_ble_eq_true rfl) rfl rfl ?_
                    refine go_goto (tgt := 308) hC dX12_takes_340 (by decide) ?_
                    exact ih (x52 + (1 : Int32)) a59 hf
              exact l308_61 fuel (0 : Int32) a29 hf
        exact l274_63 fuel (0 : Int32) a18 a10 a22 hf
      clear hk272_23
      have l224_77 : ∀ (nn : Nat) (x64 : Int32) (a65 : Nat → Int32) (a66 : Nat → Int32), it3 (f_X12_takes_L224 S x2 x3 k272_23) nn x64 a65 a66 = some o → Go X layM S 224 [(0, .ref (x_q X 0)), (1, .int x64)] [] g [(20, x1), (21, x2), (30, x3), (31, x4), (32, o5), (34, x6), (35, x7), (36, x8), (37, x9), (44, (S.1 44)), (51, (S.1 51)), (55, (S.1 55)), (60, (S.1 60))] [] [(8, a13), (9, a14), (10, a15), (11, a16), (12, a17), (13, a18), (14, a10), (15, a65), (16, a66)] [] [] 0 0 := by
        intro nn
        induction nn with
        | zero =>
          intro x64 a65 a66 hf
          exact none_no hf
        | succ nn ih =>
          intro x64 a65 a66 hf
          have hf : f_X12_takes_L224 S x2 x3 k272_23 (it3 (f_X12_takes_L224 S x2 x3 k272_23) nn) x64 a65 a66 = some o := hf
          generalize it3 (f_X12_takes_L224 S x2 x3 k272_23) nn = r67 at ih hf
          unfold f_X12_takes_L224 at hf
          refine go_iload_n (pc' := 225) hC dX12_takes_224 rfl rfl ?_
          refine go_aload_n (pc' := 226) hC dX12_takes_225 rfl rfl ?_
          refine go_geti (v := x3) (pc' := 229) hC 0 30 layM_0 rfl rfl inlX12 (Nat.le_of_ble_eq_true rfl) mw_248 rfl dX12_takes_226 rfl rfl ?_
          refine go_icmp_ge (tgt := 272) (pc' := 232) hC dX12_takes_229 (by decide) rfl (fun h76 => ?_) (fun h76 => ?_)
          · have hf := ite_t h76 hf
            refine go_sub [0] rfl ?_
            exact jk272_23 a65 a66 hf
          · have hf := ite_f h76 hf
            refine go_aload_n (pc' := 233) hC dX12_takes_232 rfl rfl ?_
            refine go_getq (pc' := 236) hC 0 29 layM_0 rfl rfl inlX12 (Nat.le_of_ble_eq_true rfl) mw_195 rfl dX12_takes_233 rfl ?_
            refine go_aload_n (pc' := 237) hC dX12_takes_236 rfl rfl ?_
            refine go_getq (pc' := 240) hC 0 4 layM_0 rfl rfl inlX12 (Nat.le_of_ble_eq_true rfl) mw_182 rfl dX12_takes_237 rfl ?_
            refine go_iload_n (pc' := 241) hC dX12_takes_240 rfl rfl ?_
            obtain ⟨h68, hf⟩ := gd_e hf
            refine go_iald (f := (S.2.2.1 3)) (pc' := 242) hC 3 layM_3 rfl rfl dX12_takes_241 (okx_in h68) rfl ?_
            refine go_aload_n (pc' := 243) hC dX12_takes_242 rfl rfl ?_
            refine go_geti (v := x2) (pc' := 246) hC 0 21 layM_0 rfl rfl inlX12 (Nat.le_of_ble_eq_true rfl) mw_247 rfl dX12_takes_243 rfl rfl ?_
            refine go_iload_n (pc' := 247) hC dX12_takes_246 rfl rfl ?_
            refine go_iadd (pc' := 248) hC dX12_takes_247 rfl ?_
            refine go_namei (fun x69 hx => ?_)
            have hf := lz_r hx hf
            clear hx
            obtain ⟨h70, hf⟩ := gd_e hf
            refine go_iast (f := a65) (pc' := 249) hC 15 layM_15 rfl rfl dX12_takes_248 (okx_in h70) rfl rfl (fun a71 ha L3' hL => ?_)
            have hf := lz_r ha hf
            clear ha
            obtain rfl : L3' = [(8, a13), (9, a14), (10, a15), (11, a16), (12, a17), (13, a18), (14, a10), (15, a71), (16, a66)] := hL.symm
            refine go_aload_n (pc' := 250) hC dX12_takes_249 rfl rfl ?_
            refine go_getq (pc' := 253) hC 0 33 layM_0 rfl rfl inlX12 (Nat.le_of_ble_eq_true rfl) mw_196 rfl dX12_takes_250 rfl ?_
            refine go_aload_n (pc' := 254) hC dX12_takes_253 rfl rfl ?_
            refine go_geti (v := x2) (pc' := 257) hC 0 21 layM_0 rfl rfl inlX12 (Nat.le_of_ble_eq_true rfl) mw_247 rfl dX12_takes_254 rfl rfl ?_
            refine go_iload_n (pc' := 258) hC dX12_takes_257 rfl rfl ?_
            refine go_iadd (pc' := 259) hC dX12_takes_258 rfl ?_
            refine go_aload_n (pc' := 260) hC dX12_takes_259 rfl rfl ?_
            refine go_getq (pc' := 263) hC 0 5 layM_0 rfl rfl inlX12 (Nat.le_of_ble_eq_true rfl) mw_183 rfl dX12_takes_260 rfl ?_
            refine go_iload_n (pc' := 264) hC dX12_takes_263 rfl rfl ?_
            obtain ⟨h72, hf⟩ := gd_e hf
            refine go_iald (f := (S.2.2.1 4)) (pc' := 265) hC 4 layM_4 rfl rfl dX12_takes_264 (okx_in h72) rfl ?_
            refine go_namei (fun x73 hx => ?_)
            have hf := lz_r hx hf
            clear hx
            obtain ⟨h74, hf⟩ := gd_e hf
            refine go_iast (f := a66) (pc' := 266) hC 16 layM_16 rfl rfl dX12_takes_265 (okx_in h74) rfl rfl (fun a75 ha L3' hL => ?_)
            have hf := lz_r ha hf
            clear ha
            obtain rfl : L3' = [(8, a13), (9, a14), (10, a15), (11, a16), (12, a17), (13, a18), (14, a10), (15, a71), (16, a75)] := hL.symm
            refine go_iinc (lc' := [(0, .ref (x_q X 0)), (1, .int (x64 + (1 : Int32)))]) (pc' := 269) hC dX12_takes_266 rfl ki_1 (Nat.le_of_ble_eq_true rfl) rfl rfl ?_
            refine go_goto (tgt := 224) hC dX12_takes_269 (by decide) ?_
            exact ih (x64 + (1 : Int32)) a71 a75 hf
      exact l224_77 fuel (0 : Int32) a11 a19 hf
    clear hk222_20
    have l102_117 : ∀ (nn : Nat) (x78 : Int32) (a79 : Nat → Int32) (a80 : Nat → Int32) (a81 : Nat → Int32) (a82 : Nat → Int32) (a83 : Nat → Int32) (a84 : Nat → Int32) (a85 : Nat → Int32), it8 (f_X12_takes_L102 S x2 k222_20) nn x78 a79 a80 a81 a82 a83 a84 a85 = some o → Go X layM S 102 [(0, .ref (x_q X 0)), (1, .int x78)] [] g [(20, x1), (21, x2), (30, x3), (31, x4), (32, o5), (34, x6), (35, x7), (36, x8), (37, x9), (44, (S.1 44)), (51, (S.1 51)), (55, (S.1 55)), (60, (S.1 60))] [] [(8, a79), (9, a80), (10, a81), (11, a82), (12, a83), (13, a84), (14, a10), (15, a11), (16, a85)] [] [] 0 0 := by
      intro nn
      induction nn with
      | zero =>
        intro x78 a79 a80 a81 a82 a83 a84 a85 hf
        exact none_no hf
      | succ nn ih =>
        intro x78 a79 a80 a81 a82 a83 a84 a85 hf
        have hf : f_X12_takes_L102 S x2 k222_20 (it8 (f_X12_takes_L102 S x2 k222_20) nn) x78 a79 a80 a81 a82 a83 a84 a85 = some o := hf
        generalize it8 (f_X12_takes_L102 S x2 k222_20) nn = r86 at ih hf
        unfold f_X12_takes_L102 at hf
        refine go_iload_n (pc' := 103) hC dX12_takes_102 rfl rfl ?_
        refine go_aload_n (pc' := 104) hC dX12_takes_103 rfl rfl ?_
        refine go_geti (v := x2) (pc' := 107) hC 0 21 layM_0 rfl rfl inlX12 (Nat.le_of_ble_eq_true rfl) mw_247 rfl dX12_takes_104 rfl rfl ?_
        refine go_icmp_ge (tgt := 222) (pc' := 110) hC dX12_takes_107 (by decide) rfl (fun h116 => ?_) (fun h116 => ?_)
        · have hf := ite_t h116 hf
          refine go_sub [0] rfl ?_
          exact jk222_20 a79 a80 a81 a82 a83 a84 a85 hf
        · have hf := ite_f h116 hf
          refine go_aload_n (pc' := 111) hC dX12_takes_110 rfl rfl ?_
          refine go_getq (pc' := 114) hC 0 22 layM_0 rfl rfl inlX12 (Nat.le_of_ble_eq_true rfl) mw_187 rfl dX12_takes_111 rfl ?_
          refine go_iload_n (pc' := 115) hC dX12_takes_114 rfl rfl ?_
          refine go_aload_n (pc' := 116) hC dX12_takes_115 rfl rfl ?_
          refine go_getq (pc' := 119) hC 0 2 layM_0 rfl rfl inlX12 (Nat.le_of_ble_eq_true rfl) mw_181 rfl dX12_takes_116 rfl ?_
          refine go_iconst (pc' := 120) hC dX12_takes_119 ki_5 rfl ?_
          refine go_iload_n (pc' := 121) hC dX12_takes_120 rfl rfl ?_
          refine go_imul (pc' := 122) hC dX12_takes_121 rfl ?_
          obtain ⟨h87, hf⟩ := gd_e hf
          refine go_iald (f := (S.2.2.1 2)) (pc' := 123) hC 2 layM_2 rfl rfl dX12_takes_122 (okx_in h87) rfl ?_
          refine go_namei (fun x88 hx => ?_)
          have hf := lz_r hx hf
          clear hx
          obtain ⟨h89, hf⟩ := gd_e hf
          refine go_iast (f := a79) (pc' := 124) hC 8 layM_8 rfl rfl dX12_takes_123 (okx_in h89) rfl rfl (fun a90 ha L3' hL => ?_)
          have hf := lz_r ha hf
          clear ha
          obtain rfl : L3' = [(8, a90), (9, a80), (10, a81), (11, a82), (12, a83), (13, a84), (14, a10), (15, a11), (16, a85)] := hL.symm
          refine go_aload_n (pc' := 125) hC dX12_takes_124 rfl rfl ?_
          refine go_getq (pc' := 128) hC 0 23 layM_0 rfl rfl inlX12 (Nat.le_of_ble_eq_true rfl) mw_188 rfl dX12_takes_125 rfl ?_
          refine go_iload_n (pc' := 129) hC dX12_takes_128 rfl rfl ?_
          refine go_aload_n (pc' := 130) hC dX12_takes_129 rfl rfl ?_
          refine go_getq (pc' := 133) hC 0 2 layM_0 rfl rfl inlX12 (Nat.le_of_ble_eq_true rfl) mw_181 rfl dX12_takes_130 rfl ?_
          refine go_iconst (pc' := 134) hC dX12_takes_133 ki_5 rfl ?_
          refine go_iload_n (pc' := 135) hC dX12_takes_134 rfl rfl ?_
          refine go_imul (pc' := 136) hC dX12_takes_135 rfl ?_
          refine go_iconst (pc' := 137) hC dX12_takes_136 ki_1 rfl ?_
          refine go_iadd (pc' := 138) hC dX12_takes_137 rfl ?_
          obtain ⟨h91, hf⟩ := gd_e hf
          refine go_iald (f := (S.2.2.1 2)) (pc' := 139) hC 2 layM_2 rfl rfl dX12_takes_138 (okx_in h91) rfl ?_
          refine go_namei (fun x92 hx => ?_)
          have hf := lz_r hx hf
          clear hx
          obtain ⟨h93, hf⟩ := gd_e hf
          refine go_iast (f := a80) (pc' := 140) hC 9 layM_9 rfl rfl dX12_takes_139 (okx_in h93) rfl rfl (fun a94 ha L3' hL => ?_)
          have hf := lz_r ha hf
          clear ha
          obtain rfl : L3' = [(8, a90), (9, a94), (10, a81), (11, a82), (12, a83), (13, a84), (14, a10), (15, a11), (16, a85)] := hL.symm
          refine go_aload_n (pc' := 141) hC dX12_takes_140 rfl rfl ?_
          refine go_getq (pc' := 144) hC 0 24 layM_0 rfl rfl inlX12 (Nat.le_of_ble_eq_true rfl) mw_189 rfl dX12_takes_141 rfl ?_
          refine go_iload_n (pc' := 145) hC dX12_takes_144 rfl rfl ?_
          refine go_aload_n (pc' := 146) hC dX12_takes_145 rfl rfl ?_
          refine go_getq (pc' := 149) hC 0 2 layM_0 rfl rfl inlX12 (Nat.le_of_ble_eq_true rfl) mw_181 rfl dX12_takes_146 rfl ?_
          refine go_iconst (pc' := 150) hC dX12_takes_149 ki_5 rfl ?_
          refine go_iload_n (pc' := 151) hC dX12_takes_150 rfl rfl ?_
          refine go_imul (pc' := 152) hC dX12_takes_151 rfl ?_
          refine go_iconst (pc' := 153) hC dX12_takes_152 ki_2 rfl ?_
          refine go_iadd (pc' := 154) hC dX12_takes_153 rfl ?_
          obtain ⟨h95, hf⟩ := gd_e hf
          refine go_iald (f := (S.2.2.1 2)) (pc' := 155) hC 2 layM_2 rfl rfl dX12_takes_154 (okx_in h95) rfl ?_
          refine go_namei (fun x96 hx => ?_)
          have hf := lz_r hx hf
          clear hx
          obtain ⟨h97, hf⟩ := gd_e hf
          refine go_iast (f := a81) (pc' := 156) hC 10 layM_10 rfl rfl dX12_takes_155 (okx_in h97) rfl rfl (fun a98 ha L3' hL => ?_)
          have hf := lz_r ha hf
          clear ha
          obtain rfl : L3' = [(8, a90), (9, a94), (10, a98), (11, a82), (12, a83), (13, a84), (14, a10), (15, a11), (16, a85)] := hL.symm
          refine go_aload_n (pc' := 157) hC dX12_takes_156 rfl rfl ?_
          refine go_getq (pc' := 160) hC 0 25 layM_0 rfl rfl inlX12 (Nat.le_of_ble_eq_true rfl) mw_191 rfl dX12_takes_157 rfl ?_
          refine go_iload_n (pc' := 161) hC dX12_takes_160 rfl rfl ?_
          refine go_aload_n (pc' := 162) hC dX12_takes_161 rfl rfl ?_
          refine go_getq (pc' := 165) hC 0 2 layM_0 rfl rfl inlX12 (Nat.le_of_ble_eq_true rfl) mw_181 rfl dX12_takes_162 rfl ?_
          refine go_iconst (pc' := 166) hC dX12_takes_165 ki_5 rfl ?_
          refine go_iload_n (pc' := 167) hC dX12_takes_166 rfl rfl ?_
          refine go_imul (pc' := 168) hC dX12_takes_167 rfl ?_
          refine go_iconst (pc' := 169) hC dX12_takes_168 ki_3 rfl ?_
          refine go_iadd (pc' := 170) hC dX12_takes_169 rfl ?_
          obtain ⟨h99, hf⟩ := gd_e hf
          refine go_iald (f := (S.2.2.1 2)) (pc' := 171) hC 2 layM_2 rfl rfl dX12_takes_170 (okx_in h99) rfl ?_
          refine go_iconst (pc' := 172) hC dX12_takes_171 ki_1 rfl ?_
          obtain ⟨k180_102, hk180_102, hf⟩ := lk_e2 hf
          have jk180_102 : ∀ (x100 : Int32) (x101 : Int32), k180_102 x100 x101 = some o → Go X layM S 180 [(0, .ref (x_q X 0)), (1, .int x78)] [.int x100, .int x101, .ref (x_q X 11)] g [(20, x1), (21, x2), (30, x3), (31, x4), (32, o5), (34, x6), (35, x7), (36, x8), (37, x9), (44, (S.1 44)), (51, (S.1 51)), (55, (S.1 55)), (60, (S.1 60))] [] [(8, a90), (9, a94), (10, a98), (11, a82), (12, a83), (13, a84), (14, a10), (15, a11), (16, a85)] [] [] 0 0 := by
            intro x100 x101 hf
            have hf := hk180_102 x100 x101 hf
            clear hk180_102
            obtain ⟨h103, hf⟩ := gd_e hf
            refine go_zast (f := a82) (pc' := 181) hC 11 layM_11 rfl rfl dX12_takes_180 (okx_in h103) rfl rfl (fun a104 ha L3' hL => ?_)
            have hf := lz_r ha hf
            clear ha
            obtain rfl : L3' = [(8, a90), (9, a94), (10, a98), (11, a104), (12, a83), (13, a84), (14, a10), (15, a11), (16, a85)] := hL.symm
            refine go_aload_n (pc' := 182) hC dX12_takes_181 rfl rfl ?_
            refine go_getq (pc' := 185) hC 0 26 layM_0 rfl rfl inlX12 (Nat.le_of_ble_eq_true rfl) mw_192 rfl dX12_takes_182 rfl ?_
            refine go_iload_n (pc' := 186) hC dX12_takes_185 rfl rfl ?_
            refine go_aload_n (pc' := 187) hC dX12_takes_186 rfl rfl ?_
            refine go_getq (pc' := 190) hC 0 2 layM_0 rfl rfl inlX12 (Nat.le_of_ble_eq_true rfl) mw_181 rfl dX12_takes_187 rfl ?_
            refine go_iconst (pc' := 191) hC dX12_takes_190 ki_5 rfl ?_
            refine go_iload_n (pc' := 192) hC dX12_takes_191 rfl rfl ?_
            refine go_imul (pc' := 193) hC dX12_takes_192 rfl ?_
            refine go_iconst (pc' := 194) hC dX12_takes_193 ki_4 rfl ?_
            refine go_iadd (pc' := 195) hC dX12_takes_194 rfl ?_
            obtain ⟨h105, hf⟩ := gd_e hf
            refine go_iald (f := (S.2.2.1 2)) (pc' := 196) hC 2 layM_2 rfl rfl dX12_takes_195 (okx_in h105) rfl ?_
            refine go_namei (fun x106 hx => ?_)
            have hf := lz_r hx hf
            clear hx
            obtain ⟨h107, hf⟩ := gd_e hf
            refine go_iast (f := a83) (pc' := 197) hC 12 layM_12 rfl rfl dX12_takes_196 (okx_in h107) rfl rfl (fun a108 ha L3' hL => ?_)
            have hf := lz_r ha hf
            clear ha
            obtain rfl : L3' = [(8, a90), (9, a94), (10, a98), (11, a104), (12, a108), (13, a84), (14, a10), (15, a11), (16, a85)] := hL.symm
            refine go_aload_n (pc' := 198) hC dX12_takes_197 rfl rfl ?_
            refine go_getq (pc' := 201) hC 0 27 layM_0 rfl rfl inlX12 (Nat.le_of_ble_eq_true rfl) mw_193 rfl dX12_takes_198 rfl ?_
            refine go_iload_n (pc' := 202) hC dX12_takes_201 rfl rfl ?_
            refine go_iconst (pc' := 203) hC dX12_takes_202 ki_0 rfl ?_
            obtain ⟨h109, hf⟩ := gd_e hf
            refine go_iast (f := a84) (pc' := 204) hC 13 layM_13 rfl rfl dX12_takes_203 (okx_in h109) rfl rfl (fun a110 ha L3' hL => ?_)
            have hf := lz_r ha hf
            clear ha
            obtain rfl : L3' = [(8, a90), (9, a94), (10, a98), (11, a104), (12, a108), (13, a110), (14, a10), (15, a11), (16, a85)] := hL.symm
            refine go_aload_n (pc' := 205) hC dX12_takes_204 rfl rfl ?_
            refine go_getq (pc' := 208) hC 0 33 layM_0 rfl rfl inlX12 (Nat.le_of_ble_eq_true rfl) mw_196 rfl dX12_takes_205 rfl ?_
            refine go_iload_n (pc' := 209) hC dX12_takes_208 rfl rfl ?_
            refine go_aload_n (pc' := 210) hC dX12_takes_209 rfl rfl ?_
            refine go_getq (pc' := 213) hC 0 24 layM_0 rfl rfl inlX12 (Nat.le_of_ble_eq_true rfl) mw_189 rfl dX12_takes_210 rfl ?_
            refine go_iload_n (pc' := 214) hC dX12_takes_213 rfl rfl ?_
            obtain ⟨h111, hf⟩ := gd_e hf
            refine go_iald (f := a98) (pc' := 215) hC 10 layM_10 rfl rfl dX12_takes_214 (okx_in h111) rfl ?_
            refine go_namei (fun x112 hx => ?_)
            have hf := lz_r hx hf
            clear hx
            obtain ⟨h113, hf⟩ := gd_e hf
            refine go_iast (f := a85) (pc' := 216) hC 16 layM_16 rfl rfl dX12_takes_215 (okx_in h113) rfl rfl (fun a114 ha L3' hL => ?_)
            have hf := lz_r ha hf
            clear ha
            obtain rfl : L3' = [(8, a90), (9, a94), (10, a98), (11, a104), (12, a108), (13, a110), (14, a10), (15, a11), (16, a114)] := hL.symm
            refine go_iinc (lc' := [(0, .ref (x_q X 0)), (1, .int (x78 + (1 : Int32)))]) (pc' := 219) hC dX12_takes_216 rfl ki_1 (Nat.le_of_ble_eq_true rfl) rfl rfl ?_
            refine go_goto (tgt := 102) hC dX12_takes_219 (by decide) ?_
            exact ih (x78 + (1 : Int32)) a90 a94 a98 a104 a108 a110 a114 hf
          clear hk180_102
          refine go_icmp_ne (tgt := 179) (pc' := 175) hC dX12_takes_172 (by decide) rfl (fun h115 => ?_) (fun h115 => ?_)
          · have hf := ite_f h115 hf
            refine go_iconst (pc' := 180) hC dX12_takes_179 ki_0 rfl ?_
            exact jk180_102 (0 : Int32) x78 hf
          · have hf := ite_t h115 hf
            refine go_iconst (pc' := 176) hC dX12_takes_175 ki_1 rfl ?_
            refine go_goto (tgt := 180) hC dX12_takes_176 (by decide) ?_
            exact jk180_102 (1 : Int32) x78 hf
    exact l102_117 fuel (0 : Int32) (S.2.2.1 8) (S.2.2.1 9) (S.2.2.1 10) (S.2.2.1 11) (S.2.2.1 12) (S.2.2.1 13) (S.2.2.1 16) hf
  clear hk100_12
  have l74_127 : ∀ (nn : Nat) (x118 : Int32) (a119 : Nat → Int32) (a120 : Nat → Int32), it3 (f_X12_takes_L74 k100_12) nn x118 a119 a120 = some o → Go X layM S 74 [(0, .ref (x_q X 0)), (1, .int x118)] [] g [(20, x1), (21, x2), (30, x3), (31, x4), (32, o5), (34, x6), (35, x7), (36, x8), (37, x9), (44, (S.1 44)), (51, (S.1 51)), (55, (S.1 55)), (60, (S.1 60))] [] [(8, (S.2.2.1 8)), (9, (S.2.2.1 9)), (10, (S.2.2.1 10)), (11, (S.2.2.1 11)), (12, (S.2.2.1 12)), (13, (S.2.2.1 13)), (14, a119), (15, a120), (16, (S.2.2.1 16))] [] [] 0 0 := by
    intro nn
    induction nn with
    | zero =>
      intro x118 a119 a120 hf
      exact none_no hf
    | succ nn ih =>
      intro x118 a119 a120 hf
      have hf : f_X12_takes_L74 k100_12 (it3 (f_X12_takes_L74 k100_12) nn) x118 a119 a120 = some o := hf
      generalize it3 (f_X12_takes_L74 k100_12) nn = r121 at ih hf
      unfold f_X12_takes_L74 at hf
      refine go_iload_n (pc' := 75) hC dX12_takes_74 rfl rfl ?_
      refine go_bipush (pc' := 77) hC dX12_takes_75 kb_10 rfl ?_
      refine go_icmp_ge (tgt := 100) (pc' := 80) hC dX12_takes_77 (by decide) rfl (fun h126 => ?_) (fun h126 => ?_)
      · have hf := ite_t h126 hf
        refine go_sub [0] rfl ?_
        exact jk100_12 a119 a120 hf
      · have hf := ite_f h126 hf
        refine go_aload_n (pc' := 81) hC dX12_takes_80 rfl rfl ?_
        refine go_getq (pc' := 84) hC 0 29 layM_0 rfl rfl inlX12 (Nat.le_of_ble_eq_true rfl) mw_195 rfl dX12_takes_81 rfl ?_
        refine go_iload_n (pc' := 85) hC dX12_takes_84 rfl rfl ?_
        refine go_iconst (pc' := 86) hC dX12_takes_85 ki_m1 rfl ?_
        obtain ⟨h122, hf⟩ := gd_e hf
        refine go_iast (f := a120) (pc' := 87) hC 15 layM_15 rfl rfl dX12_takes_86 (okx_in h122) rfl rfl (fun a123 ha L3' hL => ?_)
        have hf := lz_r ha hf
        clear ha
        obtain rfl : L3' = [(8, (S.2.2.1 8)), (9, (S.2.2.1 9)), (10, (S.2.2.1 10)), (11, (S.2.2.1 11)), (12, (S.2.2.1 12)), (13, (S.2.2.1 13)), (14, a119), (15, a123), (16, (S.2.2.1 16))] := hL.symm
        refine go_aload_n (pc' := 88) hC dX12_takes_87 rfl rfl ?_
        refine go_getq (pc' := 91) hC 0 28 layM_0 rfl rfl inlX12 (Nat.le_of_ble_eq_true rfl) mw_194 rfl dX12_takes_88 rfl ?_
        refine go_iload_n (pc' := 92) hC dX12_takes_91 rfl rfl ?_
        refine go_iconst (pc' := 93) hC dX12_takes_92 ki_0 rfl ?_
        obtain ⟨h124, hf⟩ := gd_e hf
        refine go_iast (f := a119) (pc' := 94) hC 14 layM_14 rfl rfl dX12_takes_93 (okx_in h124) rfl rfl (fun a125 ha L3' hL => ?_)
        have hf := lz_r ha hf
        clear ha
        obtain rfl : L3' = [(8, (S.2.2.1 8)), (9, (S.2.2.1 9)), (10, (S.2.2.1 10)), (11, (S.2.2.1 11)), (12, (S.2.2.1 12)), (13, (S.2.2.1 13)), (14, a125), (15, a123), (16, (S.2.2.1 16))] := hL.symm
        refine go_iinc (lc' := [(0, .ref (x_q X 0)), (1, .int (x118 + (1 : Int32)))]) (pc' := 97) hC dX12_takes_94 rfl ki_1 (Nat.le_of_ble_eq_true rfl) rfl rfl ?_
        refine go_goto (tgt := 74) hC dX12_takes_97 (by decide) ?_
        exact ih (x118 + (1 : Int32)) a125 a123 hf
  exact l74_127 fuel (0 : Int32) (S.2.2.1 14) (S.2.2.1 15) hf
theorem dX12_land_0 : decode cX12_land 0 = .ok (.aload_n 0, 1) := by decide +kernel
theorem dX12_land_1 : decode cX12_land 1 = .ok (.iconst 0, 1) := by decide +kernel
theorem dX12_land_2 : decode cX12_land 2 = .ok (.putfield 200, 3) := by decide +kernel
theorem dX12_land_5 : decode cX12_land 5 = .ok (.aload_n 0, 1) := by decide +kernel
theorem dX12_land_6 : decode cX12_land 6 = .ok (.iconst 0, 1) := by decide +kernel
theorem dX12_land_7 : decode cX12_land 7 = .ok (.putfield 197, 3) := by decide +kernel
theorem dX12_land_10 : decode cX12_land 10 = .ok (.aload_n 0, 1) := by decide +kernel
theorem dX12_land_11 : decode cX12_land 11 = .ok (.invokevirtual 315, 3) := by decide +kernel
theorem dX12_land_14 : decode cX12_land 14 = .ok (.istore_n 1, 1) := by decide +kernel
theorem dX12_land_15 : decode cX12_land 15 = .ok (.aload_n 0, 1) := by decide +kernel
theorem dX12_land_16 : decode cX12_land 16 = .ok (.iconst 0, 1) := by decide +kernel
theorem dX12_land_17 : decode cX12_land 17 = .ok (.putfield 161, 3) := by decide +kernel
theorem dX12_land_20 : decode cX12_land 20 = .ok (.iload_n 1, 1) := by decide +kernel
theorem dX12_land_21 : decode cX12_land 21 = .ok (.ifCond .ne 11, 3) := by decide +kernel
theorem dX12_land_24 : decode cX12_land 24 = .ok (.bipush (-2), 2) := by decide +kernel
theorem dX12_land_26 : decode cX12_land 26 = .ok (.aload_n 0, 1) := by decide +kernel
theorem dX12_land_27 : decode cX12_land 27 = .ok (.getfield 197, 3) := by decide +kernel
theorem dX12_land_30 : decode cX12_land 30 = .ok (.isub, 1) := by decide +kernel
theorem dX12_land_31 : decode cX12_land 31 = .ok (.ireturn, 1) := by decide +kernel
theorem dX12_land_32 : decode cX12_land 32 = .ok (.aload_n 0, 1) := by decide +kernel
theorem dX12_land_33 : decode cX12_land 33 = .ok (.invokevirtual 158, 3) := by decide +kernel
theorem dX12_land_36 : decode cX12_land 36 = .ok (.aload_n 0, 1) := by decide +kernel
theorem dX12_land_37 : decode cX12_land 37 = .ok (.getfield 288, 3) := by decide +kernel
theorem dX12_land_40 : decode cX12_land 40 = .ok (.ireturn, 1) := by decide +kernel
abbrev o_X12_land : Type := Int32 × wd_W
def f_X12_land (S : wd_W) : Option o_X12_land :=
lz (wd_o S [(17, (0 : Int32))] [] [] [] []) fun S1 =>
lz (wd_o S1 [(18, (0 : Int32))] [] [] [] []) fun S3 =>
bd (f_X12_text (wd_o S3 [(3, (S3.1 3)), (6, (S3.1 6)), (10, (S3.1 10)), (11, (S3.1 11)), (12, (S3.1 12)), (13, (S3.1 13)), (14, (S3.1 14)), (15, (S3.1 15)), (16, (S3.1 16)), (17, (S3.1 17)), (18, (S3.1 18)), (19, (S3.1 19))] [] [(2, (S3.2.2.1 2)), (3, (S3.2.2.1 3)), (4, (S3.2.2.1 4)), (5, (S3.2.2.1 5)), (6, (S3.2.2.1 6)), (7, (S3.2.2.1 7))] [] [])) fun o2 =>
lz (wd_o S3 [(3, o2.2.1), (6, o2.2.2.1), (10, o2.2.2.2.1), (11, o2.2.2.2.2.1), (12, o2.2.2.2.2.2.1), (13, o2.2.2.2.2.2.2.1), (14, o2.2.2.2.2.2.2.2.1), (15, o2.2.2.2.2.2.2.2.2.1), (16, o2.2.2.2.2.2.2.2.2.2.1), (17, o2.2.2.2.2.2.2.2.2.2.2.1), (18, o2.2.2.2.2.2.2.2.2.2.2.2.1), (19, o2.2.2.2.2.2.2.2.2.2.2.2.2.1)] [] [(2, o2.2.2.2.2.2.2.2.2.2.2.2.2.2.1), (3, o2.2.2.2.2.2.2.2.2.2.2.2.2.2.2.1), (4, o2.2.2.2.2.2.2.2.2.2.2.2.2.2.2.2.1), (5, o2.2.2.2.2.2.2.2.2.2.2.2.2.2.2.2.2.1), (6, o2.2.2.2.2.2.2.2.2.2.2.2.2.2.2.2.2.2.1), (7, o2.2.2.2.2.2.2.2.2.2.2.2.2.2.2.2.2.2.2)] [] []) fun S4 =>
if o2.1 = 0 then (
some ((-2 : Int32) - (S4.1 18), (wd_o S4 [(1, (0 : Int32))] [] [] [] []))) else (
lz (wd_o S4 [(1, (0 : Int32))] [] [] [] []) fun S6 =>
bd (f_X12_takes (wd_o S6 [(20, (S6.1 20)), (21, (S6.1 21)), (30, (S6.1 30)), (31, (S6.1 31)), (32, (S6.1 32)), (34, (S6.1 34)), (35, (S6.1 35)), (36, (S6.1 36)), (37, (S6.1 37)), (44, (S6.1 44)), (51, (S6.1 51)), (55, (S6.1 55)), (60, (S6.1 60))] [] [(8, (S6.2.2.1 8)), (9, (S6.2.2.1 9)), (10, (S6.2.2.1 10)), (11, (S6.2.2.1 11)), (12, (S6.2.2.1 12)), (13, (S6.2.2.1 13)), (14, (S6.2.2.1 14)), (15, (S6.2.2.1 15)), (16, (S6.2.2.1 16))] [] [])) fun o5 =>
some (o5.2.2.2.2.1, (wd_o S6 [(20, o5.1), (21, o5.2.1), (30, o5.2.2.1), (31, o5.2.2.2.1), (32, o5.2.2.2.2.1), (34, o5.2.2.2.2.2.1), (35, o5.2.2.2.2.2.2.1), (36, o5.2.2.2.2.2.2.2.1), (37, o5.2.2.2.2.2.2.2.2.1), (44, o5.2.2.2.2.2.2.2.2.2.1), (51, o5.2.2.2.2.2.2.2.2.2.2.1), (55, o5.2.2.2.2.2.2.2.2.2.2.2.1), (60, o5.2.2.2.2.2.2.2.2.2.2.2.2.1)] [] [(8, o5.2.2.2.2.2.2.2.2.2.2.2.2.2.1), (9, o5.2.2.2.2.2.2.2.2.2.2.2.2.2.2.1), (10, o5.2.2.2.2.2.2.2.2.2.2.2.2.2.2.2.1), (11, o5.2.2.2.2.2.2.2.2.2.2.2.2.2.2.2.2.1), (12, o5.2.2.2.2.2.2.2.2.2.2.2.2.2.2.2.2.2.1), (13, o5.2.2.2.2.2.2.2.2.2.2.2.2.2.2.2.2.2.2.1), (14, o5.2.2.2.2.2.2.2.2.2.2.2.2.2.2.2.2.2.2.2.1), (15, o5.2.2.2.2.2.2.2.2.2.2.2.2.2.2.2.2.2.2.2.2.1), (16, o5.2.2.2.2.2.2.2.2.2.2.2.2.2.2.2.2.2.2.2.2.2)] [] [])))
set_option maxRecDepth 100000 in
set_option maxHeartbeats 4000000 in
theorem c_X12_land (l : Launch) (D : va_G) (q g : Nat → Nat) (cy : Nat → ClassId) (z : (Nat → Nat) × (Nat → Nat) × Nat) (S : wd_W) (o : o_X12_land) (hf : f_X12_land S = some o) : MX layM l yX12_land cX12_land 2 (some .int) ({ frames := 6, cells := 0, slots := 0, locals := 137 } : Room) D q g cy z [.ref (q 0)] S false (some (.int o.1)) o.2 0 0 := by
  refine mx_of (own := RX12) (lc := [(0, .ref (q 0))]) (by decide +kernel) rfl layM_ok (Nat.le_of_ble_eq_true rfl) rfl ?_
  intro X hXl hXq hXz hC hQ
  subst hXl; subst hXq; subst hXz
  unfold f_X12_land at hf
  refine go_aload_n (pc' := 1) hC dX12_land_0 rfl rfl ?_
  refine go_iconst (pc' := 2) hC dX12_land_1 ki_0 rfl ?_
  refine go_keys (L1 := [(17, (S.1 17))]) (L2 := []) (L3 := []) (L4 := []) (L5 := []) [17] [] [] [] [] rfl rfl rfl rfl rfl ?_
  refine go_puti (L1' := [(17, (0 : Int32))]) (pc' := 5) hC 0 17 layM_0 rfl rfl inlX12 tyX12_ok nmX12 (Nat.le_of_ble_eq_true rfl) mw_489 rfl rfl rfl rfl dX12_land_2 rfl rfl rfl ?_
  refine go_aload_n (pc' := 6) hC dX12_land_5 rfl rfl ?_
  refine go_iconst (pc' := 7) hC dX12_land_6 ki_0 rfl ?_
  refine go_base (fun S1 hx => ?_)
  have hf := lz_r hx hf
  clear hx
  refine go_keys (L1 := [(18, (S1.1 18))]) (L2 := []) (L3 := []) (L4 := []) (L5 := []) [18] [] [] [] [] rfl rfl rfl rfl rfl ?_
  refine go_puti (L1' := [(18, (0 : Int32))]) (pc' := 10) hC 0 18 layM_0 rfl rfl inlX12 tyX12_ok nmX12 (Nat.le_of_ble_eq_true rfl) mw_490 rfl rfl rfl rfl dX12_land_7 rfl rfl rfl ?_
  refine go_aload_n (pc' := 11) hC dX12_land_10 rfl rfl ?_
  refine go_base (fun S3 hx => ?_)
  have hf := lz_r hx hf
  clear hx
  refine go_keys (L1 := [(3, (S3.1 3)), (6, (S3.1 6)), (10, (S3.1 10)), (11, (S3.1 11)), (12, (S3.1 12)), (13, (S3.1 13)), (14, (S3.1 14)), (15, (S3.1 15)), (16, (S3.1 16)), (17, (S3.1 17)), (18, (S3.1 18)), (19, (S3.1 19))]) (L2 := []) (L3 := [(2, (S3.2.2.1 2)), (3, (S3.2.2.1 3)), (4, (S3.2.2.1 4)), (5, (S3.2.2.1 5)), (6, (S3.2.2.1 6)), (7, (S3.2.2.1 7))]) (L4 := []) (L5 := []) [3, 6, 10, 11, 12, 13, 14, 15, 16, 17, 18, 19] [] [2, 3, 4, 5, 6, 7] [] [] rfl rfl rfl rfl rfl ?_
  obtain ⟨o2, ho2, hf⟩ := bd_e hf
  refine go_callV1 (pc' := 14) (As := []) (st := []) (st' := [.int o2.1]) (L1' := [(3, o2.2.1), (6, o2.2.2.1), (10, o2.2.2.2.1), (11, o2.2.2.2.2.1), (12, o2.2.2.2.2.2.1), (13, o2.2.2.2.2.2.2.1), (14, o2.2.2.2.2.2.2.2.1), (15, o2.2.2.2.2.2.2.2.2.1), (16, o2.2.2.2.2.2.2.2.2.2.1), (17, o2.2.2.2.2.2.2.2.2.2.2.1), (18, o2.2.2.2.2.2.2.2.2.2.2.2.1), (19, o2.2.2.2.2.2.2.2.2.2.2.2.2.1)]) (L2' := []) (L3' := [(2, o2.2.2.2.2.2.2.2.2.2.2.2.2.2.1), (3, o2.2.2.2.2.2.2.2.2.2.2.2.2.2.2.1), (4, o2.2.2.2.2.2.2.2.2.2.2.2.2.2.2.2.1), (5, o2.2.2.2.2.2.2.2.2.2.2.2.2.2.2.2.2.1), (6, o2.2.2.2.2.2.2.2.2.2.2.2.2.2.2.2.2.2.1), (7, o2.2.2.2.2.2.2.2.2.2.2.2.2.2.2.2.2.2.2)]) (L4' := []) (L5' := []) (cells' := 0) (slots' := 0)  (b := 0) hC dX12_land_11 ⟨mw_491, mw_494, mw_5, yd_yX12_text, yp_yX12_text, Nat.le_of_ble_eq_true rfl, Nat.le_of_ble_eq_true rfl, (Nat.le_of_ble_eq_true rfl), (Nat.le_of_ble_eq_true rfl)⟩ mw_492 mw_493 layM_0 rfl rfl rfl (Nat.le_of_ble_eq_true rfl) (c_X12_text (x_l X) (x_D X) (x_q X) g (x_cy X) (x_z X) _  o2 ho2) rfl rfl rfl rfl rfl rfl rfl rfl rfl rfl rfl rfl rfl rfl ?_
  refine go_istore_n (lc' := [(0, .ref (x_q X 0)), (1, .int o2.1)]) (pc' := 15) hC dX12_land_14 (Nat.le_of_ble_eq_true rfl) rfl rfl ?_
  refine go_aload_n (pc' := 16) hC dX12_land_15 rfl rfl ?_
  refine go_iconst (pc' := 17) hC dX12_land_16 ki_0 rfl ?_
  refine go_base (fun S4 hx => ?_)
  have hf := lz_r hx hf
  clear hx
  refine go_keys (L1 := [(1, (S4.1 1))]) (L2 := []) (L3 := []) (L4 := []) (L5 := []) [1] [] [] [] [] rfl rfl rfl rfl rfl ?_
  refine go_puti (L1' := [(1, (0 : Int32))]) (pc' := 20) hC 0 1 layM_0 rfl rfl inlX12 tyX12_ok nmX12 (Nat.le_of_ble_eq_true rfl) mw_281 rfl rfl rfl rfl dX12_land_17 rfl rfl rfl ?_
  refine go_iload_n (pc' := 21) hC dX12_land_20 rfl rfl ?_
  refine go_if_ne (tgt := 32) (pc' := 24) hC dX12_land_21 (by decide) rfl (fun h7 => ?_) (fun h7 => ?_)
  · have hf := ite_f h7 hf
    refine go_aload_n (pc' := 33) hC dX12_land_32 rfl rfl ?_
    refine go_base (fun S6 hx => ?_)
    have hf := lz_r hx hf
    clear hx
    refine go_keys (L1 := [(20, (S6.1 20)), (21, (S6.1 21)), (30, (S6.1 30)), (31, (S6.1 31)), (32, (S6.1 32)), (34, (S6.1 34)), (35, (S6.1 35)), (36, (S6.1 36)), (37, (S6.1 37)), (44, (S6.1 44)), (51, (S6.1 51)), (55, (S6.1 55)), (60, (S6.1 60))]) (L2 := []) (L3 := [(8, (S6.2.2.1 8)), (9, (S6.2.2.1 9)), (10, (S6.2.2.1 10)), (11, (S6.2.2.1 11)), (12, (S6.2.2.1 12)), (13, (S6.2.2.1 13)), (14, (S6.2.2.1 14)), (15, (S6.2.2.1 15)), (16, (S6.2.2.1 16))]) (L4 := []) (L5 := []) [20, 21, 30, 31, 32, 34, 35, 36, 37, 44, 51, 55, 60] [] [8, 9, 10, 11, 12, 13, 14, 15, 16] [] [] rfl rfl rfl rfl rfl ?_
    obtain ⟨o5, ho5, hf⟩ := bd_e hf
    refine go_callV1 (pc' := 36) (As := []) (st := []) (st' := []) (L1' := [(20, o5.1), (21, o5.2.1), (30, o5.2.2.1), (31, o5.2.2.2.1), (32, o5.2.2.2.2.1), (34, o5.2.2.2.2.2.1), (35, o5.2.2.2.2.2.2.1), (36, o5.2.2.2.2.2.2.2.1), (37, o5.2.2.2.2.2.2.2.2.1), (44, o5.2.2.2.2.2.2.2.2.2.1), (51, o5.2.2.2.2.2.2.2.2.2.2.1), (55, o5.2.2.2.2.2.2.2.2.2.2.2.1), (60, o5.2.2.2.2.2.2.2.2.2.2.2.2.1)]) (L2' := []) (L3' := [(8, o5.2.2.2.2.2.2.2.2.2.2.2.2.2.1), (9, o5.2.2.2.2.2.2.2.2.2.2.2.2.2.2.1), (10, o5.2.2.2.2.2.2.2.2.2.2.2.2.2.2.2.1), (11, o5.2.2.2.2.2.2.2.2.2.2.2.2.2.2.2.2.1), (12, o5.2.2.2.2.2.2.2.2.2.2.2.2.2.2.2.2.2.1), (13, o5.2.2.2.2.2.2.2.2.2.2.2.2.2.2.2.2.2.2.1), (14, o5.2.2.2.2.2.2.2.2.2.2.2.2.2.2.2.2.2.2.2.1), (15, o5.2.2.2.2.2.2.2.2.2.2.2.2.2.2.2.2.2.2.2.2.1), (16, o5.2.2.2.2.2.2.2.2.2.2.2.2.2.2.2.2.2.2.2.2.2)]) (L4' := []) (L5' := []) (cells' := 0) (slots' := 0)  (b := 0) hC dX12_land_33 ⟨mw_242, mw_245, mw_5, yd_yX12_takes, yp_yX12_takes, Nat.le_of_ble_eq_true rfl, Nat.le_of_ble_eq_true rfl, (Nat.le_of_ble_eq_true rfl), (Nat.le_of_ble_eq_true rfl)⟩ mw_243 mw_244 layM_0 rfl rfl rfl (Nat.le_of_ble_eq_true rfl) (c_X12_takes (x_l X) (x_D X) (x_q X) g (x_cy X) (x_z X) _  o5 ho5) rfl rfl rfl rfl rfl rfl rfl rfl rfl rfl rfl rfl rfl rfl ?_
    refine go_aload_n (pc' := 37) hC dX12_land_36 rfl rfl ?_
    refine go_geti (v := o5.2.2.2.2.1) (pc' := 40) hC 0 32 layM_0 rfl rfl inlX12 (Nat.le_of_ble_eq_true rfl) mw_250 rfl dX12_land_37 rfl rfl ?_
    obtain rfl := Option.some.inj hf
    exact go_iret hC hQ dX12_land_40 rfl rfl rfl rfl (fun _ => rfl) rfl rfl
  · have hf := ite_t h7 hf
    refine go_bipush (pc' := 26) hC dX12_land_24 kb_m2 rfl ?_
    refine go_aload_n (pc' := 27) hC dX12_land_26 rfl rfl ?_
    refine go_geti (v := (S4.1 18)) (pc' := 30) hC 0 18 layM_0 rfl rfl inlX12 (Nat.le_of_ble_eq_true rfl) mw_490 rfl dX12_land_27 rfl rfl ?_
    refine go_isub (pc' := 31) hC dX12_land_30 rfl ?_
    obtain rfl := Option.some.inj hf
    exact go_iret hC hQ dX12_land_31 rfl rfl rfl rfl (fun _ => rfl) rfl rfl
theorem dX12_line_0 : decode cX12_line 0 = .ok (.iload_n 1, 1) := by decide +kernel
theorem dX12_line_1 : decode cX12_line 1 = .ok (.i2l, 1) := by decide +kernel
theorem dX12_line_2 : decode cX12_line 2 = .ok (.lconst 0, 1) := by decide +kernel
theorem dX12_line_3 : decode cX12_line 3 = .ok (.aload_n 0, 1) := by decide +kernel
theorem dX12_line_4 : decode cX12_line 4 = .ok (.getfield 279, 3) := by decide +kernel
theorem dX12_line_7 : decode cX12_line 7 = .ok (.iconst 1, 1) := by decide +kernel
theorem dX12_line_8 : decode cX12_line 8 = .ok (.isub, 1) := by decide +kernel
theorem dX12_line_9 : decode cX12_line 9 = .ok (.i2l, 1) := by decide +kernel
theorem dX12_line_10 : decode cX12_line 10 = .ok (.invokestatic 218, 3) := by decide +kernel
theorem dX12_line_13 : decode cX12_line 13 = .ok (.ifCond .ne 5, 3) := by decide +kernel
theorem dX12_line_16 : decode cX12_line 16 = .ok (.iconst (-1), 1) := by decide +kernel
theorem dX12_line_17 : decode cX12_line 17 = .ok (.ireturn, 1) := by decide +kernel
theorem dX12_line_18 : decode cX12_line 18 = .ok (.iload_n 2, 1) := by decide +kernel
theorem dX12_line_19 : decode cX12_line 19 = .ok (.tableswitch 97 0 5 #[37, 44, 51, 58, 73, 80], 37) := by decide +kernel
theorem dX12_line_56 : decode cX12_line 56 = .ok (.aload_n 0, 1) := by decide +kernel
theorem dX12_line_57 : decode cX12_line 57 = .ok (.getfield 32, 3) := by decide +kernel
theorem dX12_line_60 : decode cX12_line 60 = .ok (.iload_n 1, 1) := by decide +kernel
theorem dX12_line_61 : decode cX12_line 61 = .ok (.iaload, 1) := by decide +kernel
theorem dX12_line_62 : decode cX12_line 62 = .ok (.ireturn, 1) := by decide +kernel
theorem dX12_line_63 : decode cX12_line 63 = .ok (.aload_n 0, 1) := by decide +kernel
theorem dX12_line_64 : decode cX12_line 64 = .ok (.getfield 35, 3) := by decide +kernel
theorem dX12_line_67 : decode cX12_line 67 = .ok (.iload_n 1, 1) := by decide +kernel
theorem dX12_line_68 : decode cX12_line 68 = .ok (.iaload, 1) := by decide +kernel
theorem dX12_line_69 : decode cX12_line 69 = .ok (.ireturn, 1) := by decide +kernel
theorem dX12_line_70 : decode cX12_line 70 = .ok (.aload_n 0, 1) := by decide +kernel
theorem dX12_line_71 : decode cX12_line 71 = .ok (.getfield 38, 3) := by decide +kernel
theorem dX12_line_74 : decode cX12_line 74 = .ok (.iload_n 1, 1) := by decide +kernel
theorem dX12_line_75 : decode cX12_line 75 = .ok (.iaload, 1) := by decide +kernel
theorem dX12_line_76 : decode cX12_line 76 = .ok (.ireturn, 1) := by decide +kernel
theorem dX12_line_77 : decode cX12_line 77 = .ok (.aload_n 0, 1) := by decide +kernel
theorem dX12_line_78 : decode cX12_line 78 = .ok (.getfield 41, 3) := by decide +kernel
theorem dX12_line_81 : decode cX12_line 81 = .ok (.iload_n 1, 1) := by decide +kernel
theorem dX12_line_82 : decode cX12_line 82 = .ok (.baload, 1) := by decide +kernel
theorem dX12_line_83 : decode cX12_line 83 = .ok (.ifCond .eq 7, 3) := by decide +kernel
theorem dX12_line_86 : decode cX12_line 86 = .ok (.iconst 1, 1) := by decide +kernel
theorem dX12_line_87 : decode cX12_line 87 = .ok (.goto 4, 3) := by decide +kernel
theorem dX12_line_90 : decode cX12_line 90 = .ok (.iconst 0, 1) := by decide +kernel
theorem dX12_line_91 : decode cX12_line 91 = .ok (.ireturn, 1) := by decide +kernel
theorem dX12_line_92 : decode cX12_line 92 = .ok (.aload_n 0, 1) := by decide +kernel
theorem dX12_line_93 : decode cX12_line 93 = .ok (.getfield 45, 3) := by decide +kernel
theorem dX12_line_96 : decode cX12_line 96 = .ok (.iload_n 1, 1) := by decide +kernel
theorem dX12_line_97 : decode cX12_line 97 = .ok (.iaload, 1) := by decide +kernel
theorem dX12_line_98 : decode cX12_line 98 = .ok (.ireturn, 1) := by decide +kernel
theorem dX12_line_99 : decode cX12_line 99 = .ok (.aload_n 0, 1) := by decide +kernel
theorem dX12_line_100 : decode cX12_line 100 = .ok (.getfield 48, 3) := by decide +kernel
theorem dX12_line_103 : decode cX12_line 103 = .ok (.iload_n 1, 1) := by decide +kernel
theorem dX12_line_104 : decode cX12_line 104 = .ok (.iaload, 1) := by decide +kernel
theorem dX12_line_105 : decode cX12_line 105 = .ok (.aload_n 0, 1) := by decide +kernel
theorem dX12_line_106 : decode cX12_line 106 = .ok (.getfield 279, 3) := by decide +kernel
theorem dX12_line_109 : decode cX12_line 109 = .ok (.aload_n 0, 1) := by decide +kernel
theorem dX12_line_110 : decode cX12_line 110 = .ok (.getfield 282, 3) := by decide +kernel
theorem dX12_line_113 : decode cX12_line 113 = .ok (.iadd, 1) := by decide +kernel
theorem dX12_line_114 : decode cX12_line 114 = .ok (.ishr, 1) := by decide +kernel
theorem dX12_line_115 : decode cX12_line 115 = .ok (.ireturn, 1) := by decide +kernel
theorem dX12_line_116 : decode cX12_line 116 = .ok (.iconst (-1), 1) := by decide +kernel
theorem dX12_line_117 : decode cX12_line 117 = .ok (.ireturn, 1) := by decide +kernel
abbrev o_X12_line : Type := Int32
def f_X12_line (S : wd_W) (p1 : Int32) (p2 : Int32) : Option o_X12_line :=
bd (f_X12_in p1.toInt64 (0 : Int64) (((S.1 21) - (1 : Int32)).toInt64)) fun o1 =>
if o1 = 0 then (
some (-1 : Int32)) else (
if p2 = (0 : Int32) then (
gd (okx p1 13) <|
some ((S.2.2.1 8) p1.toNatClampNeg)) else (
if p2 = (1 : Int32) then (
gd (okx p1 13) <|
some ((S.2.2.1 9) p1.toNatClampNeg)) else (
if p2 = (2 : Int32) then (
gd (okx p1 13) <|
some ((S.2.2.1 10) p1.toNatClampNeg)) else (
if p2 = (3 : Int32) then (
gd (okx p1 13) <|
if ((S.2.2.1 11) p1.toNatClampNeg) = 0 then (
some (0 : Int32)) else (
some (1 : Int32))) else (
if p2 = (4 : Int32) then (
gd (okx p1 13) <|
some ((S.2.2.1 12) p1.toNatClampNeg)) else (
if p2 = (5 : Int32) then (
gd (okx p1 13) <|
some (((S.2.2.1 13) p1.toNatClampNeg) >>> (((S.1 21) + (S.1 30)) &&& 31))) else (
some (-1 : Int32))))))))
set_option maxRecDepth 100000 in
set_option maxHeartbeats 4000000 in
theorem c_X12_line (l : Launch) (D : va_G) (q g : Nat → Nat) (cy : Nat → ClassId) (z : (Nat → Nat) × (Nat → Nat) × Nat) (S : wd_W) (p1 : Int32) (p2 : Int32) (o : o_X12_line) (hf : f_X12_line S p1 p2 = some o) : MX layM l yX12_line cX12_line 3 (some .int) ({ frames := 1, cells := 0, slots := 0, locals := 25 } : Room) D q g cy z [.ref (q 0), .int p1, .int p2] S false (some (.int o)) (wd_o S [] [] [] [] []) 0 0 := by
  refine mx_of (own := RX12) (lc := [(0, .ref (q 0)), (1, .int p1), (2, .int p2)]) (by decide +kernel) rfl layM_ok (Nat.le_of_ble_eq_true rfl) rfl ?_
  intro X hXl hXq hXz hC hQ
  subst hXl; subst hXq; subst hXz
  unfold f_X12_line at hf
  refine go_iload_n (pc' := 1) hC dX12_line_0 rfl rfl ?_
  refine go_i2l (pc' := 2) hC dX12_line_1 rfl ?_
  refine go_lconst (pc' := 3) hC dX12_line_2 kl_0 rfl ?_
  refine go_aload_n (pc' := 4) hC dX12_line_3 rfl rfl ?_
  refine go_geti (v := (S.1 21)) (pc' := 7) hC 0 21 layM_0 rfl rfl inlX12 (Nat.le_of_ble_eq_true rfl) mw_247 rfl dX12_line_4 rfl rfl ?_
  refine go_iconst (pc' := 8) hC dX12_line_7 ki_1 rfl ?_
  refine go_isub (pc' := 9) hC dX12_line_8 rfl ?_
  refine go_i2l (pc' := 10) hC dX12_line_9 rfl ?_
  obtain ⟨o1, ho1, hf⟩ := bd_e hf
  refine go_callS0 (pc' := 13) (As := [.long p1.toInt64, .long (0 : Int64), .long (((S.1 21) - (1 : Int32)).toInt64)]) (st := []) (st' := [.int o1])    hC dX12_line_10 ⟨mw_525, mw_527, mw_5, yd_yX12_in, yp_yX12_in, Nat.le_of_ble_eq_true rfl, Nat.le_of_ble_eq_true rfl, (Nat.le_of_ble_eq_true rfl), (Nat.le_of_ble_eq_true rfl)⟩ mw_526 rfl rfl (Nat.le_of_ble_eq_true rfl) (c_X12_in (x_l X) (x_D X) (x_q X) g (x_cy X) (x_z X) _ p1.toInt64 (0 : Int64) (((S.1 21) - (1 : Int32)).toInt64) o1 ho1) rfl rfl ?_
  refine go_if_ne (tgt := 18) (pc' := 16) hC dX12_line_13 (by decide) rfl (fun h15 => ?_) (fun h15 => ?_)
  · have hf := ite_f h15 hf
    refine go_iload_n (pc' := 19) hC dX12_line_18 rfl rfl ?_
    by_cases h3 : p2 = (0 : Int32)
    · have hf := ite_t h3 hf
      refine go_tabIn' (v := (0 : Int32)) (tgt := 56) hC dX12_line_19 h3 kt_0 (by decide) (by decide) rfl (by decide) ?_
      refine go_aload_n (pc' := 57) hC dX12_line_56 rfl rfl ?_
      refine go_getq (pc' := 60) hC 0 22 layM_0 rfl rfl inlX12 (Nat.le_of_ble_eq_true rfl) mw_187 rfl dX12_line_57 rfl ?_
      refine go_iload_n (pc' := 61) hC dX12_line_60 rfl rfl ?_
      obtain ⟨h2, hf⟩ := gd_e hf
      refine go_iald (f := (S.2.2.1 8)) (pc' := 62) hC 8 layM_8 rfl rfl dX12_line_61 (okx_in h2) rfl ?_
      obtain rfl := Option.some.inj hf
      exact go_iret hC hQ dX12_line_62 rfl rfl rfl rfl (fun _ => rfl) rfl rfl
    · have hf := ite_f h3 hf
      by_cases h5 : p2 = (1 : Int32)
      · have hf := ite_t h5 hf
        refine go_tabIn' (v := (1 : Int32)) (tgt := 63) hC dX12_line_19 h5 kt_1 (by decide) (by decide) rfl (by decide) ?_
        refine go_aload_n (pc' := 64) hC dX12_line_63 rfl rfl ?_
        refine go_getq (pc' := 67) hC 0 23 layM_0 rfl rfl inlX12 (Nat.le_of_ble_eq_true rfl) mw_188 rfl dX12_line_64 rfl ?_
        refine go_iload_n (pc' := 68) hC dX12_line_67 rfl rfl ?_
        obtain ⟨h4, hf⟩ := gd_e hf
        refine go_iald (f := (S.2.2.1 9)) (pc' := 69) hC 9 layM_9 rfl rfl dX12_line_68 (okx_in h4) rfl ?_
        obtain rfl := Option.some.inj hf
        exact go_iret hC hQ dX12_line_69 rfl rfl rfl rfl (fun _ => rfl) rfl rfl
      · have hf := ite_f h5 hf
        by_cases h7 : p2 = (2 : Int32)
        · have hf := ite_t h7 hf
          refine go_tabIn' (v := (2 : Int32)) (tgt := 70) hC dX12_line_19 h7 kt_2 (by decide) (by decide) rfl (by decide) ?_
          refine go_aload_n (pc' := 71) hC dX12_line_70 rfl rfl ?_
          refine go_getq (pc' := 74) hC 0 24 layM_0 rfl rfl inlX12 (Nat.le_of_ble_eq_true rfl) mw_189 rfl dX12_line_71 rfl ?_
          refine go_iload_n (pc' := 75) hC dX12_line_74 rfl rfl ?_
          obtain ⟨h6, hf⟩ := gd_e hf
          refine go_iald (f := (S.2.2.1 10)) (pc' := 76) hC 10 layM_10 rfl rfl dX12_line_75 (okx_in h6) rfl ?_
          obtain rfl := Option.some.inj hf
          exact go_iret hC hQ dX12_line_76 rfl rfl rfl rfl (fun _ => rfl) rfl rfl
        · have hf := ite_f h7 hf
          by_cases h10 : p2 = (3 : Int32)
          · have hf := ite_t h10 hf
            refine go_tabIn' (v := (3 : Int32)) (tgt := 77) hC dX12_line_19 h10 kt_3 (by decide) (by decide) rfl (by decide) ?_
            refine go_aload_n (pc' := 78) hC dX12_line_77 rfl rfl ?_
            refine go_getq (pc' := 81) hC 0 25 layM_0 rfl rfl inlX12 (Nat.le_of_ble_eq_true rfl) mw_191 rfl dX12_line_78 rfl ?_
            refine go_iload_n (pc' := 82) hC dX12_line_81 rfl rfl ?_
            obtain ⟨h8, hf⟩ := gd_e hf
            refine go_zald (f := (S.2.2.1 11)) (pc' := 83) hC 11 layM_11 rfl rfl dX12_line_82 (okx_in h8) rfl ?_
            refine go_if_eq (tgt := 90) (pc' := 86) hC dX12_line_83 (by decide) rfl (fun h9 => ?_) (fun h9 => ?_)
            · have hf := ite_t h9 hf
              refine go_iconst (pc' := 91) hC dX12_line_90 ki_0 rfl ?_
              obtain rfl := Option.some.inj hf
              exact go_iret hC hQ dX12_line_91 rfl rfl rfl rfl (fun _ => rfl) rfl rfl
            · have hf := ite_f h9 hf
              refine go_iconst (pc' := 87) hC dX12_line_86 ki_1 rfl ?_
              refine go_goto (tgt := 91) hC dX12_line_87 (by decide) ?_
              obtain rfl := Option.some.inj hf
              exact go_iret hC hQ dX12_line_91 rfl rfl rfl rfl (fun _ => rfl) rfl rfl
          · have hf := ite_f h10 hf
            by_cases h12 : p2 = (4 : Int32)
            · have hf := ite_t h12 hf
              refine go_tabIn' (v := (4 : Int32)) (tgt := 92) hC dX12_line_19 h12 kt_4 (by decide) (by decide) rfl (by decide) ?_
              refine go_aload_n (pc' := 93) hC dX12_line_92 rfl rfl ?_
              refine go_getq (pc' := 96) hC 0 26 layM_0 rfl rfl inlX12 (Nat.le_of_ble_eq_true rfl) mw_192 rfl dX12_line_93 rfl ?_
              refine go_iload_n (pc' := 97) hC dX12_line_96 rfl rfl ?_
              obtain ⟨h11, hf⟩ := gd_e hf
              refine go_iald (f := (S.2.2.1 12)) (pc' := 98) hC 12 layM_12 rfl rfl dX12_line_97 (okx_in h11) rfl ?_
              obtain rfl := Option.some.inj hf
              exact go_iret hC hQ dX12_line_98 rfl rfl rfl rfl (fun _ => rfl) rfl rfl
            · have hf := ite_f h12 hf
              by_cases h14 : p2 = (5 : Int32)
              · have hf := ite_t h14 hf
                refine go_tabIn' (v := (5 : Int32)) (tgt := 99) hC dX12_line_19 h14 kt_5 (by decide) (by decide) rfl (by decide) ?_
                refine go_aload_n (pc' := 100) hC dX12_line_99 rfl rfl ?_
                refine go_getq (pc' := 103) hC 0 27 layM_0 rfl rfl inlX12 (Nat.le_of_ble_eq_true rfl) mw_193 rfl dX12_line_100 rfl ?_
                refine go_iload_n (pc' := 104) hC dX12_line_103 rfl rfl ?_
                obtain ⟨h13, hf⟩ := gd_e hf
                refine go_iald (f := (S.2.2.1 13)) (pc' := 105) hC 13 layM_13 rfl rfl dX12_line_104 (okx_in h13) rfl ?_
                refine go_aload_n (pc' := 106) hC dX12_line_105 rfl rfl ?_
                refine go_geti (v := (S.1 21)) (pc' := 109) hC 0 21 layM_0 rfl rfl inlX12 (Nat.le_of_ble_eq_true rfl) mw_247 rfl dX12_line_106 rfl rfl ?_
                refine go_aload_n (pc' := 110) hC dX12_line_109 rfl rfl ?_
                refine go_geti (v := (S.1 30)) (pc' := 113) hC 0 30 layM_0 rfl rfl inlX12 (Nat.le_of_ble_eq_true rfl) mw_248 rfl dX12_line_110 rfl rfl ?_
                refine go_iadd (pc' := 114) hC dX12_line_113 rfl ?_
                refine go_ishr (pc' := 115) hC dX12_line_114 rfl ?_
                obtain rfl := Option.some.inj hf
                exact go_iret hC hQ dX12_line_115 rfl rfl rfl rfl (fun _ => rfl) rfl rfl
              · have hf := ite_f h14 hf
                refine go_tabOut (tgt := 116) hC dX12_line_19 ?_ (by decide) ?_
                · have e0 := lv_neT h3 kt_0; have e1 := lv_neT h5 kt_1; have e2 := lv_neT h7 kt_2; have e3 := lv_neT h10 kt_3; have e4 := lv_neT h12 kt_4; have e5 := lv_neT h14 kt_5; omega
                · refine go_iconst (pc' := 117) hC dX12_line_116 ki_m1 rfl ?_
                  obtain rfl := Option.some.inj hf
                  exact go_iret hC hQ dX12_line_117 rfl rfl rfl rfl (fun _ => rfl) rfl rfl
  · have hf := ite_t h15 hf
    refine go_iconst (pc' := 17) hC dX12_line_16 ki_m1 rfl ?_
    obtain rfl := Option.some.inj hf
    exact go_iret hC hQ dX12_line_17 rfl rfl rfl rfl (fun _ => rfl) rfl rfl
theorem dX12_place_0 : decode cX12_place 0 = .ok (.iload_n 1, 1) := by decide +kernel
theorem dX12_place_1 : decode cX12_place 1 = .ok (.i2l, 1) := by decide +kernel
theorem dX12_place_2 : decode cX12_place 2 = .ok (.lconst 0, 1) := by decide +kernel
theorem dX12_place_3 : decode cX12_place 3 = .ok (.aload_n 0, 1) := by decide +kernel
theorem dX12_place_4 : decode cX12_place 4 = .ok (.getfield 276, 3) := by decide +kernel
theorem dX12_place_7 : decode cX12_place 7 = .ok (.iconst 1, 1) := by decide +kernel
theorem dX12_place_8 : decode cX12_place 8 = .ok (.isub, 1) := by decide +kernel
theorem dX12_place_9 : decode cX12_place 9 = .ok (.i2l, 1) := by decide +kernel
theorem dX12_place_10 : decode cX12_place 10 = .ok (.invokestatic 218, 3) := by decide +kernel
theorem dX12_place_13 : decode cX12_place 13 = .ok (.ifCond .ne 5, 3) := by decide +kernel
theorem dX12_place_16 : decode cX12_place 16 = .ok (.iconst (-1), 1) := by decide +kernel
theorem dX12_place_17 : decode cX12_place 17 = .ok (.ireturn, 1) := by decide +kernel
theorem dX12_place_18 : decode cX12_place 18 = .ok (.iload_n 2, 1) := by decide +kernel
theorem dX12_place_19 : decode cX12_place 19 = .ok (.tableswitch 75 0 2 #[25, 51, 58], 25) := by decide +kernel
theorem dX12_place_44 : decode cX12_place 44 = .ok (.aload_n 0, 1) := by decide +kernel
theorem dX12_place_45 : decode cX12_place 45 = .ok (.getfield 54, 3) := by decide +kernel
theorem dX12_place_48 : decode cX12_place 48 = .ok (.iload_n 1, 1) := by decide +kernel
theorem dX12_place_49 : decode cX12_place 49 = .ok (.iaload, 1) := by decide +kernel
theorem dX12_place_50 : decode cX12_place 50 = .ok (.ifCond .ge 8, 3) := by decide +kernel
theorem dX12_place_53 : decode cX12_place 53 = .ok (.bipush 16, 2) := by decide +kernel
theorem dX12_place_55 : decode cX12_place 55 = .ok (.goto 14, 3) := by decide +kernel
theorem dX12_place_58 : decode cX12_place 58 = .ok (.aload_n 0, 1) := by decide +kernel
theorem dX12_place_59 : decode cX12_place 59 = .ok (.getfield 57, 3) := by decide +kernel
theorem dX12_place_62 : decode cX12_place 62 = .ok (.aload_n 0, 1) := by decide +kernel
theorem dX12_place_63 : decode cX12_place 63 = .ok (.getfield 54, 3) := by decide +kernel
theorem dX12_place_66 : decode cX12_place 66 = .ok (.iload_n 1, 1) := by decide +kernel
theorem dX12_place_67 : decode cX12_place 67 = .ok (.iaload, 1) := by decide +kernel
theorem dX12_place_68 : decode cX12_place 68 = .ok (.iaload, 1) := by decide +kernel
theorem dX12_place_69 : decode cX12_place 69 = .ok (.ireturn, 1) := by decide +kernel
theorem dX12_place_70 : decode cX12_place 70 = .ok (.aload_n 0, 1) := by decide +kernel
theorem dX12_place_71 : decode cX12_place 71 = .ok (.getfield 54, 3) := by decide +kernel
theorem dX12_place_74 : decode cX12_place 74 = .ok (.iload_n 1, 1) := by decide +kernel
theorem dX12_place_75 : decode cX12_place 75 = .ok (.iaload, 1) := by decide +kernel
theorem dX12_place_76 : decode cX12_place 76 = .ok (.ireturn, 1) := by decide +kernel
theorem dX12_place_77 : decode cX12_place 77 = .ok (.aload_n 0, 1) := by decide +kernel
theorem dX12_place_78 : decode cX12_place 78 = .ok (.getfield 51, 3) := by decide +kernel
theorem dX12_place_81 : decode cX12_place 81 = .ok (.iload_n 1, 1) := by decide +kernel
theorem dX12_place_82 : decode cX12_place 82 = .ok (.iaload, 1) := by decide +kernel
theorem dX12_place_83 : decode cX12_place 83 = .ok (.aload_n 0, 1) := by decide +kernel
theorem dX12_place_84 : decode cX12_place 84 = .ok (.getfield 279, 3) := by decide +kernel
theorem dX12_place_87 : decode cX12_place 87 = .ok (.aload_n 0, 1) := by decide +kernel
theorem dX12_place_88 : decode cX12_place 88 = .ok (.getfield 282, 3) := by decide +kernel
theorem dX12_place_91 : decode cX12_place 91 = .ok (.iadd, 1) := by decide +kernel
theorem dX12_place_92 : decode cX12_place 92 = .ok (.ishr, 1) := by decide +kernel
theorem dX12_place_93 : decode cX12_place 93 = .ok (.ireturn, 1) := by decide +kernel
theorem dX12_place_94 : decode cX12_place 94 = .ok (.iconst (-1), 1) := by decide +kernel
theorem dX12_place_95 : decode cX12_place 95 = .ok (.ireturn, 1) := by decide +kernel
abbrev o_X12_place : Type := Int32
def f_X12_place (S : wd_W) (p1 : Int32) (p2 : Int32) : Option o_X12_place :=
bd (f_X12_in p1.toInt64 (0 : Int64) (((S.1 20) - (1 : Int32)).toInt64)) fun o1 =>
if o1 = 0 then (
some (-1 : Int32)) else (
if p2 = (0 : Int32) then (
gd (okx p1 10) <|
if 0 ≤ ((S.2.2.1 15) p1.toNatClampNeg) then (
gd (okx p1 10) <|
gd (okx ((S.2.2.1 15) p1.toNatClampNeg) 15) <|
some ((S.2.2.1 16) ((S.2.2.1 15) p1.toNatClampNeg).toNatClampNeg)) else (
some (16 : Int32))) else (
if p2 = (1 : Int32) then (
gd (okx p1 10) <|
some ((S.2.2.1 15) p1.toNatClampNeg)) else (
if p2 = (2 : Int32) then (
gd (okx p1 10) <|
some (((S.2.2.1 14) p1.toNatClampNeg) >>> (((S.1 21) + (S.1 30)) &&& 31))) else (
some (-1 : Int32)))))
set_option maxRecDepth 100000 in
set_option maxHeartbeats 4000000 in
theorem c_X12_place (l : Launch) (D : va_G) (q g : Nat → Nat) (cy : Nat → ClassId) (z : (Nat → Nat) × (Nat → Nat) × Nat) (S : wd_W) (p1 : Int32) (p2 : Int32) (o : o_X12_place) (hf : f_X12_place S p1 p2 = some o) : MX layM l yX12_place cX12_place 3 (some .int) ({ frames := 1, cells := 0, slots := 0, locals := 25 } : Room) D q g cy z [.ref (q 0), .int p1, .int p2] S false (some (.int o)) (wd_o S [] [] [] [] []) 0 0 := by
  refine mx_of (own := RX12) (lc := [(0, .ref (q 0)), (1, .int p1), (2, .int p2)]) (by decide +kernel) rfl layM_ok (Nat.le_of_ble_eq_true rfl) rfl ?_
  intro X hXl hXq hXz hC hQ
  subst hXl; subst hXq; subst hXz
  unfold f_X12_place at hf
  refine go_iload_n (pc' := 1) hC dX12_place_0 rfl rfl ?_
  refine go_i2l (pc' := 2) hC dX12_place_1 rfl ?_
  refine go_lconst (pc' := 3) hC dX12_place_2 kl_0 rfl ?_
  refine go_aload_n (pc' := 4) hC dX12_place_3 rfl rfl ?_
  refine go_geti (v := (S.1 20)) (pc' := 7) hC 0 20 layM_0 rfl rfl inlX12 (Nat.le_of_ble_eq_true rfl) mw_246 rfl dX12_place_4 rfl rfl ?_
  refine go_iconst (pc' := 8) hC dX12_place_7 ki_1 rfl ?_
  refine go_isub (pc' := 9) hC dX12_place_8 rfl ?_
  refine go_i2l (pc' := 10) hC dX12_place_9 rfl ?_
  obtain ⟨o1, ho1, hf⟩ := bd_e hf
  refine go_callS0 (pc' := 13) (As := [.long p1.toInt64, .long (0 : Int64), .long (((S.1 20) - (1 : Int32)).toInt64)]) (st := []) (st' := [.int o1])    hC dX12_place_10 ⟨mw_525, mw_527, mw_5, yd_yX12_in, yp_yX12_in, Nat.le_of_ble_eq_true rfl, Nat.le_of_ble_eq_true rfl, (Nat.le_of_ble_eq_true rfl), (Nat.le_of_ble_eq_true rfl)⟩ mw_526 rfl rfl (Nat.le_of_ble_eq_true rfl) (c_X12_in (x_l X) (x_D X) (x_q X) g (x_cy X) (x_z X) _ p1.toInt64 (0 : Int64) (((S.1 20) - (1 : Int32)).toInt64) o1 ho1) rfl rfl ?_
  refine go_if_ne (tgt := 18) (pc' := 16) hC dX12_place_13 (by decide) rfl (fun h11 => ?_) (fun h11 => ?_)
  · have hf := ite_f h11 hf
    refine go_iload_n (pc' := 19) hC dX12_place_18 rfl rfl ?_
    by_cases h6 : p2 = (0 : Int32)
    · have hf := ite_t h6 hf
      refine go_tabIn' (v := (0 : Int32)) (tgt := 44) hC dX12_place_19 h6 kt_0 (by decide) (by decide) rfl (by decide) ?_
      refine go_aload_n (pc' := 45) hC dX12_place_44 rfl rfl ?_
      refine go_getq (pc' := 48) hC 0 29 layM_0 rfl rfl inlX12 (Nat.le_of_ble_eq_true rfl) mw_195 rfl dX12_place_45 rfl ?_
      refine go_iload_n (pc' := 49) hC dX12_place_48 rfl rfl ?_
      obtain ⟨h2, hf⟩ := gd_e hf
      refine go_iald (f := (S.2.2.1 15)) (pc' := 50) hC 15 layM_15 rfl rfl dX12_place_49 (okx_in h2) rfl ?_
      refine go_if_ge (tgt := 58) (pc' := 53) hC dX12_place_50 (by decide) rfl (fun h5 => ?_) (fun h5 => ?_)
      · have hf := ite_t h5 hf
        refine go_aload_n (pc' := 59) hC dX12_place_58 rfl rfl ?_
        refine go_getq (pc' := 62) hC 0 33 layM_0 rfl rfl inlX12 (Nat.le_of_ble_eq_true rfl) mw_196 rfl dX12_place_59 rfl ?_
        refine go_aload_n (pc' := 63) hC dX12_place_62 rfl rfl ?_
        refine go_getq (pc' := 66) hC 0 29 layM_0 rfl rfl inlX12 (Nat.le_of_ble_eq_true rfl) mw_195 rfl dX12_place_63 rfl ?_
        refine go_iload_n (pc' := 67) hC dX12_place_66 rfl rfl ?_
        obtain ⟨h3, hf⟩ := gd_e hf
        refine go_iald (f := (S.2.2.1 15)) (pc' := 68) hC 15 layM_15 rfl rfl dX12_place_67 (okx_in h3) rfl ?_
        obtain ⟨h4, hf⟩ := gd_e hf
        refine go_iald (f := (S.2.2.1 16)) (pc' := 69) hC 16 layM_16 rfl rfl dX12_place_68 (okx_in h4) rfl ?_
        obtain rfl := Option.some.inj hf
        exact go_iret hC hQ dX12_place_69 rfl rfl rfl rfl (fun _ => rfl) rfl rfl
      · have hf := ite_f h5 hf
        refine go_bipush (pc' := 55) hC dX12_place_53 kb_16 rfl ?_
        refine go_goto (tgt := 69) hC dX12_place_55 (by decide) ?_
        obtain rfl := Option.some.inj hf
        exact go_iret hC hQ dX12_place_69 rfl rfl rfl rfl (fun _ => rfl) rfl rfl
    · have hf := ite_f h6 hf
      by_cases h8 : p2 = (1 : Int32)
      · have hf := ite_t h8 hf
        refine go_tabIn' (v := (1 : Int32)) (tgt := 70) hC dX12_place_19 h8 kt_1 (by decide) (by decide) rfl (by decide) ?_
        refine go_aload_n (pc' := 71) hC dX12_place_70 rfl rfl ?_
        refine go_getq (pc' := 74) hC 0 29 layM_0 rfl rfl inlX12 (Nat.le_of_ble_eq_true rfl) mw_195 rfl dX12_place_71 rfl ?_
        refine go_iload_n (pc' := 75) hC dX12_place_74 rfl rfl ?_
        obtain ⟨h7, hf⟩ := gd_e hf
        refine go_iald (f := (S.2.2.1 15)) (pc' := 76) hC 15 layM_15 rfl rfl dX12_place_75 (okx_in h7) rfl ?_
        obtain rfl := Option.some.inj hf
        exact go_iret hC hQ dX12_place_76 rfl rfl rfl rfl (fun _ => rfl) rfl rfl
      · have hf := ite_f h8 hf
        by_cases h10 : p2 = (2 : Int32)
        · have hf := ite_t h10 hf
          refine go_tabIn' (v := (2 : Int32)) (tgt := 77) hC dX12_place_19 h10 kt_2 (by decide) (by decide) rfl (by decide) ?_
          refine go_aload_n (pc' := 78) hC dX12_place_77 rfl rfl ?_
          refine go_getq (pc' := 81) hC 0 28 layM_0 rfl rfl inlX12 (Nat.le_of_ble_eq_true rfl) mw_194 rfl dX12_place_78 rfl ?_
          refine go_iload_n (pc' := 82) hC dX12_place_81 rfl rfl ?_
          obtain ⟨h9, hf⟩ := gd_e hf
          refine go_iald (f := (S.2.2.1 14)) (pc' := 83) hC 14 layM_14 rfl rfl dX12_place_82 (okx_in h9) rfl ?_
          refine go_aload_n (pc' := 84) hC dX12_place_83 rfl rfl ?_
          refine go_geti (v := (S.1 21)) (pc' := 87) hC 0 21 layM_0 rfl rfl inlX12 (Nat.le_of_ble_eq_true rfl) mw_247 rfl dX12_place_84 rfl rfl ?_
          refine go_aload_n (pc' := 88) hC dX12_place_87 rfl rfl ?_
          refine go_geti (v := (S.1 30)) (pc' := 91) hC 0 30 layM_0 rfl rfl inlX12 (Nat.le_of_ble_eq_true rfl) mw_248 rfl dX12_place_88 rfl rfl ?_
          refine go_iadd (pc' := 92) hC dX12_place_91 rfl ?_
          refine go_ishr (pc' := 93) hC dX12_place_92 rfl ?_
          obtain rfl := Option.some.inj hf
          exact go_iret hC hQ dX12_place_93 rfl rfl rfl rfl (fun _ => rfl) rfl rfl
        · have hf := ite_f h10 hf
          refine go_tabOut (tgt := 94) hC dX12_place_19 ?_ (by decide) ?_
          · have e0 := lv_neT h6 kt_0; have e1 := lv_neT h8 kt_1; have e2 := lv_neT h10 kt_2; omega
          · refine go_iconst (pc' := 95) hC dX12_place_94 ki_m1 rfl ?_
            obtain rfl := Option.some.inj hf
            exact go_iret hC hQ dX12_place_95 rfl rfl rfl rfl (fun _ => rfl) rfl rfl
  · have hf := ite_t h11 hf
    refine go_iconst (pc' := 17) hC dX12_place_16 ki_m1 rfl ?_
    obtain rfl := Option.some.inj hf
    exact go_iret hC hQ dX12_place_17 rfl rfl rfl rfl (fun _ => rfl) rfl rfl
theorem dX12_isBetween_0 : decode cX12_isBetween 0 = .ok (.aload_n 0, 1) := by decide +kernel
theorem dX12_isBetween_1 : decode cX12_isBetween 1 = .ok (.getfield 318, 3) := by decide +kernel
theorem dX12_isBetween_4 : decode cX12_isBetween 4 = .ok (.aload_n 0, 1) := by decide +kernel
theorem dX12_isBetween_5 : decode cX12_isBetween 5 = .ok (.getfield 32, 3) := by decide +kernel
theorem dX12_isBetween_8 : decode cX12_isBetween 8 = .ok (.iload_n 1, 1) := by decide +kernel
theorem dX12_isBetween_9 : decode cX12_isBetween 9 = .ok (.iaload, 1) := by decide +kernel
theorem dX12_isBetween_10 : decode cX12_isBetween 10 = .ok (.ishr, 1) := by decide +kernel
theorem dX12_isBetween_11 : decode cX12_isBetween 11 = .ok (.iconst 1, 1) := by decide +kernel
theorem dX12_isBetween_12 : decode cX12_isBetween 12 = .ok (.iand, 1) := by decide +kernel
theorem dX12_isBetween_13 : decode cX12_isBetween 13 = .ok (.iconst 1, 1) := by decide +kernel
theorem dX12_isBetween_14 : decode cX12_isBetween 14 = .ok (.if_icmp .ne 24, 3) := by decide +kernel
theorem dX12_isBetween_17 : decode cX12_isBetween 17 = .ok (.aload_n 0, 1) := by decide +kernel
theorem dX12_isBetween_18 : decode cX12_isBetween 18 = .ok (.getfield 318, 3) := by decide +kernel
theorem dX12_isBetween_21 : decode cX12_isBetween 21 = .ok (.aload_n 0, 1) := by decide +kernel
theorem dX12_isBetween_22 : decode cX12_isBetween 22 = .ok (.getfield 35, 3) := by decide +kernel
theorem dX12_isBetween_25 : decode cX12_isBetween 25 = .ok (.iload_n 1, 1) := by decide +kernel
theorem dX12_isBetween_26 : decode cX12_isBetween 26 = .ok (.iaload, 1) := by decide +kernel
theorem dX12_isBetween_27 : decode cX12_isBetween 27 = .ok (.ishr, 1) := by decide +kernel
theorem dX12_isBetween_28 : decode cX12_isBetween 28 = .ok (.iconst 1, 1) := by decide +kernel
theorem dX12_isBetween_29 : decode cX12_isBetween 29 = .ok (.iand, 1) := by decide +kernel
theorem dX12_isBetween_30 : decode cX12_isBetween 30 = .ok (.iconst 1, 1) := by decide +kernel
theorem dX12_isBetween_31 : decode cX12_isBetween 31 = .ok (.if_icmp .ne 7, 3) := by decide +kernel
theorem dX12_isBetween_34 : decode cX12_isBetween 34 = .ok (.iconst 1, 1) := by decide +kernel
theorem dX12_isBetween_35 : decode cX12_isBetween 35 = .ok (.goto 4, 3) := by decide +kernel
theorem dX12_isBetween_38 : decode cX12_isBetween 38 = .ok (.iconst 0, 1) := by decide +kernel
theorem dX12_isBetween_39 : decode cX12_isBetween 39 = .ok (.ireturn, 1) := by decide +kernel
abbrev o_X12_isBetween : Type := Int32
def f_X12_isBetween (S : wd_W) (p1 : Int32) : Option o_X12_isBetween :=
gd (okx p1 13) <|
if (((S.1 38) >>> (((S.2.2.1 8) p1.toNatClampNeg) &&& 31)) &&& (1 : Int32)) = (1 : Int32) then (
gd (okx p1 13) <|
if (((S.1 38) >>> (((S.2.2.1 9) p1.toNatClampNeg) &&& 31)) &&& (1 : Int32)) = (1 : Int32) then (
some (1 : Int32)) else (
some (0 : Int32))) else (
some (0 : Int32))
set_option maxRecDepth 100000 in
set_option maxHeartbeats 4000000 in
theorem c_X12_isBetween (l : Launch) (D : va_G) (q g : Nat → Nat) (cy : Nat → ClassId) (z : (Nat → Nat) × (Nat → Nat) × Nat) (S : wd_W) (p1 : Int32) (o : o_X12_isBetween) (hf : f_X12_isBetween S p1 = some o) : MX layM l yX12_isBetween cX12_isBetween 2 (some .boolean) ({ frames := 0, cells := 0, slots := 0, locals := 0 } : Room) D q g cy z [.ref (q 0), .int p1] S false (some (.int o)) (wd_o S [] [] [] [] []) 0 0 := by
  refine mx_of (own := RX12) (lc := [(0, .ref (q 0)), (1, .int p1)]) (by decide +kernel) rfl layM_ok (Nat.le_of_ble_eq_true rfl) rfl ?_
  intro X hXl hXq hXz hC hQ
  subst hXl; subst hXq; subst hXz
  unfold f_X12_isBetween at hf
  refine go_aload_n (pc' := 1) hC dX12_isBetween_0 rfl rfl ?_
  refine go_geti (v := (S.1 38)) (pc' := 4) hC 0 38 layM_0 rfl rfl inlX12 (Nat.le_of_ble_eq_true rfl) mw_872 rfl dX12_isBetween_1 rfl rfl ?_
  refine go_aload_n (pc' := 5) hC dX12_isBetween_4 rfl rfl ?_
  refine go_getq (pc' := 8) hC 0 22 layM_0 rfl rfl inlX12 (Nat.le_of_ble_eq_true rfl) mw_187 rfl dX12_isBetween_5 rfl ?_
  refine go_iload_n (pc' := 9) hC dX12_isBetween_8 rfl rfl ?_
  obtain ⟨h1, hf⟩ := gd_e hf
  refine go_iald (f := (S.2.2.1 8)) (pc' := 10) hC 8 layM_8 rfl rfl dX12_isBetween_9 (okx_in h1) rfl ?_
  refine go_ishr (pc' := 11) hC dX12_isBetween_10 rfl ?_
  refine go_iconst (pc' := 12) hC dX12_isBetween_11 ki_1 rfl ?_
  refine go_iand (pc' := 13) hC dX12_isBetween_12 rfl ?_
  refine go_iconst (pc' := 14) hC dX12_isBetween_13 ki_1 rfl ?_
  refine go_icmp_ne (tgt := 38) (pc' := 17) hC dX12_isBetween_14 (by decide) rfl (fun h4 => ?_) (fun h4 => ?_)
  · have hf := ite_f h4 hf
    refine go_iconst (pc' := 39) hC dX12_isBetween_38 ki_0 rfl ?_
    obtain rfl := Option.some.inj hf
    exact go_iret hC hQ dX12_isBetween_39 rfl rfl rfl rfl (fun _ => rfl) rfl rfl
  · have hf := ite_t h4 hf
    refine go_aload_n (pc' := 18) hC dX12_isBetween_17 rfl rfl ?_
    refine go_geti (v := (S.1 38)) (pc' := 21) hC 0 38 layM_0 rfl rfl inlX12 (Nat.le_of_ble_eq_true rfl) mw_872 rfl dX12_isBetween_18 rfl rfl ?_
    refine go_aload_n (pc' := 22) hC dX12_isBetween_21 rfl rfl ?_
    refine go_getq (pc' := 25) hC 0 23 layM_0 rfl rfl inlX12 (Nat.le_of_ble_eq_true rfl) mw_188 rfl dX12_isBetween_22 rfl ?_
    refine go_iload_n (pc' := 26) hC dX12_isBetween_25 rfl rfl ?_
    obtain ⟨h2, hf⟩ := gd_e hf
    refine go_iald (f := (S.2.2.1 9)) (pc' := 27) hC 9 layM_9 rfl rfl dX12_isBetween_26 (okx_in h2) rfl ?_
    refine go_ishr (pc' := 28) hC dX12_isBetween_27 rfl ?_
    refine go_iconst (pc' := 29) hC dX12_isBetween_28 ki_1 rfl ?_
    refine go_iand (pc' := 30) hC dX12_isBetween_29 rfl ?_
    refine go_iconst (pc' := 31) hC dX12_isBetween_30 ki_1 rfl ?_
    refine go_icmp_ne (tgt := 38) (pc' := 34) hC dX12_isBetween_31 (by decide) rfl (fun h3 => ?_) (fun h3 => ?_)
    · have hf := ite_f h3 hf
      refine go_iconst (pc' := 39) hC dX12_isBetween_38 ki_0 rfl ?_
      obtain rfl := Option.some.inj hf
      exact go_iret hC hQ dX12_isBetween_39 rfl rfl rfl rfl (fun _ => rfl) rfl rfl
    · have hf := ite_t h3 hf
      refine go_iconst (pc' := 35) hC dX12_isBetween_34 ki_1 rfl ?_
      refine go_goto (tgt := 39) hC dX12_isBetween_35 (by decide) ?_
      obtain rfl := Option.some.inj hf
      exact go_iret hC hQ dX12_isBetween_39 rfl rfl rfl rfl (fun _ => rfl) rfl rfl
theorem dX12_opens_0 : decode cX12_opens 0 = .ok (.aload_n 0, 1) := by decide +kernel
theorem dX12_opens_1 : decode cX12_opens 1 = .ok (.iconst 0, 1) := by decide +kernel
theorem dX12_opens_2 : decode cX12_opens 2 = .ok (.putfield 318, 3) := by decide +kernel
theorem dX12_opens_5 : decode cX12_opens 5 = .ok (.iconst 0, 1) := by decide +kernel
theorem dX12_opens_6 : decode cX12_opens 6 = .ok (.istore_n 3, 1) := by decide +kernel
theorem dX12_opens_7 : decode cX12_opens 7 = .ok (.iload_n 3, 1) := by decide +kernel
theorem dX12_opens_8 : decode cX12_opens 8 = .ok (.aload_n 0, 1) := by decide +kernel
theorem dX12_opens_9 : decode cX12_opens 9 = .ok (.getfield 276, 3) := by decide +kernel
theorem dX12_opens_12 : decode cX12_opens 12 = .ok (.if_icmp .ge 73, 3) := by decide +kernel
theorem dX12_opens_15 : decode cX12_opens 15 = .ok (.aload_n 0, 1) := by decide +kernel
theorem dX12_opens_16 : decode cX12_opens 16 = .ok (.getfield 54, 3) := by decide +kernel
theorem dX12_opens_19 : decode cX12_opens 19 = .ok (.iload_n 3, 1) := by decide +kernel
theorem dX12_opens_20 : decode cX12_opens 20 = .ok (.iaload, 1) := by decide +kernel
theorem dX12_opens_21 : decode cX12_opens 21 = .ok (.ifCond .lt 17, 3) := by decide +kernel
theorem dX12_opens_24 : decode cX12_opens 24 = .ok (.iload_n 1, 1) := by decide +kernel
theorem dX12_opens_25 : decode cX12_opens 25 = .ok (.aload_n 0, 1) := by decide +kernel
theorem dX12_opens_26 : decode cX12_opens 26 = .ok (.getfield 54, 3) := by decide +kernel
theorem dX12_opens_29 : decode cX12_opens 29 = .ok (.iload_n 3, 1) := by decide +kernel
theorem dX12_opens_30 : decode cX12_opens 30 = .ok (.iaload, 1) := by decide +kernel
theorem dX12_opens_31 : decode cX12_opens 31 = .ok (.ishr, 1) := by decide +kernel
theorem dX12_opens_32 : decode cX12_opens 32 = .ok (.iconst 1, 1) := by decide +kernel
theorem dX12_opens_33 : decode cX12_opens 33 = .ok (.iand, 1) := by decide +kernel
theorem dX12_opens_34 : decode cX12_opens 34 = .ok (.iconst 1, 1) := by decide +kernel
theorem dX12_opens_35 : decode cX12_opens 35 = .ok (.if_icmp .ne 20, 3) := by decide +kernel
theorem dX12_opens_38 : decode cX12_opens 38 = .ok (.aload_n 0, 1) := by decide +kernel
theorem dX12_opens_39 : decode cX12_opens 39 = .ok (.getfield 51, 3) := by decide +kernel
theorem dX12_opens_42 : decode cX12_opens 42 = .ok (.iload_n 3, 1) := by decide +kernel
theorem dX12_opens_43 : decode cX12_opens 43 = .ok (.iaload, 1) := by decide +kernel
theorem dX12_opens_44 : decode cX12_opens 44 = .ok (.iload_n 1, 1) := by decide +kernel
theorem dX12_opens_45 : decode cX12_opens 45 = .ok (.iconst (-1), 1) := by decide +kernel
theorem dX12_opens_46 : decode cX12_opens 46 = .ok (.ixor, 1) := by decide +kernel
theorem dX12_opens_47 : decode cX12_opens 47 = .ok (.iand, 1) := by decide +kernel
theorem dX12_opens_48 : decode cX12_opens 48 = .ok (.ifCond .ne 7, 3) := by decide +kernel
theorem dX12_opens_51 : decode cX12_opens 51 = .ok (.iconst 1, 1) := by decide +kernel
theorem dX12_opens_52 : decode cX12_opens 52 = .ok (.goto 4, 3) := by decide +kernel
theorem dX12_opens_55 : decode cX12_opens 55 = .ok (.iconst 0, 1) := by decide +kernel
theorem dX12_opens_56 : decode cX12_opens 56 = .ok (.istore 4, 2) := by decide +kernel
theorem dX12_opens_58 : decode cX12_opens 58 = .ok (.aload_n 0, 1) := by decide +kernel
theorem dX12_opens_59 : decode cX12_opens 59 = .ok (.dup, 1) := by decide +kernel
theorem dX12_opens_60 : decode cX12_opens 60 = .ok (.getfield 318, 3) := by decide +kernel
theorem dX12_opens_63 : decode cX12_opens 63 = .ok (.iload 4, 2) := by decide +kernel
theorem dX12_opens_65 : decode cX12_opens 65 = .ok (.ifCond .eq 9, 3) := by decide +kernel
theorem dX12_opens_68 : decode cX12_opens 68 = .ok (.iconst 1, 1) := by decide +kernel
theorem dX12_opens_69 : decode cX12_opens 69 = .ok (.iload_n 3, 1) := by decide +kernel
theorem dX12_opens_70 : decode cX12_opens 70 = .ok (.ishl, 1) := by decide +kernel
theorem dX12_opens_71 : decode cX12_opens 71 = .ok (.goto 4, 3) := by decide +kernel
theorem dX12_opens_74 : decode cX12_opens 74 = .ok (.iconst 0, 1) := by decide +kernel
theorem dX12_opens_75 : decode cX12_opens 75 = .ok (.ior, 1) := by decide +kernel
theorem dX12_opens_76 : decode cX12_opens 76 = .ok (.putfield 318, 3) := by decide +kernel
theorem dX12_opens_79 : decode cX12_opens 79 = .ok (.iinc 3 1, 3) := by decide +kernel
theorem dX12_opens_82 : decode cX12_opens 82 = .ok (.goto (-75), 3) := by decide +kernel
theorem dX12_opens_85 : decode cX12_opens 85 = .ok (.aload_n 0, 1) := by decide +kernel
theorem dX12_opens_86 : decode cX12_opens 86 = .ok (.iconst 0, 1) := by decide +kernel
theorem dX12_opens_87 : decode cX12_opens 87 = .ok (.putfield 321, 3) := by decide +kernel
theorem dX12_opens_90 : decode cX12_opens 90 = .ok (.iconst 0, 1) := by decide +kernel
theorem dX12_opens_91 : decode cX12_opens 91 = .ok (.istore_n 3, 1) := by decide +kernel
theorem dX12_opens_92 : decode cX12_opens 92 = .ok (.iload_n 3, 1) := by decide +kernel
theorem dX12_opens_93 : decode cX12_opens 93 = .ok (.aload_n 0, 1) := by decide +kernel
theorem dX12_opens_94 : decode cX12_opens 94 = .ok (.getfield 279, 3) := by decide +kernel
theorem dX12_opens_97 : decode cX12_opens 97 = .ok (.if_icmp .ge 51, 3) := by decide +kernel
theorem dX12_opens_100 : decode cX12_opens 100 = .ok (.iload_n 1, 1) := by decide +kernel
theorem dX12_opens_101 : decode cX12_opens 101 = .ok (.iload_n 3, 1) := by decide +kernel
theorem dX12_opens_102 : decode cX12_opens 102 = .ok (.ishr, 1) := by decide +kernel
theorem dX12_opens_103 : decode cX12_opens 103 = .ok (.iconst 1, 1) := by decide +kernel
theorem dX12_opens_104 : decode cX12_opens 104 = .ok (.iand, 1) := by decide +kernel
theorem dX12_opens_105 : decode cX12_opens 105 = .ok (.iconst 1, 1) := by decide +kernel
theorem dX12_opens_106 : decode cX12_opens 106 = .ok (.if_icmp .ne 36, 3) := by decide +kernel
theorem dX12_opens_109 : decode cX12_opens 109 = .ok (.aload_n 0, 1) := by decide +kernel
theorem dX12_opens_110 : decode cX12_opens 110 = .ok (.getfield 48, 3) := by decide +kernel
theorem dX12_opens_113 : decode cX12_opens 113 = .ok (.iload_n 3, 1) := by decide +kernel
theorem dX12_opens_114 : decode cX12_opens 114 = .ok (.iaload, 1) := by decide +kernel
theorem dX12_opens_115 : decode cX12_opens 115 = .ok (.iload_n 1, 1) := by decide +kernel
theorem dX12_opens_116 : decode cX12_opens 116 = .ok (.iconst (-1), 1) := by decide +kernel
theorem dX12_opens_117 : decode cX12_opens 117 = .ok (.ixor, 1) := by decide +kernel
theorem dX12_opens_118 : decode cX12_opens 118 = .ok (.iand, 1) := by decide +kernel
theorem dX12_opens_119 : decode cX12_opens 119 = .ok (.ifCond .ne 23, 3) := by decide +kernel
theorem dX12_opens_122 : decode cX12_opens 122 = .ok (.aload_n 0, 1) := by decide +kernel
theorem dX12_opens_123 : decode cX12_opens 123 = .ok (.iload_n 3, 1) := by decide +kernel
theorem dX12_opens_124 : decode cX12_opens 124 = .ok (.invokevirtual 324, 3) := by decide +kernel
theorem dX12_opens_127 : decode cX12_opens 127 = .ok (.ifCond .eq 15, 3) := by decide +kernel
theorem dX12_opens_130 : decode cX12_opens 130 = .ok (.aload_n 0, 1) := by decide +kernel
theorem dX12_opens_131 : decode cX12_opens 131 = .ok (.dup, 1) := by decide +kernel
theorem dX12_opens_132 : decode cX12_opens 132 = .ok (.getfield 321, 3) := by decide +kernel
theorem dX12_opens_135 : decode cX12_opens 135 = .ok (.iconst 1, 1) := by decide +kernel
theorem dX12_opens_136 : decode cX12_opens 136 = .ok (.iload_n 3, 1) := by decide +kernel
theorem dX12_opens_137 : decode cX12_opens 137 = .ok (.ishl, 1) := by decide +kernel
theorem dX12_opens_138 : decode cX12_opens 138 = .ok (.ior, 1) := by decide +kernel
theorem dX12_opens_139 : decode cX12_opens 139 = .ok (.putfield 321, 3) := by decide +kernel
theorem dX12_opens_142 : decode cX12_opens 142 = .ok (.iinc 3 1, 3) := by decide +kernel
theorem dX12_opens_145 : decode cX12_opens 145 = .ok (.goto (-53), 3) := by decide +kernel
theorem dX12_opens_148 : decode cX12_opens 148 = .ok (.iload_n 2, 1) := by decide +kernel
theorem dX12_opens_149 : decode cX12_opens 149 = .ok (.ifCond .eq 29, 3) := by decide +kernel
theorem dX12_opens_152 : decode cX12_opens 152 = .ok (.aload_n 0, 1) := by decide +kernel
theorem dX12_opens_153 : decode cX12_opens 153 = .ok (.aload_n 0, 1) := by decide +kernel
theorem dX12_opens_154 : decode cX12_opens 154 = .ok (.getfield 279, 3) := by decide +kernel
theorem dX12_opens_157 : decode cX12_opens 157 = .ok (.invokevirtual 324, 3) := by decide +kernel
theorem dX12_opens_160 : decode cX12_opens 160 = .ok (.ifCond .eq 18, 3) := by decide +kernel
theorem dX12_opens_163 : decode cX12_opens 163 = .ok (.aload_n 0, 1) := by decide +kernel
theorem dX12_opens_164 : decode cX12_opens 164 = .ok (.dup, 1) := by decide +kernel
theorem dX12_opens_165 : decode cX12_opens 165 = .ok (.getfield 321, 3) := by decide +kernel
theorem dX12_opens_168 : decode cX12_opens 168 = .ok (.iconst 1, 1) := by decide +kernel
theorem dX12_opens_169 : decode cX12_opens 169 = .ok (.aload_n 0, 1) := by decide +kernel
theorem dX12_opens_170 : decode cX12_opens 170 = .ok (.getfield 279, 3) := by decide +kernel
theorem dX12_opens_173 : decode cX12_opens 173 = .ok (.ishl, 1) := by decide +kernel
theorem dX12_opens_174 : decode cX12_opens 174 = .ok (.ior, 1) := by decide +kernel
theorem dX12_opens_175 : decode cX12_opens 175 = .ok (.putfield 321, 3) := by decide +kernel
theorem dX12_opens_178 : decode cX12_opens 178 = .ok (.return_, 1) := by decide +kernel
abbrev o_X12_opens : Type := Int32 × Int32
def f_X12_opens_L92 (S : wd_W) (p1 : Int32) (x1 : Int32) (k148_4 : (Int32) → (Option o_X12_opens)) (r11 : (Int32) → (Int32) → (Option o_X12_opens)) (x9 : Int32) (x10 : Int32) : Option o_X12_opens :=
if (S.1 21) ≤ x9 then (
k148_4 x10) else (
lk (fun x12 =>
r11 (x9 + (1 : Int32)) x12) fun k142_13 =>
if ((p1 >>> (x9 &&& 31)) &&& (1 : Int32)) = (1 : Int32) then (
gd (okx x9 13) <|
if (((S.2.2.1 13) x9.toNatClampNeg) &&& (p1 ^^^ (-1 : Int32))) = 0 then (
bd (f_X12_isBetween (wd_o S [(38, x1), (39, x10)] [] [] [] []) x9) fun o15 =>
if o15 = 0 then (
k142_13 x10) else (
lz (x10 ||| ((1 : Int32) <<< (x9 &&& 31))) fun x16 =>
k142_13 x16)) else (
k142_13 x10)) else (
k142_13 x10))
def f_X12_opens_L7 (S : wd_W) (p1 : Int32) (k85_2 : (Int32) → (Option o_X12_opens)) (r24 : (Int32) → (Int32) → (Option o_X12_opens)) (x22 : Int32) (x23 : Int32) : Option o_X12_opens :=
if (S.1 20) ≤ x22 then (
k85_2 x23) else (
gd (okx x22 10) <|
lk (fun x26 =>
lk (fun x28 x29 =>
lz (x29 ||| x28) fun x31 =>
r24 (x22 + (1 : Int32)) x31) fun k75_30 =>
if x26 = 0 then (
k75_30 (0 : Int32) x23) else (
k75_30 ((1 : Int32) <<< (x22 &&& 31)) x23)) fun k56_27 =>
lk (k56_27 (0 : Int32)) fun k55_33 =>
lk (gd (okx x22 10) <|
if (((S.2.2.1 14) x22.toNatClampNeg) &&& (p1 ^^^ (-1 : Int32))) = 0 then (
k56_27 (1 : Int32)) else (
k55_33)) fun k38_34 =>
if ((S.2.2.1 15) x22.toNatClampNeg) < 0 then (
k38_34) else (
gd (okx x22 10) <|
if ((p1 >>> (((S.2.2.1 15) x22.toNatClampNeg) &&& 31)) &&& (1 : Int32)) = (1 : Int32) then (
k38_34) else (
k55_33)))
def f_X12_opens (S : wd_W) (p1 : Int32) (p2 : Int32) : Option o_X12_opens :=
lk (fun x1 =>
lk (fun x3 =>
if p2 = 0 then (
some (x1, x3)) else (
bd (f_X12_isBetween (wd_o S [(38, x1), (39, x3)] [] [] [] []) (S.1 21)) fun o5 =>
if o5 = 0 then (
some (x1, x3)) else (
lz (x3 ||| ((1 : Int32) <<< ((S.1 21) &&& 31))) fun x6 =>
some (x1, x6)))) fun k148_4 =>
it2 (f_X12_opens_L92 S p1 x1 k148_4) fuel (0 : Int32) (0 : Int32)) fun k85_2 =>
it2 (f_X12_opens_L7 S p1 k85_2) fuel (0 : Int32) (0 : Int32)
set_option maxRecDepth 100000 in
set_option maxHeartbeats 4000000 in
theorem c_X12_opens (l : Launch) (D : va_G) (q g : Nat → Nat) (cy : Nat → ClassId) (z : (Nat → Nat) × (Nat → Nat) × Nat) (S : wd_W) (p1 : Int32) (p2 : Int32) (o : o_X12_opens) (hf : f_X12_opens S p1 p2 = some o) : MX layM l yX12_opens cX12_opens 5 none ({ frames := 1, cells := 0, slots := 0, locals := 21 } : Room) D q g cy z [.ref (q 0), .int p1, .int p2] S false (none) (wd_o S [(38, o.1), (39, o.2)] [] [] [] []) 0 0 := by
  refine mx_of (own := RX12) (lc := [(0, .ref (q 0)), (1, .int p1), (2, .int p2)]) (by decide +kernel) rfl layM_ok (Nat.le_of_ble_eq_true rfl) rfl ?_
  intro X hXl hXq hXz hC hQ
  subst hXl; subst hXq; subst hXz
  unfold f_X12_opens at hf
  refine go_keys (L1 := [(38, (S.1 38)), (39, (S.1 39))]) (L2 := []) (L3 := []) (L4 := []) (L5 := []) [38, 39] [] [] [] [] rfl rfl rfl rfl rfl ?_
  refine go_aload_n (pc' := 1) hC dX12_opens_0 rfl rfl ?_
  refine go_iconst (pc' := 2) hC dX12_opens_1 ki_0 rfl ?_
  refine go_puti (L1' := [(38, (0 : Int32)), (39, (S.1 39))]) (pc' := 5) hC 0 38 layM_0 rfl rfl inlX12 tyX12_ok nmX12 (Nat.le_of_ble_eq_true rfl) mw_872 rfl rfl rfl rfl dX12_opens_2 rfl rfl rfl ?_
  refine go_iconst (pc' := 6) hC dX12_opens_5 ki_0 rfl ?_
  refine go_istore_n (lc' := [(0, .ref (x_q X 0)), (1, .int p1), (2, .int p2), (3, .int (0 : Int32))]) (pc' := 7) hC dX12_opens_6 (Nat.le_of_ble_eq_true rfl) rfl rfl ?_
  obtain ⟨k85_2, hk85_2, hf⟩ := lk_e1 hf
  have jk85_2 : ∀ (x1 : Int32), k85_2 x1 = some o → Go X layM S 85 [(0, .ref (x_q X 0)), (1, .int p1), (2, .int p2)] [] g [(38, x1), (39, (S.1 39))] [] [] [] [] 0 0 := by
    intro x1 hf
    have hf := hk85_2 x1 hf
    clear hk85_2
    refine go_aload_n (pc' := 86) hC dX12_opens_85 rfl rfl ?_
    refine go_iconst (pc' := 87) hC dX12_opens_86 ki_0 rfl ?_
    refine go_puti (L1' := [(38, x1), (39, (0 : Int32))]) (pc' := 90) hC 0 39 layM_0 rfl rfl inlX12 tyX12_ok nmX12 (Nat.le_of_ble_eq_true rfl) mw_873 rfl rfl rfl rfl dX12_opens_87 rfl rfl rfl ?_
    refine go_iconst (pc' := 91) hC dX12_opens_90 ki_0 rfl ?_
    refine go_istore_n (lc' := [(0, .ref (x_q X 0)), (1, .int p1), (2, .int p2), (3, .int (0 : Int32))]) (pc' := 92) hC dX12_opens_91 (Nat.le_of_ble_eq_true rfl) rfl rfl ?_
    obtain ⟨k148_4, hk148_4, hf⟩ := lk_e1 hf
    have jk148_4 : ∀ (x3 : Int32), k148_4 x3 = some o → Go X layM S 148 [(0, .ref (x_q X 0)), (2, .int p2)] [] g [(38, x1), (39, x3)] [] [] [] [] 0 0 := by
      intro x3 hf
      have hf := hk148_4 x3 hf
      clear hk148_4
      refine go_iload_n (pc' := 149) hC dX12_opens_148 rfl rfl ?_
      refine go_if_eq (tgt := 178) (pc' := 152) hC dX12_opens_149 (by decide) rfl (fun h8 => ?_) (fun h8 => ?_)
      · have hf := ite_t h8 hf
        obtain rfl := Option.some.inj hf
        exact go_vret hC hQ dX12_opens_178 rfl rfl rfl (fun _ => rfl) rfl rfl
      · have hf := ite_f h8 hf
        refine go_aload_n (pc' := 153) hC dX12_opens_152 rfl rfl ?_
        refine go_aload_n (pc' := 154) hC dX12_opens_153 rfl rfl ?_
        refine go_geti (v := (S.1 21)) (pc' := 157) hC 0 21 layM_0 rfl rfl inlX12 (Nat.le_of_ble_eq_true rfl) mw_247 rfl dX12_opens_154 rfl rfl ?_
        obtain ⟨o5, ho5, hf⟩ := bd_e hf
        refine go_callV0 (pc' := 160) (As := [.int (S.1 21)]) (st := []) (st' := [.int o5])    (b := 0) hC dX12_opens_157 ⟨mw_874, mw_877, mw_5, yd_yX12_isBetween, yp_yX12_isBetween, Nat.le_of_ble_eq_true rfl, Nat.le_of_ble_eq_true rfl, (Nat.le_of_ble_eq_true rfl), (Nat.le_of_ble_eq_true rfl)⟩ mw_875 mw_876 layM_0 rfl rfl rfl (Nat.le_of_ble_eq_true rfl) (c_X12_isBetween (x_l X) (x_D X) (x_q X) g (x_cy X) (x_z X) _ (S.1 21) o5 ho5) rfl rfl ?_
        refine go_if_eq (tgt := 178) (pc' := 163) hC dX12_opens_160 (by decide) rfl (fun h7 => ?_) (fun h7 => ?_)
        · have hf := ite_t h7 hf
          obtain rfl := Option.some.inj hf
          exact go_vret hC hQ dX12_opens_178 rfl rfl rfl (fun _ => rfl) rfl rfl
        · have hf := ite_f h7 hf
          refine go_aload_n (pc' := 164) hC dX12_opens_163 rfl rfl ?_
          refine go_dup (pc' := 165) hC dX12_opens_164 rfl rfl ?_
          refine go_geti (v := x3) (pc' := 168) hC 0 39 layM_0 rfl rfl inlX12 (Nat.le_of_ble_eq_true rfl) mw_873 rfl dX12_opens_165 rfl rfl ?_
          refine go_iconst (pc' := 169) hC dX12_opens_168 ki_1 rfl ?_
          refine go_aload_n (pc' := 170) hC dX12_opens_169 rfl rfl ?_
          refine go_geti (v := (S.1 21)) (pc' := 173) hC 0 21 layM_0 rfl rfl inlX12 (Nat.le_of_ble_eq_true rfl) mw_247 rfl dX12_opens_170 rfl rfl ?_
          refine go_ishl (pc' := 174) hC dX12_opens_173 rfl ?_
          refine go_ior (pc' := 175) hC dX12_opens_174 rfl ?_
          refine go_namei (fun x6 hx => ?_)
          have hf := lz_r hx hf
          clear hx
          refine go_puti (L1' := [(38, x1), (39, x6)]) (pc' := 178) hC 0 39 layM_0 rfl rfl inlX12 tyX12_ok nmX12 (Nat.le_of_ble_eq_true rfl) mw_873 rfl rfl rfl rfl dX12_opens_175 rfl rfl rfl ?_
          obtain rfl := Option.some.inj hf
          exact go_vret hC hQ dX12_opens_178 rfl rfl rfl (fun _ => rfl) rfl rfl
    clear hk148_4
    have l92_21 : ∀ (nn : Nat) (x9 : Int32) (x10 : Int32), it2 (f_X12_opens_L92 S p1 x1 k148_4) nn x9 x10 = some o → Go X layM S 92 [(0, .ref (x_q X 0)), (1, .int p1), (2, .int p2), (3, .int x9)] [] g [(38, x1), (39, x10)] [] [] [] [] 0 0 := by
      intro nn
      induction nn with
      | zero =>
        intro x9 x10 hf
        exact none_no hf
      | succ nn ih =>
        intro x9 x10 hf
        have hf : f_X12_opens_L92 S p1 x1 k148_4 (it2 (f_X12_opens_L92 S p1 x1 k148_4) nn) x9 x10 = some o := hf
        generalize it2 (f_X12_opens_L92 S p1 x1 k148_4) nn = r11 at ih hf
        unfold f_X12_opens_L92 at hf
        refine go_iload_n (pc' := 93) hC dX12_opens_92 rfl rfl ?_
        refine go_aload_n (pc' := 94) hC dX12_opens_93 rfl rfl ?_
        refine go_geti (v := (S.1 21)) (pc' := 97) hC 0 21 layM_0 rfl rfl inlX12 (Nat.le_of_ble_eq_true rfl) mw_247 rfl dX12_opens_94 rfl rfl ?_
        refine go_icmp_ge (tgt := 148) (pc' := 100) hC dX12_opens_97 (by decide) rfl (fun h20 => ?_) (fun h20 => ?_)
        · have hf := ite_t h20 hf
          refine go_sub [0, 2] rfl ?_
          exact jk148_4 x10 hf
        · have hf := ite_f h20 hf
          refine go_iload_n (pc' := 101) hC dX12_opens_100 rfl rfl ?_
          refine go_iload_n (pc' := 102) hC dX12_opens_101 rfl rfl ?_
          refine go_ishr (pc' := 103) hC dX12_opens_102 rfl ?_
          refine go_iconst (pc' := 104) hC dX12_opens_103 ki_1 rfl ?_
          refine go_iand (pc' := 105) hC dX12_opens_104 rfl ?_
          refine go_iconst (pc' := 106) hC dX12_opens_105 ki_1 rfl ?_
          obtain ⟨k142_13, hk142_13, hf⟩ := lk_e1 hf
          have jk142_13 : ∀ (x12 : Int32), k142_13 x12 = some o → Go X layM S 142 [(0, .ref (x_q X 0)), (1, .int p1), (2, .int p2), (3, .int x9)] [] g [(38, x1), (39, x12)] [] [] [] [] 0 0 := by
            intro x12 hf
            have hf := hk142_13 x12 hf
            clear hk142_13
            refine go_iinc (lc' := [(0, .ref (x_q X 0)), (1, .int p1), (2, .int p2), (3, .int (x9 + (1 : Int32)))]) (pc' := 145) hC dX12_opens_142 rfl ki_1 (Nat.le_of_ble_eq_true rfl) rfl rfl ?_
            refine go_goto (tgt := 92) hC dX12_opens_145 (by decide) ?_
            exact ih (x9 + (1 : Int32)) x12 hf
          clear hk142_13
          refine go_icmp_ne (tgt := 142) (pc' := 109) hC dX12_opens_106 (by decide) rfl (fun h19 => ?_) (fun h19 => ?_)
          · have hf := ite_f h19 hf
            exact jk142_13 x10 hf
          · have hf := ite_t h19 hf
            refine go_aload_n (pc' := 110) hC dX12_opens_109 rfl rfl ?_
            refine go_getq (pc' := 113) hC 0 27 layM_0 rfl rfl inlX12 (Nat.le_of_ble_eq_true rfl) mw_193 rfl dX12_opens_110 rfl ?_
            refine go_iload_n (pc' := 114) hC dX12_opens_113 rfl rfl ?_
            obtain ⟨h14, hf⟩ := gd_e hf
            refine go_iald (f := (S.2.2.1 13)) (pc' := 115) hC 13 layM_13 rfl rfl dX12_opens_114 (okx_in h14) rfl ?_
            refine go_iload_n (pc' := 116) hC dX12_opens_115 rfl rfl ?_
            refine go_iconst (pc' := 117) hC dX12_opens_116 ki_m1 rfl ?_
            refine go_ixor (pc' := 118) hC dX12_opens_117 rfl ?_
            refine go_iand (pc' := 119) hC dX12_opens_118 rfl ?_
            refine go_if_ne (tgt := 142) (pc' := 122) hC dX12_opens_119 (by decide) rfl (fun h18 => ?_) (fun h18 => ?_)
            · have hf := ite_f h18 hf
              exact jk142_13 x10 hf
            · have hf := ite_t h18 hf
              refine go_aload_n (pc' := 123) hC dX12_opens_122 rfl rfl ?_
              refine go_iload_n (pc' := 124) hC dX12_opens_123 rfl rfl ?_
              obtain ⟨o15, ho15, hf⟩ := bd_e hf
              refine go_callV0 (pc' := 127) (As := [.int x9]) (st := []) (st' := [.int o15])    (b := 0) hC dX12_opens_124 ⟨mw_874, mw_877, mw_5, yd_yX12_isBetween, yp_yX12_isBetween, Nat.le_of_ble_eq_true rfl, Nat.le_of_ble_eq_true rfl, (Nat.le_of_ble_eq_true rfl), (Nat.le_of_ble_eq_true rfl)⟩ mw_875 mw_876 layM_0 rfl rfl rfl (Nat.le_of_ble_eq_true rfl) (c_X12_isBetween (x_l X) (x_D X) (x_q X) g (x_cy X) (x_z X) _ x9 o15 ho15) rfl rfl ?_
              refine go_if_eq (tgt := 142) (pc' := 130) hC dX12_opens_127 (by decide) rfl (fun h17 => ?_) (fun h17 => ?_)
              · have hf := ite_t h17 hf
                exact jk142_13 x10 hf
              · have hf := ite_f h17 hf
                refine go_aload_n (pc' := 131) hC dX12_opens_130 rfl rfl ?_
                refine go_dup (pc' := 132) hC dX12_opens_131 rfl rfl ?_
                refine go_geti (v := x10) (pc' := 135) hC 0 39 layM_0 rfl rfl inlX12 (Nat.le_of_ble_eq_true rfl) mw_873 rfl dX12_opens_132 rfl rfl ?_
                refine go_iconst (pc' := 136) hC dX12_opens_135 ki_1 rfl ?_
                refine go_iload_n (pc' := 137) hC dX12_opens_136 rfl rfl ?_
                refine go_ishl (pc' := 138) hC dX12_opens_137 rfl ?_
                refine go_ior (pc' := 139) hC dX12_opens_138 rfl ?_
                refine go_namei (fun x16 hx => ?_)
                have hf := lz_r hx hf
                clear hx
                refine go_puti (L1' := [(38, x1), (39, x16)]) (pc' := 142) hC 0 39 layM_0 rfl rfl inlX12 tyX12_ok nmX12 (Nat.le_of_ble_eq_true rfl) mw_873 rfl rfl rfl rfl dX12_opens_139 rfl rfl rfl ?_
                exact jk142_13 x16 hf
    exact l92_21 fuel (0 : Int32) (0 : Int32) hf
  clear hk85_2
  have l7_41 : ∀ (nn : Nat) (x22 : Int32) (x23 : Int32), it2 (f_X12_opens_L7 S p1 k85_2) nn x22 x23 = some o → Go X layM S 7 [(0, .ref (x_q X 0)), (1, .int p1), (2, .int p2), (3, .int x22)] [] g [(38, x23), (39, (S.1 39))] [] [] [] [] 0 0 := by
    intro nn
    induction nn with
    | zero =>
      intro x22 x23 hf
      exact none_no hf
    | succ nn ih =>
      intro x22 x23 hf
      have hf : f_X12_opens_L7 S p1 k85_2 (it2 (f_X12_opens_L7 S p1 k85_2) nn) x22 x23 = some o := hf
      generalize it2 (f_X12_opens_L7 S p1 k85_2) nn = r24 at ih hf
      unfold f_X12_opens_L7 at hf
      refine go_iload_n (pc' := 8) hC dX12_opens_7 rfl rfl ?_
      refine go_aload_n (pc' := 9) hC dX12_opens_8 rfl rfl ?_
      refine go_geti (v := (S.1 20)) (pc' := 12) hC 0 20 layM_0 rfl rfl inlX12 (Nat.le_of_ble_eq_true rfl) mw_246 rfl dX12_opens_9 rfl rfl ?_
      refine go_icmp_ge (tgt := 85) (pc' := 15) hC dX12_opens_12 (by decide) rfl (fun h40 => ?_) (fun h40 => ?_)
      · have hf := ite_t h40 hf
        refine go_sub [0, 1, 2] rfl ?_
        exact jk85_2 x23 hf
      · have hf := ite_f h40 hf
        refine go_aload_n (pc' := 16) hC dX12_opens_15 rfl rfl ?_
        refine go_getq (pc' := 19) hC 0 29 layM_0 rfl rfl inlX12 (Nat.le_of_ble_eq_true rfl) mw_195 rfl dX12_opens_16 rfl ?_
        refine go_iload_n (pc' := 20) hC dX12_opens_19 rfl rfl ?_
        obtain ⟨h25, hf⟩ := gd_e hf
        refine go_iald (f := (S.2.2.1 15)) (pc' := 21) hC 15 layM_15 rfl rfl dX12_opens_20 (okx_in h25) rfl ?_
        obtain ⟨k56_27, hk56_27, hf⟩ := lk_e1 hf
        have jk56_27 : ∀ (x26 : Int32), k56_27 x26 = some o → Go X layM S 56 [(0, .ref (x_q X 0)), (1, .int p1), (2, .int p2), (3, .int x22)] [.int x26] g [(38, x23), (39, (S.1 39))] [] [] [] [] 0 0 := by
          intro x26 hf
          have hf := hk56_27 x26 hf
          clear hk56_27
          refine go_istore (lc' := [(0, .ref (x_q X 0)), (1, .int p1), (2, .int p2), (3, .int x22), (4, .int x26)]) (pc' := 58) hC dX12_opens_56 (Nat.le_of_ble_eq_true rfl) rfl rfl ?_
          refine go_aload_n (pc' := 59) hC dX12_opens_58 rfl rfl ?_
          refine go_dup (pc' := 60) hC dX12_opens_59 rfl rfl ?_
          refine go_geti (v := x23) (pc' := 63) hC 0 38 layM_0 rfl rfl inlX12 (Nat.le_of_ble_eq_true rfl) mw_872 rfl dX12_opens_60 rfl rfl ?_
          refine go_iload (pc' := 65) hC dX12_opens_63 rfl rfl ?_
          obtain ⟨k75_30, hk75_30, hf⟩ := lk_e2 hf
          have jk75_30 : ∀ (x28 : Int32) (x29 : Int32), k75_30 x28 x29 = some o → Go X layM S 75 [(0, .ref (x_q X 0)), (1, .int p1), (2, .int p2), (3, .int x22)] [.int x28, .int x29, .ref (x_q X 0)] g [(38, x23), (39, (S.1 39))] [] [] [] [] 0 0 := by
            intro x28 x29 hf
            have hf := hk75_30 x28 x29 hf
            clear hk75_30
            refine go_ior (pc' := 76) hC dX12_opens_75 rfl ?_
            refine go_namei (fun x31 hx => ?_)
            have hf := lz_r hx hf
            clear hx
            refine go_puti (L1' := [(38, x31), (39, (S.1 39))]) (pc' := 79) hC 0 38 layM_0 rfl rfl inlX12 tyX12_ok nmX12 (Nat.le_of_ble_eq_true rfl) mw_872 rfl rfl rfl rfl dX12_opens_76 rfl rfl rfl ?_
            refine go_iinc (lc' := [(0, .ref (x_q X 0)), (1, .int p1), (2, .int p2), (3, .int (x22 + (1 : Int32)))]) (pc' := 82) hC dX12_opens_79 rfl ki_1 (Nat.le_of_ble_eq_true rfl) rfl rfl ?_
            refine go_goto (tgt := 7) hC dX12_opens_82 (by decide) ?_
            exact ih (x22 + (1 : Int32)) x31 hf
          clear hk75_30
          refine go_if_eq (tgt := 74) (pc' := 68) hC dX12_opens_65 (by decide) rfl (fun h32 => ?_) (fun h32 => ?_)
          · have hf := ite_t h32 hf
            refine go_iconst (pc' := 75) hC dX12_opens_74 ki_0 rfl ?_
            refine go_sub [0, 1, 2, 3] rfl ?_
            exact jk75_30 (0 : Int32) x23 hf
          · have hf := ite_f h32 hf
            refine go_iconst (pc' := 69) hC dX12_opens_68 ki_1 rfl ?_
            refine go_iload_n (pc' := 70) hC dX12_opens_69 rfl rfl ?_
            refine go_ishl (pc' := 71) hC dX12_opens_70 rfl ?_
            refine go_goto (tgt := 75) hC dX12_opens_71 (by decide) ?_
            refine go_sub [0, 1, 2, 3] rfl ?_
            exact jk75_30 ((1 : Int32) <<< (x22 &&& 31)) x23 hf
        clear hk56_27
        obtain ⟨k55_33, hk55_33, hf⟩ := lk_e0 hf
        have jk55_33 : ∀ (_ : Unit), k55_33 = some o → Go X layM S 55 [(0, .ref (x_q X 0)), (1, .int p1), (2, .int p2), (3, .int x22)] [] g [(38, x23), (39, (S.1 39))] [] [] [] [] 0 0 := by
          intro _ hf
          have hf := hk55_33 hf
          clear hk55_33
          refine go_iconst (pc' := 56) hC dX12_opens_55 ki_0 rfl ?_
          exact jk56_27 (0 : Int32) hf
        clear hk55_33
        obtain ⟨k38_34, hk38_34, hf⟩ := lk_e0 hf
        have jk38_34 : ∀ (_ : Unit), k38_34 = some o → Go X layM S 38 [(0, .ref (x_q X 0)), (1, .int p1), (2, .int p2), (3, .int x22)] [] g [(38, x23), (39, (S.1 39))] [] [] [] [] 0 0 := by
          intro _ hf
          have hf := hk38_34 hf
          clear hk38_34
          refine go_aload_n (pc' := 39) hC dX12_opens_38 rfl rfl ?_
          refine go_getq (pc' := 42) hC 0 28 layM_0 rfl rfl inlX12 (Nat.le_of_ble_eq_true rfl) mw_194 rfl dX12_opens_39 rfl ?_
          refine go_iload_n (pc' := 43) hC dX12_opens_42 rfl rfl ?_
          obtain ⟨h35, hf⟩ := gd_e hf
          refine go_iald (f := (S.2.2.1 14)) (pc' := 44) hC 14 layM_14 rfl rfl dX12_opens_43 (okx_in h35) rfl ?_
          refine go_iload_n (pc' := 45) hC dX12_opens_44 rfl rfl ?_
          refine go_iconst (pc' := 46) hC dX12_opens_45 ki_m1 rfl ?_
          refine go_ixor (pc' := 47) hC dX12_opens_46 rfl ?_
          refine go_iand (pc' := 48) hC dX12_opens_47 rfl ?_
          refine go_if_ne (tgt := 55) (pc' := 51) hC dX12_opens_48 (by decide) rfl (fun h36 => ?_) (fun h36 => ?_)
          · have hf := ite_f h36 hf
            exact jk55_33 () hf
          · have hf := ite_t h36 hf
            refine go_iconst (pc' := 52) hC dX12_opens_51 ki_1 rfl ?_
            refine go_goto (tgt := 56) hC dX12_opens_52 (by decide) ?_
            exact jk56_27 (1 : Int32) hf
        clear hk38_34
        refine go_if_lt (tgt := 38) (pc' := 24) hC dX12_opens_21 (by decide) rfl (fun h39 => ?_) (fun h39 => ?_)
        · have hf := ite_t h39 hf
          exact jk38_34 () hf
        · have hf := ite_f h39 hf
          refine go_iload_n (pc' := 25) hC dX12_opens_24 rfl rfl ?_
          refine go_aload_n (pc' := 26) hC dX12_opens_25 rfl rfl ?_
          refine go_getq (pc' := 29) hC 0 29 layM_0 rfl rfl inlX12 (Nat.le_of_ble_eq_true rfl) mw_195 rfl dX12_opens_26 rfl ?_
          refine go_iload_n (pc' := 30) hC dX12_opens_29 rfl rfl ?_
          obtain ⟨h37, hf⟩ := gd_e hf
          refine go_iald (f := (S.2.2.1 15)) (pc' := 31) hC 15 layM_15 rfl rfl dX12_opens_30 (okx_in h37) rfl ?_
          refine go_ishr (pc' := 32) hC dX12_opens_31 rfl ?_
          refine go_iconst (pc' := 33) hC dX12_opens_32 ki_1 rfl ?_
          refine go_iand (pc' := 34) hC dX12_opens_33 rfl ?_
          refine go_iconst (pc' := 35) hC dX12_opens_34 ki_1 rfl ?_
          refine go_icmp_ne (tgt := 55) (pc' := 38) hC dX12_opens_35 (by decide) rfl (fun h38 => ?_) (fun h38 => ?_)
          · have hf := ite_f h38 hf
            exact jk55_33 () hf
          · have hf := ite_t h38 hf
            exact jk38_34 () hf
  exact l7_41 fuel (0 : Int32) (0 : Int32) hf
theorem dX12_isOpen_0 : decode cX12_isOpen 0 = .ok (.aload_n 0, 1) := by decide +kernel
theorem dX12_isOpen_1 : decode cX12_isOpen 1 = .ok (.getfield 321, 3) := by decide +kernel
theorem dX12_isOpen_4 : decode cX12_isOpen 4 = .ok (.iload_n 1, 1) := by decide +kernel
theorem dX12_isOpen_5 : decode cX12_isOpen 5 = .ok (.ishr, 1) := by decide +kernel
theorem dX12_isOpen_6 : decode cX12_isOpen 6 = .ok (.iconst 1, 1) := by decide +kernel
theorem dX12_isOpen_7 : decode cX12_isOpen 7 = .ok (.iand, 1) := by decide +kernel
theorem dX12_isOpen_8 : decode cX12_isOpen 8 = .ok (.iconst 1, 1) := by decide +kernel
theorem dX12_isOpen_9 : decode cX12_isOpen 9 = .ok (.if_icmp .ne 7, 3) := by decide +kernel
theorem dX12_isOpen_12 : decode cX12_isOpen 12 = .ok (.iconst 1, 1) := by decide +kernel
theorem dX12_isOpen_13 : decode cX12_isOpen 13 = .ok (.goto 4, 3) := by decide +kernel
theorem dX12_isOpen_16 : decode cX12_isOpen 16 = .ok (.iconst 0, 1) := by decide +kernel
theorem dX12_isOpen_17 : decode cX12_isOpen 17 = .ok (.ireturn, 1) := by decide +kernel
abbrev o_X12_isOpen : Type := Int32
def f_X12_isOpen (S : wd_W) (p1 : Int32) : Option o_X12_isOpen :=
if (((S.1 39) >>> (p1 &&& 31)) &&& (1 : Int32)) = (1 : Int32) then (
some (1 : Int32)) else (
some (0 : Int32))
set_option maxRecDepth 100000 in
set_option maxHeartbeats 4000000 in
theorem c_X12_isOpen (l : Launch) (D : va_G) (q g : Nat → Nat) (cy : Nat → ClassId) (z : (Nat → Nat) × (Nat → Nat) × Nat) (S : wd_W) (p1 : Int32) (o : o_X12_isOpen) (hf : f_X12_isOpen S p1 = some o) : MX layM l yX12_isOpen cX12_isOpen 2 (some .boolean) ({ frames := 0, cells := 0, slots := 0, locals := 0 } : Room) D q g cy z [.ref (q 0), .int p1] S false (some (.int o)) (wd_o S [] [] [] [] []) 0 0 := by
  refine mx_of (own := RX12) (lc := [(0, .ref (q 0)), (1, .int p1)]) (by decide +kernel) rfl layM_ok (Nat.le_of_ble_eq_true rfl) rfl ?_
  intro X hXl hXq hXz hC hQ
  subst hXl; subst hXq; subst hXz
  unfold f_X12_isOpen at hf
  refine go_aload_n (pc' := 1) hC dX12_isOpen_0 rfl rfl ?_
  refine go_geti (v := (S.1 39)) (pc' := 4) hC 0 39 layM_0 rfl rfl inlX12 (Nat.le_of_ble_eq_true rfl) mw_873 rfl dX12_isOpen_1 rfl rfl ?_
  refine go_iload_n (pc' := 5) hC dX12_isOpen_4 rfl rfl ?_
  refine go_ishr (pc' := 6) hC dX12_isOpen_5 rfl ?_
  refine go_iconst (pc' := 7) hC dX12_isOpen_6 ki_1 rfl ?_
  refine go_iand (pc' := 8) hC dX12_isOpen_7 rfl ?_
  refine go_iconst (pc' := 9) hC dX12_isOpen_8 ki_1 rfl ?_
  refine go_icmp_ne (tgt := 16) (pc' := 12) hC dX12_isOpen_9 (by decide) rfl (fun h1 => ?_) (fun h1 => ?_)
  · have hf := ite_f h1 hf
    refine go_iconst (pc' := 17) hC dX12_isOpen_16 ki_0 rfl ?_
    obtain rfl := Option.some.inj hf
    exact go_iret hC hQ dX12_isOpen_17 rfl rfl rfl rfl (fun _ => rfl) rfl rfl
  · have hf := ite_t h1 hf
    refine go_iconst (pc' := 13) hC dX12_isOpen_12 ki_1 rfl ?_
    refine go_goto (tgt := 17) hC dX12_isOpen_13 (by decide) ?_
    obtain rfl := Option.some.inj hf
    exact go_iret hC hQ dX12_isOpen_17 rfl rfl rfl rfl (fun _ => rfl) rfl rfl
theorem dX12_ledTo_0 : decode cX12_ledTo 0 = .ok (.aload_n 0, 1) := by decide +kernel
theorem dX12_ledTo_1 : decode cX12_ledTo 1 = .ok (.getfield 318, 3) := by decide +kernel
theorem dX12_ledTo_4 : decode cX12_ledTo 4 = .ok (.iconst 1, 1) := by decide +kernel
theorem dX12_ledTo_5 : decode cX12_ledTo 5 = .ok (.iload_n 1, 1) := by decide +kernel
theorem dX12_ledTo_6 : decode cX12_ledTo 6 = .ok (.ishl, 1) := by decide +kernel
theorem dX12_ledTo_7 : decode cX12_ledTo 7 = .ok (.iand, 1) := by decide +kernel
theorem dX12_ledTo_8 : decode cX12_ledTo 8 = .ok (.istore_n 2, 1) := by decide +kernel
theorem dX12_ledTo_9 : decode cX12_ledTo 9 = .ok (.iconst (-1), 1) := by decide +kernel
theorem dX12_ledTo_10 : decode cX12_ledTo 10 = .ok (.istore_n 3, 1) := by decide +kernel
theorem dX12_ledTo_11 : decode cX12_ledTo 11 = .ok (.iload_n 2, 1) := by decide +kernel
theorem dX12_ledTo_12 : decode cX12_ledTo 12 = .ok (.iload_n 3, 1) := by decide +kernel
theorem dX12_ledTo_13 : decode cX12_ledTo 13 = .ok (.if_icmp .eq 102, 3) := by decide +kernel
theorem dX12_ledTo_16 : decode cX12_ledTo 16 = .ok (.iload_n 2, 1) := by decide +kernel
theorem dX12_ledTo_17 : decode cX12_ledTo 17 = .ok (.istore_n 3, 1) := by decide +kernel
theorem dX12_ledTo_18 : decode cX12_ledTo 18 = .ok (.iconst 0, 1) := by decide +kernel
theorem dX12_ledTo_19 : decode cX12_ledTo 19 = .ok (.istore 4, 2) := by decide +kernel
theorem dX12_ledTo_21 : decode cX12_ledTo 21 = .ok (.iload 4, 2) := by decide +kernel
theorem dX12_ledTo_23 : decode cX12_ledTo 23 = .ok (.aload_n 0, 1) := by decide +kernel
theorem dX12_ledTo_24 : decode cX12_ledTo 24 = .ok (.getfield 279, 3) := by decide +kernel
theorem dX12_ledTo_27 : decode cX12_ledTo 27 = .ok (.if_icmp .gt 85, 3) := by decide +kernel
theorem dX12_ledTo_30 : decode cX12_ledTo 30 = .ok (.aload_n 0, 1) := by decide +kernel
theorem dX12_ledTo_31 : decode cX12_ledTo 31 = .ok (.iload 4, 2) := by decide +kernel
theorem dX12_ledTo_33 : decode cX12_ledTo 33 = .ok (.invokevirtual 327, 3) := by decide +kernel
theorem dX12_ledTo_36 : decode cX12_ledTo 36 = .ok (.ifCond .ne 6, 3) := by decide +kernel
theorem dX12_ledTo_39 : decode cX12_ledTo 39 = .ok (.goto 67, 3) := by decide +kernel
theorem dX12_ledTo_42 : decode cX12_ledTo 42 = .ok (.iload_n 2, 1) := by decide +kernel
theorem dX12_ledTo_43 : decode cX12_ledTo 43 = .ok (.aload_n 0, 1) := by decide +kernel
theorem dX12_ledTo_44 : decode cX12_ledTo 44 = .ok (.getfield 32, 3) := by decide +kernel
theorem dX12_ledTo_47 : decode cX12_ledTo 47 = .ok (.iload 4, 2) := by decide +kernel
theorem dX12_ledTo_49 : decode cX12_ledTo 49 = .ok (.iaload, 1) := by decide +kernel
theorem dX12_ledTo_50 : decode cX12_ledTo 50 = .ok (.ishr, 1) := by decide +kernel
theorem dX12_ledTo_51 : decode cX12_ledTo 51 = .ok (.iconst 1, 1) := by decide +kernel
theorem dX12_ledTo_52 : decode cX12_ledTo 52 = .ok (.iand, 1) := by decide +kernel
theorem dX12_ledTo_53 : decode cX12_ledTo 53 = .ok (.iconst 1, 1) := by decide +kernel
theorem dX12_ledTo_54 : decode cX12_ledTo 54 = .ok (.if_icmp .ne 15, 3) := by decide +kernel
theorem dX12_ledTo_57 : decode cX12_ledTo 57 = .ok (.iload_n 2, 1) := by decide +kernel
theorem dX12_ledTo_58 : decode cX12_ledTo 58 = .ok (.iconst 1, 1) := by decide +kernel
theorem dX12_ledTo_59 : decode cX12_ledTo 59 = .ok (.aload_n 0, 1) := by decide +kernel
theorem dX12_ledTo_60 : decode cX12_ledTo 60 = .ok (.getfield 35, 3) := by decide +kernel
theorem dX12_ledTo_63 : decode cX12_ledTo 63 = .ok (.iload 4, 2) := by decide +kernel
theorem dX12_ledTo_65 : decode cX12_ledTo 65 = .ok (.iaload, 1) := by decide +kernel
theorem dX12_ledTo_66 : decode cX12_ledTo 66 = .ok (.ishl, 1) := by decide +kernel
theorem dX12_ledTo_67 : decode cX12_ledTo 67 = .ok (.ior, 1) := by decide +kernel
theorem dX12_ledTo_68 : decode cX12_ledTo 68 = .ok (.istore_n 2, 1) := by decide +kernel
theorem dX12_ledTo_69 : decode cX12_ledTo 69 = .ok (.aload_n 0, 1) := by decide +kernel
theorem dX12_ledTo_70 : decode cX12_ledTo 70 = .ok (.getfield 41, 3) := by decide +kernel
theorem dX12_ledTo_73 : decode cX12_ledTo 73 = .ok (.iload 4, 2) := by decide +kernel
theorem dX12_ledTo_75 : decode cX12_ledTo 75 = .ok (.baload, 1) := by decide +kernel
theorem dX12_ledTo_76 : decode cX12_ledTo 76 = .ok (.ifCond .eq 30, 3) := by decide +kernel
theorem dX12_ledTo_79 : decode cX12_ledTo 79 = .ok (.iload_n 2, 1) := by decide +kernel
theorem dX12_ledTo_80 : decode cX12_ledTo 80 = .ok (.aload_n 0, 1) := by decide +kernel
theorem dX12_ledTo_81 : decode cX12_ledTo 81 = .ok (.getfield 35, 3) := by decide +kernel
theorem dX12_ledTo_84 : decode cX12_ledTo 84 = .ok (.iload 4, 2) := by decide +kernel
theorem dX12_ledTo_86 : decode cX12_ledTo 86 = .ok (.iaload, 1) := by decide +kernel
theorem dX12_ledTo_87 : decode cX12_ledTo 87 = .ok (.ishr, 1) := by decide +kernel
theorem dX12_ledTo_88 : decode cX12_ledTo 88 = .ok (.iconst 1, 1) := by decide +kernel
theorem dX12_ledTo_89 : decode cX12_ledTo 89 = .ok (.iand, 1) := by decide +kernel
theorem dX12_ledTo_90 : decode cX12_ledTo 90 = .ok (.iconst 1, 1) := by decide +kernel
theorem dX12_ledTo_91 : decode cX12_ledTo 91 = .ok (.if_icmp .ne 15, 3) := by decide +kernel
theorem dX12_ledTo_94 : decode cX12_ledTo 94 = .ok (.iload_n 2, 1) := by decide +kernel
theorem dX12_ledTo_95 : decode cX12_ledTo 95 = .ok (.iconst 1, 1) := by decide +kernel
theorem dX12_ledTo_96 : decode cX12_ledTo 96 = .ok (.aload_n 0, 1) := by decide +kernel
theorem dX12_ledTo_97 : decode cX12_ledTo 97 = .ok (.getfield 32, 3) := by decide +kernel
theorem dX12_ledTo_100 : decode cX12_ledTo 100 = .ok (.iload 4, 2) := by decide +kernel
theorem dX12_ledTo_102 : decode cX12_ledTo 102 = .ok (.iaload, 1) := by decide +kernel
theorem dX12_ledTo_103 : decode cX12_ledTo 103 = .ok (.ishl, 1) := by decide +kernel
theorem dX12_ledTo_104 : decode cX12_ledTo 104 = .ok (.ior, 1) := by decide +kernel
theorem dX12_ledTo_105 : decode cX12_ledTo 105 = .ok (.istore_n 2, 1) := by decide +kernel
theorem dX12_ledTo_106 : decode cX12_ledTo 106 = .ok (.iinc 4 1, 3) := by decide +kernel
theorem dX12_ledTo_109 : decode cX12_ledTo 109 = .ok (.goto (-88), 3) := by decide +kernel
theorem dX12_ledTo_112 : decode cX12_ledTo 112 = .ok (.goto (-101), 3) := by decide +kernel
theorem dX12_ledTo_115 : decode cX12_ledTo 115 = .ok (.iload_n 2, 1) := by decide +kernel
theorem dX12_ledTo_116 : decode cX12_ledTo 116 = .ok (.ireturn, 1) := by decide +kernel
abbrev o_X12_ledTo : Type := Int32
def f_X12_ledTo_L21 (S : wd_W) (k112_6 : (Int32) → (Option o_X12_ledTo)) (r9 : (Int32) → (Int32) → (Option o_X12_ledTo)) (x7 : Int32) (x8 : Int32) : Option o_X12_ledTo :=
if (S.1 21) < x8 then (
k112_6 x7) else (
bd (f_X12_isOpen (wd_o S [] [] [] [] []) x8) fun o10 =>
lk (fun x11 =>
r9 x11 (x8 + (1 : Int32))) fun k106_12 =>
if o10 = 0 then (
k106_12 x7) else (
gd (okx x8 13) <|
lk (fun x14 =>
gd (okx x8 13) <|
if ((S.2.2.1 11) x8.toNatClampNeg) = 0 then (
k106_12 x14) else (
gd (okx x8 13) <|
if ((x14 >>> (((S.2.2.1 9) x8.toNatClampNeg) &&& 31)) &&& (1 : Int32)) = (1 : Int32) then (
gd (okx x8 13) <|
lz (x14 ||| ((1 : Int32) <<< (((S.2.2.1 8) x8.toNatClampNeg) &&& 31))) fun x19 =>
k106_12 x19) else (
k106_12 x14))) fun k69_15 =>
if ((x7 >>> (((S.2.2.1 8) x8.toNatClampNeg) &&& 31)) &&& (1 : Int32)) = (1 : Int32) then (
gd (okx x8 13) <|
lz (x7 ||| ((1 : Int32) <<< (((S.2.2.1 9) x8.toNatClampNeg) &&& 31))) fun x23 =>
k69_15 x23) else (
k69_15 x7)))
def f_X12_ledTo_L11 (S : wd_W) (r4 : (Int32) → (Int32) → (Option o_X12_ledTo)) (x2 : Int32) (x3 : Int32) : Option o_X12_ledTo :=
if x2 = x3 then (
some x2) else (
lk (fun x5 =>
r4 x5 x2) fun k112_6 =>
it2 (f_X12_ledTo_L21 S k112_6) fuel x2 (0 : Int32))
def f_X12_ledTo (S : wd_W) (p1 : Int32) : Option o_X12_ledTo :=
lz ((S.1 38) &&& ((1 : Int32) <<< (p1 &&& 31))) fun x1 =>
it2 (f_X12_ledTo_L11 S) fuel x1 (-1 : Int32)
set_option maxRecDepth 100000 in
set_option maxHeartbeats 4000000 in
theorem c_X12_ledTo (l : Launch) (D : va_G) (q g : Nat → Nat) (cy : Nat → ClassId) (z : (Nat → Nat) × (Nat → Nat) × Nat) (S : wd_W) (p1 : Int32) (o : o_X12_ledTo) (hf : f_X12_ledTo S p1 = some o) : MX layM l yX12_ledTo cX12_ledTo 5 (some .int) ({ frames := 1, cells := 0, slots := 0, locals := 21 } : Room) D q g cy z [.ref (q 0), .int p1] S false (some (.int o)) (wd_o S [] [] [] [] []) 0 0 := by
  refine mx_of (own := RX12) (lc := [(0, .ref (q 0)), (1, .int p1)]) (by decide +kernel) rfl layM_ok (Nat.le_of_ble_eq_true rfl) rfl ?_
  intro X hXl hXq hXz hC hQ
  subst hXl; subst hXq; subst hXz
  unfold f_X12_ledTo at hf
  refine go_aload_n (pc' := 1) hC dX12_ledTo_0 rfl rfl ?_
  refine go_geti (v := (S.1 38)) (pc' := 4) hC 0 38 layM_0 rfl rfl inlX12 (Nat.le_of_ble_eq_true rfl) mw_872 rfl dX12_ledTo_1 rfl rfl ?_
  refine go_iconst (pc' := 5) hC dX12_ledTo_4 ki_1 rfl ?_
  refine go_iload_n (pc' := 6) hC dX12_ledTo_5 rfl rfl ?_
  refine go_ishl (pc' := 7) hC dX12_ledTo_6 rfl ?_
  refine go_iand (pc' := 8) hC dX12_ledTo_7 rfl ?_
  refine go_namei (fun x1 hx => ?_)
  have hf := lz_r hx hf
  clear hx
  refine go_istore_n (lc' := [(0, .ref (x_q X 0)), (1, .int p1), (2, .int x1)]) (pc' := 9) hC dX12_ledTo_8 (Nat.le_of_ble_eq_true rfl) rfl rfl ?_
  refine go_iconst (pc' := 10) hC dX12_ledTo_9 ki_m1 rfl ?_
  refine go_istore_n (lc' := [(0, .ref (x_q X 0)), (1, .int p1), (2, .int x1), (3, .int (-1 : Int32))]) (pc' := 11) hC dX12_ledTo_10 (Nat.le_of_ble_eq_true rfl) rfl rfl ?_
  have l11_29 : ∀ (nn : Nat) (x2 : Int32) (x3 : Int32), it2 (f_X12_ledTo_L11 S) nn x2 x3 = some o → Go X layM S 11 [(0, .ref (x_q X 0)), (2, .int x2), (3, .int x3)] [] g [] [] [] [] [] 0 0 := by
    intro nn
    induction nn with
    | zero =>
      intro x2 x3 hf
      exact none_no hf
    | succ nn ih =>
      intro x2 x3 hf
      have hf : f_X12_ledTo_L11 S (it2 (f_X12_ledTo_L11 S) nn) x2 x3 = some o := hf
      generalize it2 (f_X12_ledTo_L11 S) nn = r4 at ih hf
      unfold f_X12_ledTo_L11 at hf
      refine go_iload_n (pc' := 12) hC dX12_ledTo_11 rfl rfl ?_
      refine go_iload_n (pc' := 13) hC dX12_ledTo_12 rfl rfl ?_
      refine go_icmp_eq (tgt := 115) (pc' := 16) hC dX12_ledTo_13 (by decide) rfl (fun h28 => ?_) (fun h28 => ?_)
      · have hf := ite_t h28 hf
        refine go_iload_n (pc' := 116) hC dX12_ledTo_115 rfl rfl ?_
        obtain rfl := Option.some.inj hf
        exact go_iret hC hQ dX12_ledTo_116 rfl rfl rfl rfl (fun _ => rfl) rfl rfl
      · have hf := ite_f h28 hf
        refine go_iload_n (pc' := 17) hC dX12_ledTo_16 rfl rfl ?_
        refine go_istore_n (lc' := [(0, .ref (x_q X 0)), (2, .int x2), (3, .int x2)]) (pc' := 18) hC dX12_ledTo_17 (Nat.le_of_ble_eq_true rfl) rfl rfl ?_
        refine go_iconst (pc' := 19) hC dX12_ledTo_18 ki_0 rfl ?_
        refine go_istore (lc' := [(0, .ref (x_q X 0)), (2, .int x2), (3, .int x2), (4, .int (0 : Int32))]) (pc' := 21) hC dX12_ledTo_19 (Nat.le_of_ble_eq_true rfl) rfl rfl ?_
        obtain ⟨k112_6, hk112_6, hf⟩ := lk_e1 hf
        have jk112_6 : ∀ (x5 : Int32), k112_6 x5 = some o → Go X layM S 112 [(0, .ref (x_q X 0)), (2, .int x5), (3, .int x2)] [] g [] [] [] [] [] 0 0 := by
          intro x5 hf
          have hf := hk112_6 x5 hf
          clear hk112_6
          refine go_goto (tgt := 11) hC dX12_ledTo_112 (by decide) ?_
          exact ih x5 x2 hf
        clear hk112_6
        have l21_27 : ∀ (nn : Nat) (x7 : Int32) (x8 : Int32), it2 (f_X12_ledTo_L21 S k112_6) nn x7 x8 = some o → Go X layM S 21 [(0, .ref (x_q X 0)), (2, .int x7), (3, .int x2), (4, .int x8)] [] g [] [] [] [] [] 0 0 := by
          intro nn
          induction nn with
          | zero =>
            intro x7 x8 hf
            exact none_no hf
          | succ nn ih =>
            intro x7 x8 hf
            have hf : f_X12_ledTo_L21 S k112_6 (it2 (f_X12_ledTo_L21 S k112_6) nn) x7 x8 = some o := hf
            generalize it2 (f_X12_ledTo_L21 S k112_6) nn = r9 at ih hf
            unfold f_X12_ledTo_L21 at hf
            refine go_iload (pc' := 23) hC dX12_ledTo_21 rfl rfl ?_
            refine go_aload_n (pc' := 24) hC dX12_ledTo_23 rfl rfl ?_
            refine go_geti (v := (S.1 21)) (pc' := 27) hC 0 21 layM_0 rfl rfl inlX12 (Nat.le_of_ble_eq_true rfl) mw_247 rfl dX12_ledTo_24 rfl rfl ?_
            refine go_icmp_gt (tgt := 112) (pc' := 30) hC dX12_ledTo_27 (by decide) rfl (fun h26 => ?_) (fun h26 => ?_)
            · have hf := ite_t h26 hf
              refine go_sub [0, 2, 3] rfl ?_
              exact jk112_6 x7 hf
            · have hf := ite_f h26 hf
              refine go_aload_n (pc' := 31) hC dX12_ledTo_30 rfl rfl ?_
              refine go_iload (pc' := 33) hC dX12_ledTo_31 rfl rfl ?_
              obtain ⟨o10, ho10, hf⟩ := bd_e hf
              refine go_callV0 (pc' := 36) (As := [.int x8]) (st := []) (st' := [.int o10])    (b := 0) hC dX12_ledTo_33 ⟨mw_886, mw_889, mw_5, yd_yX12_isOpen, yp_yX12_isOpen, Nat.le_of_ble_eq_true rfl, Nat.le_of_ble_eq_true rfl, (Nat.le_of_ble_eq_true rfl), (Nat.le_of_ble_eq_true rfl)⟩ mw_887 mw_888 layM_0 rfl rfl rfl (Nat.le_of_ble_eq_true rfl) (c_X12_isOpen (x_l X) (x_D X) (x_q X) g (x_cy X) (x_z X) _ x8 o10 ho10) rfl rfl ?_
              obtain ⟨k106_12, hk106_12, hf⟩ := lk_e1 hf
              have jk106_12 : ∀ (x11 : Int32), k106_12 x11 = some o → Go X layM S 106 [(0, .ref (x_q X 0)), (2, .int x11), (3, .int x2), (4, .int x8)] [] g [] [] [] [] [] 0 0 := by
                intro x11 hf
                have hf := hk106_12 x11 hf
                clear hk106_12
                refine go_iinc (lc' := [(0, .ref (x_q X 0)), (2, .int x11), (3, .int x2), (4, .int (x8 + (1 : Int32)))]) (pc' := 109) hC dX12_ledTo_106 rfl ki_1 (Nat.le_of_ble_eq_true rfl) rfl rfl ?_
                refine go_goto (tgt := 21) hC dX12_ledTo_109 (by decide) ?_
                exact ih x11 (x8 + (1 : Int32)) hf
              clear hk106_12
              refine go_if_ne (tgt := 42) (pc' := 39) hC dX12_ledTo_36 (by decide) rfl (fun h25 => ?_) (fun h25 => ?_)
              · have hf := ite_f h25 hf
                refine go_iload_n (pc' := 43) hC dX12_ledTo_42 rfl rfl ?_
                refine go_aload_n (pc' := 44) hC dX12_ledTo_43 rfl rfl ?_
                refine go_getq (pc' := 47) hC 0 22 layM_0 rfl rfl inlX12 (Nat.le_of_ble_eq_true rfl) mw_187 rfl dX12_ledTo_44 rfl ?_
                refine go_iload (pc' := 49) hC dX12_ledTo_47 rfl rfl ?_
                obtain ⟨h13, hf⟩ := gd_e hf
                refine go_iald (f := (S.2.2.1 8)) (pc' := 50) hC 8 layM_8 rfl rfl dX12_ledTo_49 (okx_in h13) rfl ?_
                refine go_ishr (pc' := 51) hC dX12_ledTo_50 rfl ?_
                refine go_iconst (pc' := 52) hC dX12_ledTo_51 ki_1 rfl ?_
                refine go_iand (pc' := 53) hC dX12_ledTo_52 rfl ?_
                refine go_iconst (pc' := 54) hC dX12_ledTo_53 ki_1 rfl ?_
                obtain ⟨k69_15, hk69_15, hf⟩ := lk_e1 hf
                have jk69_15 : ∀ (x14 : Int32), k69_15 x14 = some o → Go X layM S 69 [(0, .ref (x_q X 0)), (2, .int x14), (3, .int x2), (4, .int x8)] [] g [] [] [] [] [] 0 0 := by
                  intro x14 hf
                  have hf := hk69_15 x14 hf
                  clear hk69_15
                  refine go_aload_n (pc' := 70) hC dX12_ledTo_69 rfl rfl ?_
                  refine go_getq (pc' := 73) hC 0 25 layM_0 rfl rfl inlX12 (Nat.le_of_ble_eq_true rfl) mw_191 rfl dX12_ledTo_70 rfl ?_
                  refine go_iload (pc' := 75) hC dX12_ledTo_73 rfl rfl ?_
                  obtain ⟨h16, hf⟩ := gd_e hf
                  refine go_zald (f := (S.2.2.1 11)) (pc' := 76) hC 11 layM_11 rfl rfl dX12_ledTo_75 (okx_in h16) rfl ?_
                  refine go_if_eq (tgt := 106) (pc' := 79) hC dX12_ledTo_76 (by decide) rfl (fun h21 => ?_) (fun h21 => ?_)
                  · have hf := ite_t h21 hf
                    exact jk106_12 x14 hf
                  · have hf := ite_f h21 hf
                    refine go_iload_n (pc' := 80) hC dX12_ledTo_79 rfl rfl ?_
                    refine go_aload_n (pc' := 81) hC dX12_ledTo_80 rfl rfl ?_
                    refine go_getq (pc' := 84) hC 0 23 layM_0 rfl rfl inlX12 (Nat.le_of_ble_eq_true rfl) mw_188 rfl dX12_ledTo_81 rfl ?_
                    refine go_iload (pc' := 86) hC dX12_ledTo_84 rfl rfl ?_
                    obtain ⟨h17, hf⟩ := gd_e hf
                    refine go_iald (f := (S.2.2.1 9)) (pc' := 87) hC 9 layM_9 rfl rfl dX12_ledTo_86 (okx_in h17) rfl ?_
                    refine go_ishr (pc' := 88) hC dX12_ledTo_87 rfl ?_
                    refine go_iconst (pc' := 89) hC dX12_ledTo_88 ki_1 rfl ?_
                    refine go_iand (pc' := 90) hC dX12_ledTo_89 rfl ?_
                    refine go_iconst (pc' := 91) hC dX12_ledTo_90 ki_1 rfl ?_
                    refine go_icmp_ne (tgt := 106) (pc' := 94) hC dX12_ledTo_91 (by decide) rfl (fun h20 => ?_) (fun h20 => ?_)
                    · have hf := ite_f h20 hf
                      exact jk106_12 x14 hf
                    · have hf := ite_t h20 hf
                      refine go_iload_n (pc' := 95) hC dX12_ledTo_94 rfl rfl ?_
                      refine go_iconst (pc' := 96) hC dX12_ledTo_95 ki_1 rfl ?_
                      refine go_aload_n (pc' := 97) hC dX12_ledTo_96 rfl rfl ?_
                      refine go_getq (pc' := 100) hC 0 22 layM_0 rfl rfl inlX12 (Nat.le_of_ble_eq_true rfl) mw_187 rfl dX12_ledTo_97 rfl ?_
                      refine go_iload (pc' := 102) hC dX12_ledTo_100 rfl rfl ?_
                      obtain ⟨h18, hf⟩ := gd_e hf
                      refine go_iald (f := (S.2.2.1 8)) (pc' := 103) hC 8 layM_8 rfl rfl dX12_ledTo_102 (okx_in h18) rfl ?_
                      refine go_ishl (pc' := 104) hC dX12_ledTo_103 rfl ?_
                      refine go_ior (pc' := 105) hC dX12_ledTo_104 rfl ?_
                      refine go_namei (fun x19 hx => ?_)
                      have hf := lz_r hx hf
                      clear hx
                      refine go_istore_n (lc' := [(0, .ref (x_q X 0)), (2, .int x19), (3, .int x2), (4, .int x8)]) (pc' := 106) hC dX12_ledTo_105 (Nat.le_of_ble_eq_true rfl) rfl rfl ?_
                      exact jk106_12 x19 hf
                clear hk69_15
                refine go_icmp_ne (tgt := 69) (pc' := 57) hC dX12_ledTo_54 (by decide) rfl (fun h24 => ?_) (fun h24 => ?_)
                · have hf := ite_f h24 hf
                  exact jk69_15 x7 hf
                · have hf := ite_t h24 hf
                  refine go_iload_n (pc' := 58) hC dX12_ledTo_57 rfl rfl ?_
                  refine go_iconst (pc' := 59) hC dX12_ledTo_58 ki_1 rfl ?_
                  refine go_aload_n (pc' := 60) hC dX12_ledTo_59 rfl rfl ?_
                  refine go_getq (pc' := 63) hC 0 23 layM_0 rfl rfl inlX12 (Nat.le_of_ble_eq_true rfl) mw_188 rfl dX12_ledTo_60 rfl ?_
                  refine go_iload (pc' := 65) hC dX12_ledTo_63 rfl rfl ?_
                  obtain ⟨h22, hf⟩ := gd_e hf
                  refine go_iald (f := (S.2.2.1 9)) (pc' := 66) hC 9 layM_9 rfl rfl dX12_ledTo_65 (okx_in h22) rfl ?_
                  refine go_ishl (pc' := 67) hC dX12_ledTo_66 rfl ?_
                  refine go_ior (pc' := 68) hC dX12_ledTo_67 rfl ?_
                  refine go_namei (fun x23 hx => ?_)
                  have hf := lz_r hx hf
                  clear hx
                  refine go_istore_n (lc' := [(0, .ref (x_q X 0)), (2, .int x23), (3, .int x2), (4, .int x8)]) (pc' := 69) hC dX12_ledTo_68 (Nat.le_of_ble_eq_true rfl) rfl rfl ?_
                  exact jk69_15 x23 hf
              · have hf := ite_t h25 hf
                refine go_goto (tgt := 106) hC dX12_ledTo_39 (by decide) ?_
                exact jk106_12 x7 hf
        exact l21_27 fuel x2 (0 : Int32) hf
  refine go_sub [0, 2, 3] rfl ?_
  exact l11_29 fuel x1 (-1 : Int32) hf
