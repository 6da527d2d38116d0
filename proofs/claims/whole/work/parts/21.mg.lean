theorem dX12_image_0 : decode cX12_image 0 = .ok (.iload_n 1, 1) := by decide +kernel
theorem dX12_image_1 : decode cX12_image 1 = .ok (.i2l, 1) := by decide +kernel
theorem dX12_image_2 : decode cX12_image 2 = .ok (.lconst 0, 1) := by decide +kernel
theorem dX12_image_3 : decode cX12_image 3 = .ok (.ldc2_w 511, 3) := by decide +kernel
theorem dX12_image_6 : decode cX12_image 6 = .ok (.invokestatic 218, 3) := by decide +kernel
theorem dX12_image_9 : decode cX12_image 9 = .ok (.ifCond .ne 5, 3) := by decide +kernel
theorem dX12_image_12 : decode cX12_image 12 = .ok (.iconst (-1), 1) := by decide +kernel
theorem dX12_image_13 : decode cX12_image 13 = .ok (.ireturn, 1) := by decide +kernel
theorem dX12_image_14 : decode cX12_image 14 = .ok (.aload_n 0, 1) := by decide +kernel
theorem dX12_image_15 : decode cX12_image 15 = .ok (.getfield 152, 3) := by decide +kernel
theorem dX12_image_18 : decode cX12_image 18 = .ok (.iload_n 1, 1) := by decide +kernel
theorem dX12_image_19 : decode cX12_image 19 = .ok (.iconst 1, 1) := by decide +kernel
theorem dX12_image_20 : decode cX12_image 20 = .ok (.bastore, 1) := by decide +kernel
theorem dX12_image_21 : decode cX12_image 21 = .ok (.aload_n 0, 1) := by decide +kernel
theorem dX12_image_22 : decode cX12_image 22 = .ok (.sipush 200, 3) := by decide +kernel
theorem dX12_image_25 : decode cX12_image 25 = .ok (.iload_n 1, 1) := by decide +kernel
theorem dX12_image_26 : decode cX12_image 26 = .ok (.imul, 1) := by decide +kernel
theorem dX12_image_27 : decode cX12_image 27 = .ok (.putfield 513, 3) := by decide +kernel
theorem dX12_image_30 : decode cX12_image 30 = .ok (.aload_n 0, 1) := by decide +kernel
theorem dX12_image_31 : decode cX12_image 31 = .ok (.aload_n 0, 1) := by decide +kernel
theorem dX12_image_32 : decode cX12_image 32 = .ok (.getfield 276, 3) := by decide +kernel
theorem dX12_image_35 : decode cX12_image 35 = .ok (.invokevirtual 516, 3) := by decide +kernel
theorem dX12_image_38 : decode cX12_image 38 = .ok (.aload_n 0, 1) := by decide +kernel
theorem dX12_image_39 : decode cX12_image 39 = .ok (.aload_n 0, 1) := by decide +kernel
theorem dX12_image_40 : decode cX12_image 40 = .ok (.getfield 279, 3) := by decide +kernel
theorem dX12_image_43 : decode cX12_image 43 = .ok (.invokevirtual 516, 3) := by decide +kernel
theorem dX12_image_46 : decode cX12_image 46 = .ok (.aload_n 0, 1) := by decide +kernel
theorem dX12_image_47 : decode cX12_image 47 = .ok (.aload_n 0, 1) := by decide +kernel
theorem dX12_image_48 : decode cX12_image 48 = .ok (.getfield 282, 3) := by decide +kernel
theorem dX12_image_51 : decode cX12_image 51 = .ok (.invokevirtual 516, 3) := by decide +kernel
theorem dX12_image_54 : decode cX12_image 54 = .ok (.aload_n 0, 1) := by decide +kernel
theorem dX12_image_55 : decode cX12_image 55 = .ok (.aload_n 0, 1) := by decide +kernel
theorem dX12_image_56 : decode cX12_image 56 = .ok (.getfield 285, 3) := by decide +kernel
theorem dX12_image_59 : decode cX12_image 59 = .ok (.invokevirtual 516, 3) := by decide +kernel
theorem dX12_image_62 : decode cX12_image 62 = .ok (.aload_n 0, 1) := by decide +kernel
theorem dX12_image_63 : decode cX12_image 63 = .ok (.aload_n 0, 1) := by decide +kernel
theorem dX12_image_64 : decode cX12_image 64 = .ok (.getfield 288, 3) := by decide +kernel
theorem dX12_image_67 : decode cX12_image 67 = .ok (.invokevirtual 516, 3) := by decide +kernel
theorem dX12_image_70 : decode cX12_image 70 = .ok (.aload_n 0, 1) := by decide +kernel
theorem dX12_image_71 : decode cX12_image 71 = .ok (.aload_n 0, 1) := by decide +kernel
theorem dX12_image_72 : decode cX12_image 72 = .ok (.getfield 291, 3) := by decide +kernel
theorem dX12_image_75 : decode cX12_image 75 = .ok (.invokevirtual 516, 3) := by decide +kernel
theorem dX12_image_78 : decode cX12_image 78 = .ok (.aload_n 0, 1) := by decide +kernel
theorem dX12_image_79 : decode cX12_image 79 = .ok (.aload_n 0, 1) := by decide +kernel
theorem dX12_image_80 : decode cX12_image 80 = .ok (.getfield 294, 3) := by decide +kernel
theorem dX12_image_83 : decode cX12_image 83 = .ok (.invokevirtual 516, 3) := by decide +kernel
theorem dX12_image_86 : decode cX12_image 86 = .ok (.aload_n 0, 1) := by decide +kernel
theorem dX12_image_87 : decode cX12_image 87 = .ok (.aload_n 0, 1) := by decide +kernel
theorem dX12_image_88 : decode cX12_image 88 = .ok (.getfield 297, 3) := by decide +kernel
theorem dX12_image_91 : decode cX12_image 91 = .ok (.invokevirtual 516, 3) := by decide +kernel
theorem dX12_image_94 : decode cX12_image 94 = .ok (.aload_n 0, 1) := by decide +kernel
theorem dX12_image_95 : decode cX12_image 95 = .ok (.aload_n 0, 1) := by decide +kernel
theorem dX12_image_96 : decode cX12_image 96 = .ok (.getfield 300, 3) := by decide +kernel
theorem dX12_image_99 : decode cX12_image 99 = .ok (.invokevirtual 516, 3) := by decide +kernel
theorem dX12_image_102 : decode cX12_image 102 = .ok (.aload_n 0, 1) := by decide +kernel
theorem dX12_image_103 : decode cX12_image 103 = .ok (.aload_n 0, 1) := by decide +kernel
theorem dX12_image_104 : decode cX12_image 104 = .ok (.getfield 303, 3) := by decide +kernel
theorem dX12_image_107 : decode cX12_image 107 = .ok (.invokevirtual 516, 3) := by decide +kernel
theorem dX12_image_110 : decode cX12_image 110 = .ok (.aload_n 0, 1) := by decide +kernel
theorem dX12_image_111 : decode cX12_image 111 = .ok (.aload_n 0, 1) := by decide +kernel
theorem dX12_image_112 : decode cX12_image 112 = .ok (.getfield 306, 3) := by decide +kernel
theorem dX12_image_115 : decode cX12_image 115 = .ok (.invokevirtual 516, 3) := by decide +kernel
theorem dX12_image_118 : decode cX12_image 118 = .ok (.iconst 0, 1) := by decide +kernel
theorem dX12_image_119 : decode cX12_image 119 = .ok (.istore_n 2, 1) := by decide +kernel
theorem dX12_image_120 : decode cX12_image 120 = .ok (.iload_n 2, 1) := by decide +kernel
theorem dX12_image_121 : decode cX12_image 121 = .ok (.bipush 12, 2) := by decide +kernel
theorem dX12_image_123 : decode cX12_image 123 = .ok (.if_icmp .ge 77, 3) := by decide +kernel
theorem dX12_image_126 : decode cX12_image 126 = .ok (.aload_n 0, 1) := by decide +kernel
theorem dX12_image_127 : decode cX12_image 127 = .ok (.aload_n 0, 1) := by decide +kernel
theorem dX12_image_128 : decode cX12_image 128 = .ok (.getfield 32, 3) := by decide +kernel
theorem dX12_image_131 : decode cX12_image 131 = .ok (.iload_n 2, 1) := by decide +kernel
theorem dX12_image_132 : decode cX12_image 132 = .ok (.iaload, 1) := by decide +kernel
theorem dX12_image_133 : decode cX12_image 133 = .ok (.invokevirtual 516, 3) := by decide +kernel
theorem dX12_image_136 : decode cX12_image 136 = .ok (.aload_n 0, 1) := by decide +kernel
theorem dX12_image_137 : decode cX12_image 137 = .ok (.aload_n 0, 1) := by decide +kernel
theorem dX12_image_138 : decode cX12_image 138 = .ok (.getfield 35, 3) := by decide +kernel
theorem dX12_image_141 : decode cX12_image 141 = .ok (.iload_n 2, 1) := by decide +kernel
theorem dX12_image_142 : decode cX12_image 142 = .ok (.iaload, 1) := by decide +kernel
theorem dX12_image_143 : decode cX12_image 143 = .ok (.invokevirtual 516, 3) := by decide +kernel
theorem dX12_image_146 : decode cX12_image 146 = .ok (.aload_n 0, 1) := by decide +kernel
theorem dX12_image_147 : decode cX12_image 147 = .ok (.aload_n 0, 1) := by decide +kernel
theorem dX12_image_148 : decode cX12_image 148 = .ok (.getfield 38, 3) := by decide +kernel
theorem dX12_image_151 : decode cX12_image 151 = .ok (.iload_n 2, 1) := by decide +kernel
theorem dX12_image_152 : decode cX12_image 152 = .ok (.iaload, 1) := by decide +kernel
theorem dX12_image_153 : decode cX12_image 153 = .ok (.invokevirtual 516, 3) := by decide +kernel
theorem dX12_image_156 : decode cX12_image 156 = .ok (.aload_n 0, 1) := by decide +kernel
theorem dX12_image_157 : decode cX12_image 157 = .ok (.aload_n 0, 1) := by decide +kernel
theorem dX12_image_158 : decode cX12_image 158 = .ok (.getfield 41, 3) := by decide +kernel
theorem dX12_image_161 : decode cX12_image 161 = .ok (.iload_n 2, 1) := by decide +kernel
theorem dX12_image_162 : decode cX12_image 162 = .ok (.baload, 1) := by decide +kernel
theorem dX12_image_163 : decode cX12_image 163 = .ok (.ifCond .eq 7, 3) := by decide +kernel
theorem dX12_image_166 : decode cX12_image 166 = .ok (.iconst 1, 1) := by decide +kernel
theorem dX12_image_167 : decode cX12_image 167 = .ok (.goto 4, 3) := by decide +kernel
theorem dX12_image_170 : decode cX12_image 170 = .ok (.iconst 0, 1) := by decide +kernel
theorem dX12_image_171 : decode cX12_image 171 = .ok (.invokevirtual 516, 3) := by decide +kernel
theorem dX12_image_174 : decode cX12_image 174 = .ok (.aload_n 0, 1) := by decide +kernel
theorem dX12_image_175 : decode cX12_image 175 = .ok (.aload_n 0, 1) := by decide +kernel
theorem dX12_image_176 : decode cX12_image 176 = .ok (.getfield 45, 3) := by decide +kernel
theorem dX12_image_179 : decode cX12_image 179 = .ok (.iload_n 2, 1) := by decide +kernel
theorem dX12_image_180 : decode cX12_image 180 = .ok (.iaload, 1) := by decide +kernel
theorem dX12_image_181 : decode cX12_image 181 = .ok (.invokevirtual 516, 3) := by decide +kernel
theorem dX12_image_184 : decode cX12_image 184 = .ok (.aload_n 0, 1) := by decide +kernel
theorem dX12_image_185 : decode cX12_image 185 = .ok (.aload_n 0, 1) := by decide +kernel
theorem dX12_image_186 : decode cX12_image 186 = .ok (.getfield 48, 3) := by decide +kernel
theorem dX12_image_189 : decode cX12_image 189 = .ok (.iload_n 2, 1) := by decide +kernel
theorem dX12_image_190 : decode cX12_image 190 = .ok (.iaload, 1) := by decide +kernel
theorem dX12_image_191 : decode cX12_image 191 = .ok (.invokevirtual 516, 3) := by decide +kernel
theorem dX12_image_194 : decode cX12_image 194 = .ok (.iinc 2 1, 3) := by decide +kernel
theorem dX12_image_197 : decode cX12_image 197 = .ok (.goto (-77), 3) := by decide +kernel
theorem dX12_image_200 : decode cX12_image 200 = .ok (.iconst 0, 1) := by decide +kernel
theorem dX12_image_201 : decode cX12_image 201 = .ok (.istore_n 2, 1) := by decide +kernel
theorem dX12_image_202 : decode cX12_image 202 = .ok (.iload_n 2, 1) := by decide +kernel
theorem dX12_image_203 : decode cX12_image 203 = .ok (.bipush 10, 2) := by decide +kernel
theorem dX12_image_205 : decode cX12_image 205 = .ok (.if_icmp .ge 29, 3) := by decide +kernel
theorem dX12_image_208 : decode cX12_image 208 = .ok (.aload_n 0, 1) := by decide +kernel
theorem dX12_image_209 : decode cX12_image 209 = .ok (.aload_n 0, 1) := by decide +kernel
theorem dX12_image_210 : decode cX12_image 210 = .ok (.getfield 51, 3) := by decide +kernel
theorem dX12_image_213 : decode cX12_image 213 = .ok (.iload_n 2, 1) := by decide +kernel
theorem dX12_image_214 : decode cX12_image 214 = .ok (.iaload, 1) := by decide +kernel
theorem dX12_image_215 : decode cX12_image 215 = .ok (.invokevirtual 516, 3) := by decide +kernel
theorem dX12_image_218 : decode cX12_image 218 = .ok (.aload_n 0, 1) := by decide +kernel
theorem dX12_image_219 : decode cX12_image 219 = .ok (.aload_n 0, 1) := by decide +kernel
theorem dX12_image_220 : decode cX12_image 220 = .ok (.getfield 54, 3) := by decide +kernel
theorem dX12_image_223 : decode cX12_image 223 = .ok (.iload_n 2, 1) := by decide +kernel
theorem dX12_image_224 : decode cX12_image 224 = .ok (.iaload, 1) := by decide +kernel
theorem dX12_image_225 : decode cX12_image 225 = .ok (.invokevirtual 516, 3) := by decide +kernel
theorem dX12_image_228 : decode cX12_image 228 = .ok (.iinc 2 1, 3) := by decide +kernel
theorem dX12_image_231 : decode cX12_image 231 = .ok (.goto (-29), 3) := by decide +kernel
theorem dX12_image_234 : decode cX12_image 234 = .ok (.iconst 0, 1) := by decide +kernel
theorem dX12_image_235 : decode cX12_image 235 = .ok (.istore_n 2, 1) := by decide +kernel
theorem dX12_image_236 : decode cX12_image 236 = .ok (.iload_n 2, 1) := by decide +kernel
theorem dX12_image_237 : decode cX12_image 237 = .ok (.bipush 15, 2) := by decide +kernel
theorem dX12_image_239 : decode cX12_image 239 = .ok (.if_icmp .ge 19, 3) := by decide +kernel
theorem dX12_image_242 : decode cX12_image 242 = .ok (.aload_n 0, 1) := by decide +kernel
theorem dX12_image_243 : decode cX12_image 243 = .ok (.aload_n 0, 1) := by decide +kernel
theorem dX12_image_244 : decode cX12_image 244 = .ok (.getfield 57, 3) := by decide +kernel
theorem dX12_image_247 : decode cX12_image 247 = .ok (.iload_n 2, 1) := by decide +kernel
theorem dX12_image_248 : decode cX12_image 248 = .ok (.iaload, 1) := by decide +kernel
theorem dX12_image_249 : decode cX12_image 249 = .ok (.invokevirtual 516, 3) := by decide +kernel
theorem dX12_image_252 : decode cX12_image 252 = .ok (.iinc 2 1, 3) := by decide +kernel
theorem dX12_image_255 : decode cX12_image 255 = .ok (.goto (-19), 3) := by decide +kernel
theorem dX12_image_258 : decode cX12_image 258 = .ok (.iconst 0, 1) := by decide +kernel
theorem dX12_image_259 : decode cX12_image 259 = .ok (.istore_n 2, 1) := by decide +kernel
theorem dX12_image_260 : decode cX12_image 260 = .ok (.iload_n 2, 1) := by decide +kernel
theorem dX12_image_261 : decode cX12_image 261 = .ok (.bipush 9, 2) := by decide +kernel
theorem dX12_image_263 : decode cX12_image 263 = .ok (.if_icmp .ge 39, 3) := by decide +kernel
theorem dX12_image_266 : decode cX12_image 266 = .ok (.aload_n 0, 1) := by decide +kernel
theorem dX12_image_267 : decode cX12_image 267 = .ok (.aload_n 0, 1) := by decide +kernel
theorem dX12_image_268 : decode cX12_image 268 = .ok (.getfield 92, 3) := by decide +kernel
theorem dX12_image_271 : decode cX12_image 271 = .ok (.iload_n 2, 1) := by decide +kernel
theorem dX12_image_272 : decode cX12_image 272 = .ok (.iaload, 1) := by decide +kernel
theorem dX12_image_273 : decode cX12_image 273 = .ok (.invokevirtual 516, 3) := by decide +kernel
theorem dX12_image_276 : decode cX12_image 276 = .ok (.aload_n 0, 1) := by decide +kernel
theorem dX12_image_277 : decode cX12_image 277 = .ok (.aload_n 0, 1) := by decide +kernel
theorem dX12_image_278 : decode cX12_image 278 = .ok (.getfield 95, 3) := by decide +kernel
theorem dX12_image_281 : decode cX12_image 281 = .ok (.iload_n 2, 1) := by decide +kernel
theorem dX12_image_282 : decode cX12_image 282 = .ok (.iaload, 1) := by decide +kernel
theorem dX12_image_283 : decode cX12_image 283 = .ok (.invokevirtual 516, 3) := by decide +kernel
theorem dX12_image_286 : decode cX12_image 286 = .ok (.aload_n 0, 1) := by decide +kernel
theorem dX12_image_287 : decode cX12_image 287 = .ok (.aload_n 0, 1) := by decide +kernel
theorem dX12_image_288 : decode cX12_image 288 = .ok (.getfield 98, 3) := by decide +kernel
theorem dX12_image_291 : decode cX12_image 291 = .ok (.iload_n 2, 1) := by decide +kernel
theorem dX12_image_292 : decode cX12_image 292 = .ok (.iaload, 1) := by decide +kernel
theorem dX12_image_293 : decode cX12_image 293 = .ok (.invokevirtual 516, 3) := by decide +kernel
theorem dX12_image_296 : decode cX12_image 296 = .ok (.iinc 2 1, 3) := by decide +kernel
theorem dX12_image_299 : decode cX12_image 299 = .ok (.goto (-39), 3) := by decide +kernel
theorem dX12_image_302 : decode cX12_image 302 = .ok (.iconst 0, 1) := by decide +kernel
theorem dX12_image_303 : decode cX12_image 303 = .ok (.istore_n 2, 1) := by decide +kernel
theorem dX12_image_304 : decode cX12_image 304 = .ok (.iload_n 2, 1) := by decide +kernel
theorem dX12_image_305 : decode cX12_image 305 = .ok (.bipush 6, 2) := by decide +kernel
theorem dX12_image_307 : decode cX12_image 307 = .ok (.if_icmp .ge 47, 3) := by decide +kernel
theorem dX12_image_310 : decode cX12_image 310 = .ok (.aload_n 0, 1) := by decide +kernel
theorem dX12_image_311 : decode cX12_image 311 = .ok (.aload_n 0, 1) := by decide +kernel
theorem dX12_image_312 : decode cX12_image 312 = .ok (.getfield 107, 3) := by decide +kernel
theorem dX12_image_315 : decode cX12_image 315 = .ok (.iload_n 2, 1) := by decide +kernel
theorem dX12_image_316 : decode cX12_image 316 = .ok (.iaload, 1) := by decide +kernel
theorem dX12_image_317 : decode cX12_image 317 = .ok (.invokevirtual 516, 3) := by decide +kernel
theorem dX12_image_320 : decode cX12_image 320 = .ok (.aload_n 0, 1) := by decide +kernel
theorem dX12_image_321 : decode cX12_image 321 = .ok (.aload_n 0, 1) := by decide +kernel
theorem dX12_image_322 : decode cX12_image 322 = .ok (.getfield 110, 3) := by decide +kernel
theorem dX12_image_325 : decode cX12_image 325 = .ok (.iload_n 2, 1) := by decide +kernel
theorem dX12_image_326 : decode cX12_image 326 = .ok (.iaload, 1) := by decide +kernel
theorem dX12_image_327 : decode cX12_image 327 = .ok (.invokevirtual 516, 3) := by decide +kernel
theorem dX12_image_330 : decode cX12_image 330 = .ok (.aload_n 0, 1) := by decide +kernel
theorem dX12_image_331 : decode cX12_image 331 = .ok (.aload_n 0, 1) := by decide +kernel
theorem dX12_image_332 : decode cX12_image 332 = .ok (.getfield 113, 3) := by decide +kernel
theorem dX12_image_335 : decode cX12_image 335 = .ok (.iload_n 2, 1) := by decide +kernel
theorem dX12_image_336 : decode cX12_image 336 = .ok (.baload, 1) := by decide +kernel
theorem dX12_image_337 : decode cX12_image 337 = .ok (.ifCond .eq 7, 3) := by decide +kernel
theorem dX12_image_340 : decode cX12_image 340 = .ok (.iconst 1, 1) := by decide +kernel
theorem dX12_image_341 : decode cX12_image 341 = .ok (.goto 4, 3) := by decide +kernel
theorem dX12_image_344 : decode cX12_image 344 = .ok (.iconst 0, 1) := by decide +kernel
theorem dX12_image_345 : decode cX12_image 345 = .ok (.invokevirtual 516, 3) := by decide +kernel
theorem dX12_image_348 : decode cX12_image 348 = .ok (.iinc 2 1, 3) := by decide +kernel
theorem dX12_image_351 : decode cX12_image 351 = .ok (.goto (-47), 3) := by decide +kernel
theorem dX12_image_354 : decode cX12_image 354 = .ok (.aload_n 0, 1) := by decide +kernel
theorem dX12_image_355 : decode cX12_image 355 = .ok (.getfield 288, 3) := by decide +kernel
theorem dX12_image_358 : decode cX12_image 358 = .ok (.ireturn, 1) := by decide +kernel
abbrev o_X12_image : Type := Int32 × Int32 × (Nat → Int32) × (Nat → Int32)
def f_X12_image_L304 (S : wd_W) (a3 : Nat → Int32) (k354_30 : (Int32) → (Nat → Int32) → (Option o_X12_image)) (r34 : (Int32) → (Int32) → (Nat → Int32) → (Option o_X12_image)) (x31 : Int32) (x32 : Int32) (a33 : Nat → Int32) : Option o_X12_image :=
if (6 : Int32) ≤ x31 then (
k354_30 x32 a33) else (
gd (okx x31 6) <|
bd (f_X12_puts (wd_o S [(80, x32)] [] [(46, a33), (47, a3)] [] []) ((S.2.2.1 32) x31.toNatClampNeg)) fun o36 =>
gd (okx x31 6) <|
bd (f_X12_puts (wd_o S [(80, o36.1)] [] [(46, o36.2), (47, a3)] [] []) ((S.2.2.1 33) x31.toNatClampNeg)) fun o38 =>
gd (okx x31 6) <|
lk (fun x40 =>
bd (f_X12_puts (wd_o S [(80, o38.1)] [] [(46, o38.2), (47, a3)] [] []) x40) fun o42 =>
r34 (x31 + (1 : Int32)) o42.1 o42.2) fun k345_41 =>
if ((S.2.2.1 34) x31.toNatClampNeg) = 0 then (
k345_41 (0 : Int32)) else (
k345_41 (1 : Int32)))
def f_X12_image_L260 (S : wd_W) (a3 : Nat → Int32) (k302_27 : (Int32) → (Nat → Int32) → (Option o_X12_image)) (r49 : (Int32) → (Int32) → (Nat → Int32) → (Option o_X12_image)) (x46 : Int32) (x47 : Int32) (a48 : Nat → Int32) : Option o_X12_image :=
if (9 : Int32) ≤ x46 then (
k302_27 x47 a48) else (
gd (okx x46 9) <|
bd (f_X12_puts (wd_o S [(80, x47)] [] [(46, a48), (47, a3)] [] []) ((S.2.2.1 27) x46.toNatClampNeg)) fun o51 =>
gd (okx x46 9) <|
bd (f_X12_puts (wd_o S [(80, o51.1)] [] [(46, o51.2), (47, a3)] [] []) ((S.2.2.1 28) x46.toNatClampNeg)) fun o53 =>
gd (okx x46 9) <|
bd (f_X12_puts (wd_o S [(80, o53.1)] [] [(46, o53.2), (47, a3)] [] []) ((S.2.2.1 29) x46.toNatClampNeg)) fun o55 =>
r49 (x46 + (1 : Int32)) o55.1 o55.2)
def f_X12_image_L236 (S : wd_W) (a3 : Nat → Int32) (k258_24 : (Int32) → (Nat → Int32) → (Option o_X12_image)) (r61 : (Int32) → (Int32) → (Nat → Int32) → (Option o_X12_image)) (x58 : Int32) (x59 : Int32) (a60 : Nat → Int32) : Option o_X12_image :=
if (15 : Int32) ≤ x58 then (
k258_24 x59 a60) else (
gd (okx x58 15) <|
bd (f_X12_puts (wd_o S [(80, x59)] [] [(46, a60), (47, a3)] [] []) ((S.2.2.1 16) x58.toNatClampNeg)) fun o63 =>
r61 (x58 + (1 : Int32)) o63.1 o63.2)
def f_X12_image_L202 (S : wd_W) (a3 : Nat → Int32) (k234_21 : (Int32) → (Nat → Int32) → (Option o_X12_image)) (r69 : (Int32) → (Int32) → (Nat → Int32) → (Option o_X12_image)) (x66 : Int32) (x67 : Int32) (a68 : Nat → Int32) : Option o_X12_image :=
if (10 : Int32) ≤ x66 then (
k234_21 x67 a68) else (
gd (okx x66 10) <|
bd (f_X12_puts (wd_o S [(80, x67)] [] [(46, a68), (47, a3)] [] []) ((S.2.2.1 14) x66.toNatClampNeg)) fun o71 =>
gd (okx x66 10) <|
bd (f_X12_puts (wd_o S [(80, o71.1)] [] [(46, o71.2), (47, a3)] [] []) ((S.2.2.1 15) x66.toNatClampNeg)) fun o73 =>
r69 (x66 + (1 : Int32)) o73.1 o73.2)
def f_X12_image_L120 (S : wd_W) (a3 : Nat → Int32) (k200_18 : (Int32) → (Nat → Int32) → (Option o_X12_image)) (r79 : (Int32) → (Int32) → (Nat → Int32) → (Option o_X12_image)) (x76 : Int32) (x77 : Int32) (a78 : Nat → Int32) : Option o_X12_image :=
if (12 : Int32) ≤ x76 then (
k200_18 x77 a78) else (
gd (okx x76 13) <|
bd (f_X12_puts (wd_o S [(80, x77)] [] [(46, a78), (47, a3)] [] []) ((S.2.2.1 8) x76.toNatClampNeg)) fun o81 =>
gd (okx x76 13) <|
bd (f_X12_puts (wd_o S [(80, o81.1)] [] [(46, o81.2), (47, a3)] [] []) ((S.2.2.1 9) x76.toNatClampNeg)) fun o83 =>
gd (okx x76 13) <|
bd (f_X12_puts (wd_o S [(80, o83.1)] [] [(46, o83.2), (47, a3)] [] []) ((S.2.2.1 10) x76.toNatClampNeg)) fun o85 =>
gd (okx x76 13) <|
lk (fun x87 =>
bd (f_X12_puts (wd_o S [(80, o85.1)] [] [(46, o85.2), (47, a3)] [] []) x87) fun o89 =>
gd (okx x76 13) <|
bd (f_X12_puts (wd_o S [(80, o89.1)] [] [(46, o89.2), (47, a3)] [] []) ((S.2.2.1 12) x76.toNatClampNeg)) fun o91 =>
gd (okx x76 13) <|
bd (f_X12_puts (wd_o S [(80, o91.1)] [] [(46, o91.2), (47, a3)] [] []) ((S.2.2.1 13) x76.toNatClampNeg)) fun o93 =>
r79 (x76 + (1 : Int32)) o93.1 o93.2) fun k171_88 =>
if ((S.2.2.1 11) x76.toNatClampNeg) = 0 then (
k171_88 (0 : Int32)) else (
k171_88 (1 : Int32)))
def f_X12_image (S : wd_W) (p1 : Int32) : Option o_X12_image :=
bd (f_X12_in p1.toInt64 (0 : Int64) (3 : Int64)) fun o1 =>
if o1 = 0 then (
some ((-1 : Int32), (S.1 80), (S.2.2.1 46), (S.2.2.1 47))) else (
gd (okx p1 4) <|
lz (upd (S.2.2.1 47) p1.toNatClampNeg (vp_nar .boolean (1 : Int32))) fun a3 =>
lz ((200 : Int32) * p1) fun x4 =>
bd (f_X12_puts (wd_o S [(80, x4)] [] [(46, (S.2.2.1 46)), (47, a3)] [] []) (S.1 20)) fun o5 =>
bd (f_X12_puts (wd_o S [(80, o5.1)] [] [(46, o5.2), (47, a3)] [] []) (S.1 21)) fun o6 =>
bd (f_X12_puts (wd_o S [(80, o6.1)] [] [(46, o6.2), (47, a3)] [] []) (S.1 30)) fun o7 =>
bd (f_X12_puts (wd_o S [(80, o7.1)] [] [(46, o7.2), (47, a3)] [] []) (S.1 31)) fun o8 =>
bd (f_X12_puts (wd_o S [(80, o8.1)] [] [(46, o8.2), (47, a3)] [] []) (S.1 32)) fun o9 =>
bd (f_X12_puts (wd_o S [(80, o9.1)] [] [(46, o9.2), (47, a3)] [] []) (S.1 34)) fun o10 =>
bd (f_X12_puts (wd_o S [(80, o10.1)] [] [(46, o10.2), (47, a3)] [] []) (S.1 35)) fun o11 =>
bd (f_X12_puts (wd_o S [(80, o11.1)] [] [(46, o11.2), (47, a3)] [] []) (S.1 36)) fun o12 =>
bd (f_X12_puts (wd_o S [(80, o12.1)] [] [(46, o12.2), (47, a3)] [] []) (S.1 37)) fun o13 =>
bd (f_X12_puts (wd_o S [(80, o13.1)] [] [(46, o13.2), (47, a3)] [] []) (S.1 51)) fun o14 =>
bd (f_X12_puts (wd_o S [(80, o14.1)] [] [(46, o14.2), (47, a3)] [] []) (S.1 60)) fun o15 =>
lk (fun x16 a17 =>
lk (fun x19 a20 =>
lk (fun x22 a23 =>
lk (fun x25 a26 =>
lk (fun x28 a29 =>
some ((S.1 32), x28, a29, a3)) fun k354_30 =>
it3 (f_X12_image_L304 S a3 k354_30) fuel (0 : Int32) x25 a26) fun k302_27 =>
it3 (f_X12_image_L260 S a3 k302_27) fuel (0 : Int32) x22 a23) fun k258_24 =>
it3 (f_X12_image_L236 S a3 k258_24) fuel (0 : Int32) x19 a20) fun k234_21 =>
it3 (f_X12_image_L202 S a3 k234_21) fuel (0 : Int32) x16 a17) fun k200_18 =>
it3 (f_X12_image_L120 S a3 k200_18) fuel (0 : Int32) o15.1 o15.2)
set_option maxRecDepth 100000 in
set_option maxHeartbeats 4000000 in
theorem c_X12_image (l : Launch) (D : va_G) (q g : Nat → Nat) (cy : Nat → ClassId) (z : (Nat → Nat) × (Nat → Nat) × Nat) (S : wd_W) (p1 : Int32) (o : o_X12_image) (hf : f_X12_image S p1 = some o) : MX layM l yX12_image cX12_image 3 (some .int) ({ frames := 1, cells := 0, slots := 0, locals := 25 } : Room) D q g cy z [.ref (q 0), .int p1] S (some (.int o.1)) (wd_o S [(80, o.2.1)] [] [(46, o.2.2.1), (47, o.2.2.2)] [] []) 0 0 := by
  refine mx_of (own := RX12) (lc := [(0, .ref (q 0)), (1, .int p1)]) (by decide +kernel) rfl layM_ok (Nat.le_of_ble_eq_true rfl) rfl ?_
  intro X hXl hXq hXS hC hQ
  subst hXl; subst hXq; subst hXS
  unfold f_X12_image at hf
  refine go_keys (L1 := [(80, ((x_S X).1 80))]) (L2 := []) (L3 := [(46, ((x_S X).2.2.1 46)), (47, ((x_S X).2.2.1 47))]) (L4 := []) (L5 := []) [80] [] [46, 47] [] [] rfl rfl rfl rfl rfl ?_
  refine go_iload_n (pc' := 1) hC dX12_image_0 rfl rfl ?_
  refine go_i2l (pc' := 2) hC dX12_image_1 rfl ?_
  refine go_lconst (pc' := 3) hC dX12_image_2 kl_0 rfl ?_
  refine go_ldc2 (pc' := 6) hC dX12_image_3 mw_1507 rfl ?_
  obtain ⟨o1, ho1, hf⟩ := bd_e hf
  refine go_callS0 (pc' := 9) (As := [.long p1.toInt64, .long (0 : Int64), .long (3 : Int64)]) (st := []) (st' := [.int o1])   hC dX12_image_6 ⟨mw_525, mw_527, mw_5, yd_yX12_in, yp_yX12_in, Nat.le_of_ble_eq_true rfl, Nat.le_of_ble_eq_true rfl, Nat.le_of_ble_eq_true rfl, Nat.le_of_ble_eq_true rfl⟩ mw_526 rfl rfl (Nat.le_of_ble_eq_true rfl) (c_X12_in (x_l X) (x_D X) (x_q X) g (x_cy X) (x_z X) _ p1.toInt64 (0 : Int64) (3 : Int64) o1 ho1) rfl rfl (fun g => ?_)
  refine go_if_ne (tgt := 14) (pc' := 12) hC dX12_image_9 (by decide) rfl (fun h97 => ?_) (fun h97 => ?_)
  · have hf := ite_f h97 hf
    refine go_aload_n (pc' := 15) hC dX12_image_14 rfl rfl ?_
    refine go_getq (pc' := 18) hC 0 79 layM_0 rfl rfl inlX12 (Nat.le_of_ble_eq_true rfl) mw_228 rfl dX12_image_15 rfl ?_
    refine go_iload_n (pc' := 19) hC dX12_image_18 rfl rfl ?_
    refine go_iconst (pc' := 20) hC dX12_image_19 ki_1 rfl ?_
    obtain ⟨h2, hf⟩ := gd_e hf
    refine go_zast (f := ((x_S X).2.2.1 47)) (pc' := 21) hC 47 layM_47 rfl rfl dX12_image_20 (okx_in h2) rfl rfl (fun a3 ha L3' hL => ?_)
    have hf := lz_r ha hf
    clear ha
    obtain rfl : L3' = [(46, ((x_S X).2.2.1 46)), (47, a3)] := hL.symm
    refine go_aload_n (pc' := 22) hC dX12_image_21 rfl rfl ?_
    refine go_sipush (pc' := 25) hC dX12_image_22 ks_200 rfl ?_
    refine go_iload_n (pc' := 26) hC dX12_image_25 rfl rfl ?_
    refine go_imul (pc' := 27) hC dX12_image_26 rfl ?_
    refine go_namei (fun x4 hx => ?_)
    have hf := lz_r hx hf
    clear hx
    refine go_puti (L1' := [(80, x4)]) (pc' := 30) hC 0 80 layM_0 rfl rfl inlX12 tyX12_ok nmX12 (Nat.le_of_ble_eq_true rfl) mw_1522 rfl rfl rfl rfl dX12_image_27 rfl rfl rfl ?_
    refine go_aload_n (pc' := 31) hC dX12_image_30 rfl rfl ?_
    refine go_aload_n (pc' := 32) hC dX12_image_31 rfl rfl ?_
    refine go_geti (v := ((x_S X).1 20)) (pc' := 35) hC 0 20 layM_0 rfl rfl inlX12 (Nat.le_of_ble_eq_true rfl) mw_246 rfl dX12_image_32 rfl rfl ?_
    obtain ⟨o5, ho5, hf⟩ := bd_e hf
    refine go_callV (pc' := 38) (As := [.int ((x_S X).1 20)]) (st := []) (st' := []) (L1' := [(80, o5.1)]) (L2' := []) (L3' := [(46, o5.2), (47, a3)]) (L4' := []) (L5' := []) (cells' := 0) (slots' := 0) (b := 0) hC dX12_image_35 ⟨mw_1523, mw_1526, mw_5, yd_yX12_puts, yp_yX12_puts, Nat.le_of_ble_eq_true rfl, Nat.le_of_ble_eq_true rfl, Nat.le_of_ble_eq_true rfl, Nat.le_of_ble_eq_true rfl⟩ mw_1524 mw_1525 layM_0 rfl rfl rfl (Nat.le_of_ble_eq_true rfl) (c_X12_puts (x_l X) (x_D X) (x_q X) g (x_cy X) (x_z X) _ ((x_S X).1 20) o5 ho5) rfl rfl rfl rfl rfl rfl rfl rfl rfl rfl rfl rfl rfl rfl (fun g => ?_)
    refine go_aload_n (pc' := 39) hC dX12_image_38 rfl rfl ?_
    refine go_aload_n (pc' := 40) hC dX12_image_39 rfl rfl ?_
    refine go_geti (v := ((x_S X).1 21)) (pc' := 43) hC 0 21 layM_0 rfl rfl inlX12 (Nat.le_of_ble_eq_true rfl) mw_247 rfl dX12_image_40 rfl rfl ?_
    obtain ⟨o6, ho6, hf⟩ := bd_e hf
    refine go_callV (pc' := 46) (As := [.int ((x_S X).1 21)]) (st := []) (st' := []) (L1' := [(80, o6.1)]) (L2' := []) (L3' := [(46, o6.2), (47, a3)]) (L4' := []) (L5' := []) (cells' := 0) (slots' := 0) (b := 0) hC dX12_image_43 ⟨mw_1523, mw_1526, mw_5, yd_yX12_puts, yp_yX12_puts, Nat.le_of_ble_eq_true rfl, Nat.le_of_ble_eq_true rfl, Nat.le_of_ble_eq_true rfl, Nat.le_of_ble_eq_true rfl⟩ mw_1524 mw_1525 layM_0 rfl rfl rfl (Nat.le_of_ble_eq_true rfl) (c_X12_puts (x_l X) (x_D X) (x_q X) g (x_cy X) (x_z X) _ ((x_S X).1 21) o6 ho6) rfl rfl rfl rfl rfl rfl rfl rfl rfl rfl rfl rfl rfl rfl (fun g => ?_)
    refine go_aload_n (pc' := 47) hC dX12_image_46 rfl rfl ?_
    refine go_aload_n (pc' := 48) hC dX12_image_47 rfl rfl ?_
    refine go_geti (v := ((x_S X).1 30)) (pc' := 51) hC 0 30 layM_0 rfl rfl inlX12 (Nat.le_of_ble_eq_true rfl) mw_248 rfl dX12_image_48 rfl rfl ?_
    obtain ⟨o7, ho7, hf⟩ := bd_e hf
    refine go_callV (pc' := 54) (As := [.int ((x_S X).1 30)]) (st := []) (st' := []) (L1' := [(80, o7.1)]) (L2' := []) (L3' := [(46, o7.2), (47, a3)]) (L4' := []) (L5' := []) (cells' := 0) (slots' := 0) (b := 0) hC dX12_image_51 ⟨mw_1523, mw_1526, mw_5, yd_yX12_puts, yp_yX12_puts, Nat.le_of_ble_eq_true rfl, Nat.le_of_ble_eq_true rfl, Nat.le_of_ble_eq_true rfl, Nat.le_of_ble_eq_true rfl⟩ mw_1524 mw_1525 layM_0 rfl rfl rfl (Nat.le_of_ble_eq_true rfl) (c_X12_puts (x_l X) (x_D X) (x_q X) g (x_cy X) (x_z X) _ ((x_S X).1 30) o7 ho7) rfl rfl rfl rfl rfl rfl rfl rfl rfl rfl rfl rfl rfl rfl (fun g => ?_)
    refine go_aload_n (pc' := 55) hC dX12_image_54 rfl rfl ?_
    refine go_aload_n (pc' := 56) hC dX12_image_55 rfl rfl ?_
    refine go_geti (v := ((x_S X).1 31)) (pc' := 59) hC 0 31 layM_0 rfl rfl inlX12 (Nat.le_of_ble_eq_true rfl) mw_249 rfl dX12_image_56 rfl rfl ?_
    obtain ⟨o8, ho8, hf⟩ := bd_e hf
    refine go_callV (pc' := 62) (As := [.int ((x_S X).1 31)]) (st := []) (st' := []) (L1' := [(80, o8.1)]) (L2' := []) (L3' := [(46, o8.2), (47, a3)]) (L4' := []) (L5' := []) (cells' := 0) (slots' := 0) (b := 0) hC dX12_image_59 ⟨mw_1523, mw_1526, mw_5, yd_yX12_puts, yp_yX12_puts, Nat.le_of_ble_eq_true rfl, Nat.le_of_ble_eq_true rfl, Nat.le_of_ble_eq_true rfl, Nat.le_of_ble_eq_true rfl⟩ mw_1524 mw_1525 layM_0 rfl rfl rfl (Nat.le_of_ble_eq_true rfl) (c_X12_puts (x_l X) (x_D X) (x_q X) g (x_cy X) (x_z X) _ ((x_S X).1 31) o8 ho8) rfl rfl rfl rfl rfl rfl rfl rfl rfl rfl rfl rfl rfl rfl (fun g => ?_)
    refine go_aload_n (pc' := 63) hC dX12_image_62 rfl rfl ?_
    refine go_aload_n (pc' := 64) hC dX12_image_63 rfl rfl ?_
    refine go_geti (v := ((x_S X).1 32)) (pc' := 67) hC 0 32 layM_0 rfl rfl inlX12 (Nat.le_of_ble_eq_true rfl) mw_250 rfl dX12_image_64 rfl rfl ?_
    obtain ⟨o9, ho9, hf⟩ := bd_e hf
    refine go_callV (pc' := 70) (As := [.int ((x_S X).1 32)]) (st := []) (st' := []) (L1' := [(80, o9.1)]) (L2' := []) (L3' := [(46, o9.2), (47, a3)]) (L4' := []) (L5' := []) (cells' := 0) (slots' := 0) (b := 0) hC dX12_image_67 ⟨mw_1523, mw_1526, mw_5, yd_yX12_puts, yp_yX12_puts, Nat.le_of_ble_eq_true rfl, Nat.le_of_ble_eq_true rfl, Nat.le_of_ble_eq_true rfl, Nat.le_of_ble_eq_true rfl⟩ mw_1524 mw_1525 layM_0 rfl rfl rfl (Nat.le_of_ble_eq_true rfl) (c_X12_puts (x_l X) (x_D X) (x_q X) g (x_cy X) (x_z X) _ ((x_S X).1 32) o9 ho9) rfl rfl rfl rfl rfl rfl rfl rfl rfl rfl rfl rfl rfl rfl (fun g => ?_)
    refine go_aload_n (pc' := 71) hC dX12_image_70 rfl rfl ?_
    refine go_aload_n (pc' := 72) hC dX12_image_71 rfl rfl ?_
    refine go_geti (v := ((x_S X).1 34)) (pc' := 75) hC 0 34 layM_0 rfl rfl inlX12 (Nat.le_of_ble_eq_true rfl) mw_251 rfl dX12_image_72 rfl rfl ?_
    obtain ⟨o10, ho10, hf⟩ := bd_e hf
    refine go_callV (pc' := 78) (As := [.int ((x_S X).1 34)]) (st := []) (st' := []) (L1' := [(80, o10.1)]) (L2' := []) (L3' := [(46, o10.2), (47, a3)]) (L4' := []) (L5' := []) (cells' := 0) (slots' := 0) (b := 0) hC dX12_image_75 ⟨mw_1523, mw_1526, mw_5, yd_yX12_puts, yp_yX12_puts, Nat.le_of_ble_eq_true rfl, Nat.le_of_ble_eq_true rfl, Nat.le_of_ble_eq_true rfl, Nat.le_of_ble_eq_true rfl⟩ mw_1524 mw_1525 layM_0 rfl rfl rfl (Nat.le_of_ble_eq_true rfl) (c_X12_puts (x_l X) (x_D X) (x_q X) g (x_cy X) (x_z X) _ ((x_S X).1 34) o10 ho10) rfl rfl rfl rfl rfl rfl rfl rfl rfl rfl rfl rfl rfl rfl (fun g => ?_)
    refine go_aload_n (pc' := 79) hC dX12_image_78 rfl rfl ?_
    refine go_aload_n (pc' := 80) hC dX12_image_79 rfl rfl ?_
    refine go_geti (v := ((x_S X).1 35)) (pc' := 83) hC 0 35 layM_0 rfl rfl inlX12 (Nat.le_of_ble_eq_true rfl) mw_252 rfl dX12_image_80 rfl rfl ?_
    obtain ⟨o11, ho11, hf⟩ := bd_e hf
    refine go_callV (pc' := 86) (As := [.int ((x_S X).1 35)]) (st := []) (st' := []) (L1' := [(80, o11.1)]) (L2' := []) (L3' := [(46, o11.2), (47, a3)]) (L4' := []) (L5' := []) (cells' := 0) (slots' := 0) (b := 0) hC dX12_image_83 ⟨mw_1523, mw_1526, mw_5, yd_yX12_puts, yp_yX12_puts, Nat.le_of_ble_eq_true rfl, Nat.le_of_ble_eq_true rfl, Nat.le_of_ble_eq_true rfl, Nat.le_of_ble_eq_true rfl⟩ mw_1524 mw_1525 layM_0 rfl rfl rfl (Nat.le_of_ble_eq_true rfl) (c_X12_puts (x_l X) (x_D X) (x_q X) g (x_cy X) (x_z X) _ ((x_S X).1 35) o11 ho11) rfl rfl rfl rfl rfl rfl rfl rfl rfl rfl rfl rfl rfl rfl (fun g => ?_)
    refine go_aload_n (pc' := 87) hC dX12_image_86 rfl rfl ?_
    refine go_aload_n (pc' := 88) hC dX12_image_87 rfl rfl ?_
    refine go_geti (v := ((x_S X).1 36)) (pc' := 91) hC 0 36 layM_0 rfl rfl inlX12 (Nat.le_of_ble_eq_true rfl) mw_253 rfl dX12_image_88 rfl rfl ?_
    obtain ⟨o12, ho12, hf⟩ := bd_e hf
    refine go_callV (pc' := 94) (As := [.int ((x_S X).1 36)]) (st := []) (st' := []) (L1' := [(80, o12.1)]) (L2' := []) (L3' := [(46, o12.2), (47, a3)]) (L4' := []) (L5' := []) (cells' := 0) (slots' := 0) (b := 0) hC dX12_image_91 ⟨mw_1523, mw_1526, mw_5, yd_yX12_puts, yp_yX12_puts, Nat.le_of_ble_eq_true rfl, Nat.le_of_ble_eq_true rfl, Nat.le_of_ble_eq_true rfl, Nat.le_of_ble_eq_true rfl⟩ mw_1524 mw_1525 layM_0 rfl rfl rfl (Nat.le_of_ble_eq_true rfl) (c_X12_puts (x_l X) (x_D X) (x_q X) g (x_cy X) (x_z X) _ ((x_S X).1 36) o12 ho12) rfl rfl rfl rfl rfl rfl rfl rfl rfl rfl rfl rfl rfl rfl (fun g => ?_)
    refine go_aload_n (pc' := 95) hC dX12_image_94 rfl rfl ?_
    refine go_aload_n (pc' := 96) hC dX12_image_95 rfl rfl ?_
    refine go_geti (v := ((x_S X).1 37)) (pc' := 99) hC 0 37 layM_0 rfl rfl inlX12 (Nat.le_of_ble_eq_true rfl) mw_254 rfl dX12_image_96 rfl rfl ?_
    obtain ⟨o13, ho13, hf⟩ := bd_e hf
    refine go_callV (pc' := 102) (As := [.int ((x_S X).1 37)]) (st := []) (st' := []) (L1' := [(80, o13.1)]) (L2' := []) (L3' := [(46, o13.2), (47, a3)]) (L4' := []) (L5' := []) (cells' := 0) (slots' := 0) (b := 0) hC dX12_image_99 ⟨mw_1523, mw_1526, mw_5, yd_yX12_puts, yp_yX12_puts, Nat.le_of_ble_eq_true rfl, Nat.le_of_ble_eq_true rfl, Nat.le_of_ble_eq_true rfl, Nat.le_of_ble_eq_true rfl⟩ mw_1524 mw_1525 layM_0 rfl rfl rfl (Nat.le_of_ble_eq_true rfl) (c_X12_puts (x_l X) (x_D X) (x_q X) g (x_cy X) (x_z X) _ ((x_S X).1 37) o13 ho13) rfl rfl rfl rfl rfl rfl rfl rfl rfl rfl rfl rfl rfl rfl (fun g => ?_)
    refine go_aload_n (pc' := 103) hC dX12_image_102 rfl rfl ?_
    refine go_aload_n (pc' := 104) hC dX12_image_103 rfl rfl ?_
    refine go_geti (v := ((x_S X).1 51)) (pc' := 107) hC 0 51 layM_0 rfl rfl inlX12 (Nat.le_of_ble_eq_true rfl) mw_255 rfl dX12_image_104 rfl rfl ?_
    obtain ⟨o14, ho14, hf⟩ := bd_e hf
    refine go_callV (pc' := 110) (As := [.int ((x_S X).1 51)]) (st := []) (st' := []) (L1' := [(80, o14.1)]) (L2' := []) (L3' := [(46, o14.2), (47, a3)]) (L4' := []) (L5' := []) (cells' := 0) (slots' := 0) (b := 0) hC dX12_image_107 ⟨mw_1523, mw_1526, mw_5, yd_yX12_puts, yp_yX12_puts, Nat.le_of_ble_eq_true rfl, Nat.le_of_ble_eq_true rfl, Nat.le_of_ble_eq_true rfl, Nat.le_of_ble_eq_true rfl⟩ mw_1524 mw_1525 layM_0 rfl rfl rfl (Nat.le_of_ble_eq_true rfl) (c_X12_puts (x_l X) (x_D X) (x_q X) g (x_cy X) (x_z X) _ ((x_S X).1 51) o14 ho14) rfl rfl rfl rfl rfl rfl rfl rfl rfl rfl rfl rfl rfl rfl (fun g => ?_)
    refine go_aload_n (pc' := 111) hC dX12_image_110 rfl rfl ?_
    refine go_aload_n (pc' := 112) hC dX12_image_111 rfl rfl ?_
    refine go_geti (v := ((x_S X).1 60)) (pc' := 115) hC 0 60 layM_0 rfl rfl inlX12 (Nat.le_of_ble_eq_true rfl) mw_256 rfl dX12_image_112 rfl rfl ?_
    obtain ⟨o15, ho15, hf⟩ := bd_e hf
    refine go_callV (pc' := 118) (As := [.int ((x_S X).1 60)]) (st := []) (st' := []) (L1' := [(80, o15.1)]) (L2' := []) (L3' := [(46, o15.2), (47, a3)]) (L4' := []) (L5' := []) (cells' := 0) (slots' := 0) (b := 0) hC dX12_image_115 ⟨mw_1523, mw_1526, mw_5, yd_yX12_puts, yp_yX12_puts, Nat.le_of_ble_eq_true rfl, Nat.le_of_ble_eq_true rfl, Nat.le_of_ble_eq_true rfl, Nat.le_of_ble_eq_true rfl⟩ mw_1524 mw_1525 layM_0 rfl rfl rfl (Nat.le_of_ble_eq_true rfl) (c_X12_puts (x_l X) (x_D X) (x_q X) g (x_cy X) (x_z X) _ ((x_S X).1 60) o15 ho15) rfl rfl rfl rfl rfl rfl rfl rfl rfl rfl rfl rfl rfl rfl (fun g => ?_)
    refine go_iconst (pc' := 119) hC dX12_image_118 ki_0 rfl ?_
    refine go_istore_n (lc' := [(0, .ref (x_q X 0)), (1, .int p1), (2, .int (0 : Int32))]) (pc' := 120) hC dX12_image_119 (Nat.le_of_ble_eq_true rfl) rfl rfl ?_
    obtain ⟨k200_18, hk200_18, hf⟩ := lk_e2 hf
    have jk200_18 : ∀ (x16 : Int32) (a17 : Nat → Int32) (g : Nat → Nat), k200_18 x16 a17 = some o → Go X layM 200 [(0, .ref (x_q X 0))] [] g [(80, x16)] [] [(46, a17), (47, a3)] [] [] 0 0 := by
      intro x16 a17 g hf
      have hf := hk200_18 x16 a17 hf
      clear hk200_18
      refine go_iconst (pc' := 201) hC dX12_image_200 ki_0 rfl ?_
      refine go_istore_n (lc' := [(0, .ref (x_q X 0)), (2, .int (0 : Int32))]) (pc' := 202) hC dX12_image_201 (Nat.le_of_ble_eq_true rfl) rfl rfl ?_
      obtain ⟨k234_21, hk234_21, hf⟩ := lk_e2 hf
      have jk234_21 : ∀ (x19 : Int32) (a20 : Nat → Int32) (g : Nat → Nat), k234_21 x19 a20 = some o → Go X layM 234 [(0, .ref (x_q X 0))] [] g [(80, x19)] [] [(46, a20), (47, a3)] [] [] 0 0 := by
        intro x19 a20 g hf
        have hf := hk234_21 x19 a20 hf
        clear hk234_21
        refine go_iconst (pc' := 235) hC dX12_image_234 ki_0 rfl ?_
        refine go_istore_n (lc' := [(0, .ref (x_q X 0)), (2, .int (0 : Int32))]) (pc' := 236) hC dX12_image_235 (Nat.le_of_ble_eq_true rfl) rfl rfl ?_
        obtain ⟨k258_24, hk258_24, hf⟩ := lk_e2 hf
        have jk258_24 : ∀ (x22 : Int32) (a23 : Nat → Int32) (g : Nat → Nat), k258_24 x22 a23 = some o → Go X layM 258 [(0, .ref (x_q X 0))] [] g [(80, x22)] [] [(46, a23), (47, a3)] [] [] 0 0 := by
          intro x22 a23 g hf
          have hf := hk258_24 x22 a23 hf
          clear hk258_24
          refine go_iconst (pc' := 259) hC dX12_image_258 ki_0 rfl ?_
          refine go_istore_n (lc' := [(0, .ref (x_q X 0)), (2, .int (0 : Int32))]) (pc' := 260) hC dX12_image_259 (Nat.le_of_ble_eq_true rfl) rfl rfl ?_
          obtain ⟨k302_27, hk302_27, hf⟩ := lk_e2 hf
          have jk302_27 : ∀ (x25 : Int32) (a26 : Nat → Int32) (g : Nat → Nat), k302_27 x25 a26 = some o → Go X layM 302 [(0, .ref (x_q X 0))] [] g [(80, x25)] [] [(46, a26), (47, a3)] [] [] 0 0 := by
            intro x25 a26 g hf
            have hf := hk302_27 x25 a26 hf
            clear hk302_27
            refine go_iconst (pc' := 303) hC dX12_image_302 ki_0 rfl ?_
            refine go_istore_n (lc' := [(0, .ref (x_q X 0)), (2, .int (0 : Int32))]) (pc' := 304) hC dX12_image_303 (Nat.le_of_ble_eq_true rfl) rfl rfl ?_
            obtain ⟨k354_30, hk354_30, hf⟩ := lk_e2 hf
            have jk354_30 : ∀ (x28 : Int32) (a29 : Nat → Int32) (g : Nat → Nat), k354_30 x28 a29 = some o → Go X layM 354 [(0, .ref (x_q X 0))] [] g [(80, x28)] [] [(46, a29), (47, a3)] [] [] 0 0 := by
              intro x28 a29 g hf
              have hf := hk354_30 x28 a29 hf
              clear hk354_30
              refine go_aload_n (pc' := 355) hC dX12_image_354 rfl rfl ?_
              refine go_geti (v := ((x_S X).1 32)) (pc' := 358) hC 0 32 layM_0 rfl rfl inlX12 (Nat.le_of_ble_eq_true rfl) mw_250 rfl dX12_image_355 rfl rfl ?_
              obtain rfl := Option.some.inj hf
              exact go_iret hC hQ dX12_image_358 rfl rfl rfl rfl rfl rfl
            clear hk354_30
            have l304_45 : ∀ (nn : Nat) (x31 : Int32) (x32 : Int32) (a33 : Nat → Int32) (g : Nat → Nat), it3 (f_X12_image_L304 (x_S X) a3 k354_30) nn x31 x32 a33 = some o → Go X layM 304 [(0, .ref (x_q X 0)), (2, .int x31)] [] g [(80, x32)] [] [(46, a33), (47, a3)] [] [] 0 0 := by
              intro nn
              induction nn with
              | zero =>
                intro x31 x32 a33 g hf
                exact none_no hf
              | succ nn ih =>
                intro x31 x32 a33 g hf
                have hf : f_X12_image_L304 (x_S X) a3 k354_30 (it3 (f_X12_image_L304 (x_S X) a3 k354_30) nn) x31 x32 a33 = some o := hf
                generalize it3 (f_X12_image_L304 (x_S X) a3 k354_30) nn = r34 at ih hf
                unfold f_X12_image_L304 at hf
                refine go_iload_n (pc' := 305) hC dX12_image_304 rfl rfl ?_
                refine go_bipush (pc' := 307) hC dX12_image_305 kb_6 rfl ?_
                refine go_icmp_ge (tgt := 354) (pc' := 310) hC dX12_image_307 (by decide) rfl (fun h44 => ?_) (fun h44 => ?_)
                · have hf := ite_t h44 hf
                  refine go_sub [0] rfl ?_
                  exact jk354_30 x32 a33 g hf
                · have hf := ite_f h44 hf
                  refine go_aload_n (pc' := 311) hC dX12_image_310 rfl rfl ?_
                  refine go_aload_n (pc' := 312) hC dX12_image_311 rfl rfl ?_
                  refine go_getq (pc' := 315) hC 0 61 layM_0 rfl rfl inlX12 (Nat.le_of_ble_eq_true rfl) mw_213 rfl dX12_image_312 rfl ?_
                  refine go_iload_n (pc' := 316) hC dX12_image_315 rfl rfl ?_
                  obtain ⟨h35, hf⟩ := gd_e hf
                  refine go_iald (f := ((x_S X).2.2.1 32)) (pc' := 317) hC 32 layM_32 rfl rfl dX12_image_316 (okx_in h35) rfl ?_
                  obtain ⟨o36, ho36, hf⟩ := bd_e hf
                  refine go_callV (pc' := 320) (As := [.int (((x_S X).2.2.1 32) x31.toNatClampNeg)]) (st := []) (st' := []) (L1' := [(80, o36.1)]) (L2' := []) (L3' := [(46, o36.2), (47, a3)]) (L4' := []) (L5' := []) (cells' := 0) (slots' := 0) (b := 0) hC dX12_image_317 ⟨mw_1523, mw_1526, mw_5, yd_yX12_puts, yp_yX12_puts, Nat.le_of_ble_eq_true rfl, Nat.le_of_ble_eq_true rfl, Nat.le_of_ble_eq_true rfl, Nat.le_of_ble_eq_true rfl⟩ mw_1524 mw_1525 layM_0 rfl rfl rfl (Nat.le_of_ble_eq_true rfl) (c_X12_puts (x_l X) (x_D X) (x_q X) g (x_cy X) (x_z X) _ (((x_S X).2.2.1 32) x31.toNatClampNeg) o36 ho36) rfl rfl rfl rfl rfl rfl rfl rfl rfl rfl rfl rfl rfl rfl (fun g => ?_)
                  refine go_aload_n (pc' := 321) hC dX12_image_320 rfl rfl ?_
                  refine go_aload_n (pc' := 322) hC dX12_image_321 rfl rfl ?_
                  refine go_getq (pc' := 325) hC 0 62 layM_0 rfl rfl inlX12 (Nat.le_of_ble_eq_true rfl) mw_214 rfl dX12_image_322 rfl ?_
                  refine go_iload_n (pc' := 326) hC dX12_image_325 rfl rfl ?_
                  obtain ⟨h37, hf⟩ := gd_e hf
                  refine go_iald (f := ((x_S X).2.2.1 33)) (pc' := 327) hC 33 layM_33 rfl rfl dX12_image_326 (okx_in h37) rfl ?_
                  obtain ⟨o38, ho38, hf⟩ := bd_e hf
                  refine go_callV (pc' := 330) (As := [.int (((x_S X).2.2.1 33) x31.toNatClampNeg)]) (st := []) (st' := []) (L1' := [(80, o38.1)]) (L2' := []) (L3' := [(46, o38.2), (47, a3)]) (L4' := []) (L5' := []) (cells' := 0) (slots' := 0) (b := 0) hC dX12_image_327 ⟨mw_1523, mw_1526, mw_5, yd_yX12_puts, yp_yX12_puts, Nat.le_of_ble_eq_true rfl, Nat.le_of_ble_eq_true rfl, Nat.le_of_ble_eq_true rfl, Nat.le_of_ble_eq_true rfl⟩ mw_1524 mw_1525 layM_0 rfl rfl rfl (Nat.le_of_ble_eq_true rfl) (c_X12_puts (x_l X) (x_D X) (x_q X) g (x_cy X) (x_z X) _ (((x_S X).2.2.1 33) x31.toNatClampNeg) o38 ho38) rfl rfl rfl rfl rfl rfl rfl rfl rfl rfl rfl rfl rfl rfl (fun g => ?_)
                  refine go_aload_n (pc' := 331) hC dX12_image_330 rfl rfl ?_
                  refine go_aload_n (pc' := 332) hC dX12_image_331 rfl rfl ?_
                  refine go_getq (pc' := 335) hC 0 63 layM_0 rfl rfl inlX12 (Nat.le_of_ble_eq_true rfl) mw_215 rfl dX12_image_332 rfl ?_
                  refine go_iload_n (pc' := 336) hC dX12_image_335 rfl rfl ?_
                  obtain ⟨h39, hf⟩ := gd_e hf
                  refine go_zald (f := ((x_S X).2.2.1 34)) (pc' := 337) hC 34 layM_34 rfl rfl dX12_image_336 (okx_in h39) rfl ?_
                  obtain ⟨k345_41, hk345_41, hf⟩ := lk_e1 hf
                  have jk345_41 : ∀ (x40 : Int32) (g : Nat → Nat), k345_41 x40 = some o → Go X layM 345 [(0, .ref (x_q X 0)), (2, .int x31)] [.int x40, .ref (x_q X 0)] g [(80, o38.1)] [] [(46, o38.2), (47, a3)] [] [] 0 0 := by
                    intro x40 g hf
                    have hf := hk345_41 x40 hf
                    clear hk345_41
                    obtain ⟨o42, ho42, hf⟩ := bd_e hf
                    refine go_callV (pc' := 348) (As := [.int x40]) (st := []) (st' := []) (L1' := [(80, o42.1)]) (L2' := []) (L3' := [(46, o42.2), (47, a3)]) (L4' := []) (L5' := []) (cells' := 0) (slots' := 0) (b := 0) hC dX12_image_345 ⟨mw_1523, mw_1526, mw_5, yd_yX12_puts, yp_yX12_puts, Nat.le_of_ble_eq_true rfl, Nat.le_of_ble_eq_true rfl, Nat.le_of_ble_eq_true rfl, Nat.le_of_ble_eq_true rfl⟩ mw_1524 mw_1525 layM_0 rfl rfl rfl (Nat.le_of_ble_eq_true rfl) (c_X12_puts (x_l X) (x_D X) (x_q X) g (x_cy X) (x_z X) _ x40 o42 ho42) rfl rfl rfl rfl rfl rfl rfl rfl rfl rfl rfl rfl rfl rfl (fun g => ?_)
                    refine go_iinc (lc' := [(0, .ref (x_q X 0)), (2, .int (x31 + (1 : Int32)))]) (pc' := 351) hC dX12_image_348 rfl ki_1 (Nat.le_of_ble_eq_true rfl) rfl rfl ?_
                    refine go_goto (tgt := 304) hC dX12_image_351 (by decide) ?_
                    exact ih (x31 + (1 : Int32)) o42.1 o42.2 g hf
                  clear hk345_41
                  refine go_if_eq (tgt := 344) (pc' := 340) hC dX12_image_337 (by decide) rfl (fun h43 => ?_) (fun h43 => ?_)
                  · have hf := ite_t h43 hf
                    refine go_iconst (pc' := 345) hC dX12_image_344 ki_0 rfl ?_
                    exact jk345_41 (0 : Int32) g hf
                  · have hf := ite_f h43 hf
                    refine go_iconst (pc' := 341) hC dX12_image_340 ki_1 rfl ?_
                    refine go_goto (tgt := 345) hC dX12_image_341 (by decide) ?_
                    exact jk345_41 (1 : Int32) g hf
            exact l304_45 fuel (0 : Int32) x25 a26 g hf
          clear hk302_27
          have l260_57 : ∀ (nn : Nat) (x46 : Int32) (x47 : Int32) (a48 : Nat → Int32) (g : Nat → Nat), it3 (f_X12_image_L260 (x_S X) a3 k302_27) nn x46 x47 a48 = some o → Go X layM 260 [(0, .ref (x_q X 0)), (2, .int x46)] [] g [(80, x47)] [] [(46, a48), (47, a3)] [] [] 0 0 := by
            intro nn
            induction nn with
            | zero =>
              intro x46 x47 a48 g hf
              exact none_no hf
            | succ nn ih =>
              intro x46 x47 a48 g hf
              have hf : f_X12_image_L260 (x_S X) a3 k302_27 (it3 (f_X12_image_L260 (x_S X) a3 k302_27) nn) x46 x47 a48 = some o := hf
              generalize it3 (f_X12_image_L260 (x_S X) a3 k302_27) nn = r49 at ih hf
              unfold f_X12_image_L260 at hf
              refine go_iload_n (pc' := 261) hC dX12_image_260 rfl rfl ?_
              refine go_bipush (pc' := 263) hC dX12_image_261 kb_9 rfl ?_
              refine go_icmp_ge (tgt := 302) (pc' := 266) hC dX12_image_263 (by decide) rfl (fun h56 => ?_) (fun h56 => ?_)
              · have hf := ite_t h56 hf
                refine go_sub [0] rfl ?_
                exact jk302_27 x47 a48 g hf
              · have hf := ite_f h56 hf
                refine go_aload_n (pc' := 267) hC dX12_image_266 rfl rfl ?_
                refine go_aload_n (pc' := 268) hC dX12_image_267 rfl rfl ?_
                refine go_getq (pc' := 271) hC 0 52 layM_0 rfl rfl inlX12 (Nat.le_of_ble_eq_true rfl) mw_208 rfl dX12_image_268 rfl ?_
                refine go_iload_n (pc' := 272) hC dX12_image_271 rfl rfl ?_
                obtain ⟨h50, hf⟩ := gd_e hf
                refine go_iald (f := ((x_S X).2.2.1 27)) (pc' := 273) hC 27 layM_27 rfl rfl dX12_image_272 (okx_in h50) rfl ?_
                obtain ⟨o51, ho51, hf⟩ := bd_e hf
                refine go_callV (pc' := 276) (As := [.int (((x_S X).2.2.1 27) x46.toNatClampNeg)]) (st := []) (st' := []) (L1' := [(80, o51.1)]) (L2' := []) (L3' := [(46, o51.2), (47, a3)]) (L4' := []) (L5' := []) (cells' := 0) (slots' := 0) (b := 0) hC dX12_image_273 ⟨mw_1523, mw_1526, mw_5, yd_yX12_puts, yp_yX12_puts, Nat.le_of_ble_eq_true rfl, Nat.le_of_ble_eq_true rfl, Nat.le_of_ble_eq_true rfl, Nat.le_of_ble_eq_true rfl⟩ mw_1524 mw_1525 layM_0 rfl rfl rfl (Nat.le_of_ble_eq_true rfl) (c_X12_puts (x_l X) (x_D X) (x_q X) g (x_cy X) (x_z X) _ (((x_S X).2.2.1 27) x46.toNatClampNeg) o51 ho51) rfl rfl rfl rfl rfl rfl rfl rfl rfl rfl rfl rfl rfl rfl (fun g => ?_)
                refine go_aload_n (pc' := 277) hC dX12_image_276 rfl rfl ?_
                refine go_aload_n (pc' := 278) hC dX12_image_277 rfl rfl ?_
                refine go_getq (pc' := 281) hC 0 53 layM_0 rfl rfl inlX12 (Nat.le_of_ble_eq_true rfl) mw_209 rfl dX12_image_278 rfl ?_
                refine go_iload_n (pc' := 282) hC dX12_image_281 rfl rfl ?_
                obtain ⟨h52, hf⟩ := gd_e hf
                refine go_iald (f := ((x_S X).2.2.1 28)) (pc' := 283) hC 28 layM_28 rfl rfl dX12_image_282 (okx_in h52) rfl ?_
                obtain ⟨o53, ho53, hf⟩ := bd_e hf
                refine go_callV (pc' := 286) (As := [.int (((x_S X).2.2.1 28) x46.toNatClampNeg)]) (st := []) (st' := []) (L1' := [(80, o53.1)]) (L2' := []) (L3' := [(46, o53.2), (47, a3)]) (L4' := []) (L5' := []) (cells' := 0) (slots' := 0) (b := 0) hC dX12_image_283 ⟨mw_1523, mw_1526, mw_5, yd_yX12_puts, yp_yX12_puts, Nat.le_of_ble_eq_true rfl, Nat.le_of_ble_eq_true rfl, Nat.le_of_ble_eq_true rfl, Nat.le_of_ble_eq_true rfl⟩ mw_1524 mw_1525 layM_0 rfl rfl rfl (Nat.le_of_ble_eq_true rfl) (c_X12_puts (x_l X) (x_D X) (x_q X) g (x_cy X) (x_z X) _ (((x_S X).2.2.1 28) x46.toNatClampNeg) o53 ho53) rfl rfl rfl rfl rfl rfl rfl rfl rfl rfl rfl rfl rfl rfl (fun g => ?_)
                refine go_aload_n (pc' := 287) hC dX12_image_286 rfl rfl ?_
                refine go_aload_n (pc' := 288) hC dX12_image_287 rfl rfl ?_
                refine go_getq (pc' := 291) hC 0 54 layM_0 rfl rfl inlX12 (Nat.le_of_ble_eq_true rfl) mw_210 rfl dX12_image_288 rfl ?_
                refine go_iload_n (pc' := 292) hC dX12_image_291 rfl rfl ?_
                obtain ⟨h54, hf⟩ := gd_e hf
                refine go_iald (f := ((x_S X).2.2.1 29)) (pc' := 293) hC 29 layM_29 rfl rfl dX12_image_292 (okx_in h54) rfl ?_
                obtain ⟨o55, ho55, hf⟩ := bd_e hf
                refine go_callV (pc' := 296) (As := [.int (((x_S X).2.2.1 29) x46.toNatClampNeg)]) (st := []) (st' := []) (L1' := [(80, o55.1)]) (L2' := []) (L3' := [(46, o55.2), (47, a3)]) (L4' := []) (L5' := []) (cells' := 0) (slots' := 0) (b := 0) hC dX12_image_293 ⟨mw_1523, mw_1526, mw_5, yd_yX12_puts, yp_yX12_puts, Nat.le_of_ble_eq_true rfl, Nat.le_of_ble_eq_true rfl, Nat.le_of_ble_eq_true rfl, Nat.le_of_ble_eq_true rfl⟩ mw_1524 mw_1525 layM_0 rfl rfl rfl (Nat.le_of_ble_eq_true rfl) (c_X12_puts (x_l X) (x_D X) (x_q X) g (x_cy X) (x_z X) _ (((x_S X).2.2.1 29) x46.toNatClampNeg) o55 ho55) rfl rfl rfl rfl rfl rfl rfl rfl rfl rfl rfl rfl rfl rfl (fun g => ?_)
                refine go_iinc (lc' := [(0, .ref (x_q X 0)), (2, .int (x46 + (1 : Int32)))]) (pc' := 299) hC dX12_image_296 rfl ki_1 (Nat.le_of_ble_eq_true rfl) rfl rfl ?_
                refine go_goto (tgt := 260) hC dX12_image_299 (by decide) ?_
                exact ih (x46 + (1 : Int32)) o55.1 o55.2 g hf
          exact l260_57 fuel (0 : Int32) x22 a23 g hf
        clear hk258_24
        have l236_65 : ∀ (nn : Nat) (x58 : Int32) (x59 : Int32) (a60 : Nat → Int32) (g : Nat → Nat), it3 (f_X12_image_L236 (x_S X) a3 k258_24) nn x58 x59 a60 = some o → Go X layM 236 [(0, .ref (x_q X 0)), (2, .int x58)] [] g [(80, x59)] [] [(46, a60), (47, a3)] [] [] 0 0 := by
          intro nn
          induction nn with
          | zero =>
            intro x58 x59 a60 g hf
            exact none_no hf
          | succ nn ih =>
            intro x58 x59 a60 g hf
            have hf : f_X12_image_L236 (x_S X) a3 k258_24 (it3 (f_X12_image_L236 (x_S X) a3 k258_24) nn) x58 x59 a60 = some o := hf
            generalize it3 (f_X12_image_L236 (x_S X) a3 k258_24) nn = r61 at ih hf
            unfold f_X12_image_L236 at hf
            refine go_iload_n (pc' := 237) hC dX12_image_236 rfl rfl ?_
            refine go_bipush (pc' := 239) hC dX12_image_237 kb_15 rfl ?_
            refine go_icmp_ge (tgt := 258) (pc' := 242) hC dX12_image_239 (by decide) rfl (fun h64 => ?_) (fun h64 => ?_)
            · have hf := ite_t h64 hf
              refine go_sub [0] rfl ?_
              exact jk258_24 x59 a60 g hf
            · have hf := ite_f h64 hf
              refine go_aload_n (pc' := 243) hC dX12_image_242 rfl rfl ?_
              refine go_aload_n (pc' := 244) hC dX12_image_243 rfl rfl ?_
              refine go_getq (pc' := 247) hC 0 33 layM_0 rfl rfl inlX12 (Nat.le_of_ble_eq_true rfl) mw_196 rfl dX12_image_244 rfl ?_
              refine go_iload_n (pc' := 248) hC dX12_image_247 rfl rfl ?_
              obtain ⟨h62, hf⟩ := gd_e hf
              refine go_iald (f := ((x_S X).2.2.1 16)) (pc' := 249) hC 16 layM_16 rfl rfl dX12_image_248 (okx_in h62) rfl ?_
              obtain ⟨o63, ho63, hf⟩ := bd_e hf
              refine go_callV (pc' := 252) (As := [.int (((x_S X).2.2.1 16) x58.toNatClampNeg)]) (st := []) (st' := []) (L1' := [(80, o63.1)]) (L2' := []) (L3' := [(46, o63.2), (47, a3)]) (L4' := []) (L5' := []) (cells' := 0) (slots' := 0) (b := 0) hC dX12_image_249 ⟨mw_1523, mw_1526, mw_5, yd_yX12_puts, yp_yX12_puts, Nat.le_of_ble_eq_true rfl, Nat.le_of_ble_eq_true rfl, Nat.le_of_ble_eq_true rfl, Nat.le_of_ble_eq_true rfl⟩ mw_1524 mw_1525 layM_0 rfl rfl rfl (Nat.le_of_ble_eq_true rfl) (c_X12_puts (x_l X) (x_D X) (x_q X) g (x_cy X) (x_z X) _ (((x_S X).2.2.1 16) x58.toNatClampNeg) o63 ho63) rfl rfl rfl rfl rfl rfl rfl rfl rfl rfl rfl rfl rfl rfl (fun g => ?_)
              refine go_iinc (lc' := [(0, .ref (x_q X 0)), (2, .int (x58 + (1 : Int32)))]) (pc' := 255) hC dX12_image_252 rfl ki_1 (Nat.le_of_ble_eq_true rfl) rfl rfl ?_
              refine go_goto (tgt := 236) hC dX12_image_255 (by decide) ?_
              exact ih (x58 + (1 : Int32)) o63.1 o63.2 g hf
        exact l236_65 fuel (0 : Int32) x19 a20 g hf
      clear hk234_21
      have l202_75 : ∀ (nn : Nat) (x66 : Int32) (x67 : Int32) (a68 : Nat → Int32) (g : Nat → Nat), it3 (f_X12_image_L202 (x_S X) a3 k234_21) nn x66 x67 a68 = some o → Go X layM 202 [(0, .ref (x_q X 0)), (2, .int x66)] [] g [(80, x67)] [] [(46, a68), (47, a3)] [] [] 0 0 := by
        intro nn
        induction nn with
        | zero =>
          intro x66 x67 a68 g hf
          exact none_no hf
        | succ nn ih =>
          intro x66 x67 a68 g hf
          have hf : f_X12_image_L202 (x_S X) a3 k234_21 (it3 (f_X12_image_L202 (x_S X) a3 k234_21) nn) x66 x67 a68 = some o := hf
          generalize it3 (f_X12_image_L202 (x_S X) a3 k234_21) nn = r69 at ih hf
          unfold f_X12_image_L202 at hf
          refine go_iload_n (pc' := 203) hC dX12_image_202 rfl rfl ?_
          refine go_bipush (pc' := 205) hC dX12_image_203 kb_10 rfl ?_
          refine go_icmp_ge (tgt := 234) (pc' := 208) hC dX12_image_205 (by decide) rfl (fun h74 => ?_) (fun h74 => ?_)
          · have hf := ite_t h74 hf
            refine go_sub [0] rfl ?_
            exact jk234_21 x67 a68 g hf
          · have hf := ite_f h74 hf
            refine go_aload_n (pc' := 209) hC dX12_image_208 rfl rfl ?_
            refine go_aload_n (pc' := 210) hC dX12_image_209 rfl rfl ?_
            refine go_getq (pc' := 213) hC 0 28 layM_0 rfl rfl inlX12 (Nat.le_of_ble_eq_true rfl) mw_194 rfl dX12_image_210 rfl ?_
            refine go_iload_n (pc' := 214) hC dX12_image_213 rfl rfl ?_
            obtain ⟨h70, hf⟩ := gd_e hf
            refine go_iald (f := ((x_S X).2.2.1 14)) (pc' := 215) hC 14 layM_14 rfl rfl dX12_image_214 (okx_in h70) rfl ?_
            obtain ⟨o71, ho71, hf⟩ := bd_e hf
            refine go_callV (pc' := 218) (As := [.int (((x_S X).2.2.1 14) x66.toNatClampNeg)]) (st := []) (st' := []) (L1' := [(80, o71.1)]) (L2' := []) (L3' := [(46, o71.2), (47, a3)]) (L4' := []) (L5' := []) (cells' := 0) (slots' := 0) (b := 0) hC dX12_image_215 ⟨mw_1523, mw_1526, mw_5, yd_yX12_puts, yp_yX12_puts, Nat.le_of_ble_eq_true rfl, Nat.le_of_ble_eq_true rfl, Nat.le_of_ble_eq_true rfl, Nat.le_of_ble_eq_true rfl⟩ mw_1524 mw_1525 layM_0 rfl rfl rfl (Nat.le_of_ble_eq_true rfl) (c_X12_puts (x_l X) (x_D X) (x_q X) g (x_cy X) (x_z X) _ (((x_S X).2.2.1 14) x66.toNatClampNeg) o71 ho71) rfl rfl rfl rfl rfl rfl rfl rfl rfl rfl rfl rfl rfl rfl (fun g => ?_)
            refine go_aload_n (pc' := 219) hC dX12_image_218 rfl rfl ?_
            refine go_aload_n (pc' := 220) hC dX12_image_219 rfl rfl ?_
            refine go_getq (pc' := 223) hC 0 29 layM_0 rfl rfl inlX12 (Nat.le_of_ble_eq_true rfl) mw_195 rfl dX12_image_220 rfl ?_
            refine go_iload_n (pc' := 224) hC dX12_image_223 rfl rfl ?_
            obtain ⟨h72, hf⟩ := gd_e hf
            refine go_iald (f := ((x_S X).2.2.1 15)) (pc' := 225) hC 15 layM_15 rfl rfl dX12_image_224 (okx_in h72) rfl ?_
            obtain ⟨o73, ho73, hf⟩ := bd_e hf
            refine go_callV (pc' := 228) (As := [.int (((x_S X).2.2.1 15) x66.toNatClampNeg)]) (st := []) (st' := []) (L1' := [(80, o73.1)]) (L2' := []) (L3' := [(46, o73.2), (47, a3)]) (L4' := []) (L5' := []) (cells' := 0) (slots' := 0) (b := 0) hC dX12_image_225 ⟨mw_1523, mw_1526, mw_5, yd_yX12_puts, yp_yX12_puts, Nat.le_of_ble_eq_true rfl, Nat.le_of_ble_eq_true rfl, Nat.le_of_ble_eq_true rfl, Nat.le_of_ble_eq_true rfl⟩ mw_1524 mw_1525 layM_0 rfl rfl rfl (Nat.le_of_ble_eq_true rfl) (c_X12_puts (x_l X) (x_D X) (x_q X) g (x_cy X) (x_z X) _ (((x_S X).2.2.1 15) x66.toNatClampNeg) o73 ho73) rfl rfl rfl rfl rfl rfl rfl rfl rfl rfl rfl rfl rfl rfl (fun g => ?_)
            refine go_iinc (lc' := [(0, .ref (x_q X 0)), (2, .int (x66 + (1 : Int32)))]) (pc' := 231) hC dX12_image_228 rfl ki_1 (Nat.le_of_ble_eq_true rfl) rfl rfl ?_
            refine go_goto (tgt := 202) hC dX12_image_231 (by decide) ?_
            exact ih (x66 + (1 : Int32)) o73.1 o73.2 g hf
      exact l202_75 fuel (0 : Int32) x16 a17 g hf
    clear hk200_18
    have l120_96 : ∀ (nn : Nat) (x76 : Int32) (x77 : Int32) (a78 : Nat → Int32) (g : Nat → Nat), it3 (f_X12_image_L120 (x_S X) a3 k200_18) nn x76 x77 a78 = some o → Go X layM 120 [(0, .ref (x_q X 0)), (2, .int x76)] [] g [(80, x77)] [] [(46, a78), (47, a3)] [] [] 0 0 := by
      intro nn
      induction nn with
      | zero =>
        intro x76 x77 a78 g hf
        exact none_no hf
      | succ nn ih =>
        intro x76 x77 a78 g hf
        have hf : f_X12_image_L120 (x_S X) a3 k200_18 (it3 (f_X12_image_L120 (x_S X) a3 k200_18) nn) x76 x77 a78 = some o := hf
        generalize it3 (f_X12_image_L120 (x_S X) a3 k200_18) nn = r79 at ih hf
        unfold f_X12_image_L120 at hf
        refine go_iload_n (pc' := 121) hC dX12_image_120 rfl rfl ?_
        refine go_bipush (pc' := 123) hC dX12_image_121 kb_12 rfl ?_
        refine go_icmp_ge (tgt := 200) (pc' := 126) hC dX12_image_123 (by decide) rfl (fun h95 => ?_) (fun h95 => ?_)
        · have hf := ite_t h95 hf
          refine go_sub [0] rfl ?_
          exact jk200_18 x77 a78 g hf
        · have hf := ite_f h95 hf
          refine go_aload_n (pc' := 127) hC dX12_image_126 rfl rfl ?_
          refine go_aload_n (pc' := 128) hC dX12_image_127 rfl rfl ?_
          refine go_getq (pc' := 131) hC 0 22 layM_0 rfl rfl inlX12 (Nat.le_of_ble_eq_true rfl) mw_187 rfl dX12_image_128 rfl ?_
          refine go_iload_n (pc' := 132) hC dX12_image_131 rfl rfl ?_
          obtain ⟨h80, hf⟩ := gd_e hf
          refine go_iald (f := ((x_S X).2.2.1 8)) (pc' := 133) hC 8 layM_8 rfl rfl dX12_image_132 (okx_in h80) rfl ?_
          obtain ⟨o81, ho81, hf⟩ := bd_e hf
          refine go_callV (pc' := 136) (As := [.int (((x_S X).2.2.1 8) x76.toNatClampNeg)]) (st := []) (st' := []) (L1' := [(80, o81.1)]) (L2' := []) (L3' := [(46, o81.2), (47, a3)]) (L4' := []) (L5' := []) (cells' := 0) (slots' := 0) (b := 0) hC dX12_image_133 ⟨mw_1523, mw_1526, mw_5, yd_yX12_puts, yp_yX12_puts, Nat.le_of_ble_eq_true rfl, Nat.le_of_ble_eq_true rfl, Nat.le_of_ble_eq_true rfl, Nat.le_of_ble_eq_true rfl⟩ mw_1524 mw_1525 layM_0 rfl rfl rfl (Nat.le_of_ble_eq_true rfl) (c_X12_puts (x_l X) (x_D X) (x_q X) g (x_cy X) (x_z X) _ (((x_S X).2.2.1 8) x76.toNatClampNeg) o81 ho81) rfl rfl rfl rfl rfl rfl rfl rfl rfl rfl rfl rfl rfl rfl (fun g => ?_)
          refine go_aload_n (pc' := 137) hC dX12_image_136 rfl rfl ?_
          refine go_aload_n (pc' := 138) hC dX12_image_137 rfl rfl ?_
          refine go_getq (pc' := 141) hC 0 23 layM_0 rfl rfl inlX12 (Nat.le_of_ble_eq_true rfl) mw_188 rfl dX12_image_138 rfl ?_
          refine go_iload_n (pc' := 142) hC dX12_image_141 rfl rfl ?_
          obtain ⟨h82, hf⟩ := gd_e hf
          refine go_iald (f := ((x_S X).2.2.1 9)) (pc' := 143) hC 9 layM_9 rfl rfl dX12_image_142 (okx_in h82) rfl ?_
          obtain ⟨o83, ho83, hf⟩ := bd_e hf
          refine go_callV (pc' := 146) (As := [.int (((x_S X).2.2.1 9) x76.toNatClampNeg)]) (st := []) (st' := []) (L1' := [(80, o83.1)]) (L2' := []) (L3' := [(46, o83.2), (47, a3)]) (L4' := []) (L5' := []) (cells' := 0) (slots' := 0) (b := 0) hC dX12_image_143 ⟨mw_1523, mw_1526, mw_5, yd_yX12_puts, yp_yX12_puts, Nat.le_of_ble_eq_true rfl, Nat.le_of_ble_eq_true rfl, Nat.le_of_ble_eq_true rfl, Nat.le_of_ble_eq_true rfl⟩ mw_1524 mw_1525 layM_0 rfl rfl rfl (Nat.le_of_ble_eq_true rfl) (c_X12_puts (x_l X) (x_D X) (x_q X) g (x_cy X) (x_z X) _ (((x_S X).2.2.1 9) x76.toNatClampNeg) o83 ho83) rfl rfl rfl rfl rfl rfl rfl rfl rfl rfl rfl rfl rfl rfl (fun g => ?_)
          refine go_aload_n (pc' := 147) hC dX12_image_146 rfl rfl ?_
          refine go_aload_n (pc' := 148) hC dX12_image_147 rfl rfl ?_
          refine go_getq (pc' := 151) hC 0 24 layM_0 rfl rfl inlX12 (Nat.le_of_ble_eq_true rfl) mw_189 rfl dX12_image_148 rfl ?_
          refine go_iload_n (pc' := 152) hC dX12_image_151 rfl rfl ?_
          obtain ⟨h84, hf⟩ := gd_e hf
          refine go_iald (f := ((x_S X).2.2.1 10)) (pc' := 153) hC 10 layM_10 rfl rfl dX12_image_152 (okx_in h84) rfl ?_
          obtain ⟨o85, ho85, hf⟩ := bd_e hf
          refine go_callV (pc' := 156) (As := [.int (((x_S X).2.2.1 10) x76.toNatClampNeg)]) (st := []) (st' := []) (L1' := [(80, o85.1)]) (L2' := []) (L3' := [(46, o85.2), (47, a3)]) (L4' := []) (L5' := []) (cells' := 0) (slots' := 0) (b := 0) hC dX12_image_153 ⟨mw_1523, mw_1526, mw_5, yd_yX12_puts, yp_yX12_puts, Nat.le_of_ble_eq_true rfl, Nat.le_of_ble_eq_true rfl, Nat.le_of_ble_eq_true rfl, Nat.le_of_ble_eq_true rfl⟩ mw_1524 mw_1525 layM_0 rfl rfl rfl (Nat.le_of_ble_eq_true rfl) (c_X12_puts (x_l X) (x_D X) (x_q X) g (x_cy X) (x_z X) _ (((x_S X).2.2.1 10) x76.toNatClampNeg) o85 ho85) rfl rfl rfl rfl rfl rfl rfl rfl rfl rfl rfl rfl rfl rfl (fun g => ?_)
          refine go_aload_n (pc' := 157) hC dX12_image_156 rfl rfl ?_
          refine go_aload_n (pc' := 158) hC dX12_image_157 rfl rfl ?_
          refine go_getq (pc' := 161) hC 0 25 layM_0 rfl rfl inlX12 (Nat.le_of_ble_eq_true rfl) mw_191 rfl dX12_image_158 rfl ?_
          refine go_iload_n (pc' := 162) hC dX12_image_161 rfl rfl ?_
          obtain ⟨h86, hf⟩ := gd_e hf
          refine go_zald (f := ((x_S X).2.2.1 11)) (pc' := 163) hC 11 layM_11 rfl rfl dX12_image_162 (okx_in h86) rfl ?_
          obtain ⟨k171_88, hk171_88, hf⟩ := lk_e1 hf
          have jk171_88 : ∀ (x87 : Int32) (g : Nat → Nat), k171_88 x87 = some o → Go X layM 171 [(0, .ref (x_q X 0)), (2, .int x76)] [.int x87, .ref (x_q X 0)] g [(80, o85.1)] [] [(46, o85.2), (47, a3)] [] [] 0 0 := by
            intro x87 g hf
            have hf := hk171_88 x87 hf
            clear hk171_88
            obtain ⟨o89, ho89, hf⟩ := bd_e hf
            refine go_callV (pc' := 174) (As := [.int x87]) (st := []) (st' := []) (L1' := [(80, o89.1)]) (L2' := []) (L3' := [(46, o89.2), (47, a3)]) (L4' := []) (L5' := []) (cells' := 0) (slots' := 0) (b := 0) hC dX12_image_171 ⟨mw_1523, mw_1526, mw_5, yd_yX12_puts, yp_yX12_puts, Nat.le_of_ble_eq_true rfl, Nat.le_of_ble_eq_true rfl, Nat.le_of_ble_eq_true rfl, Nat.le_of_ble_eq_true rfl⟩ mw_1524 mw_1525 layM_0 rfl rfl rfl (Nat.le_of_ble_eq_true rfl) (c_X12_puts (x_l X) (x_D X) (x_q X) g (x_cy X) (x_z X) _ x87 o89 ho89) rfl rfl rfl rfl rfl rfl rfl rfl rfl rfl rfl rfl rfl rfl (fun g => ?_)
            refine go_aload_n (pc' := 175) hC dX12_image_174 rfl rfl ?_
            refine go_aload_n (pc' := 176) hC dX12_image_175 rfl rfl ?_
            refine go_getq (pc' := 179) hC 0 26 layM_0 rfl rfl inlX12 (Nat.le_of_ble_eq_true rfl) mw_192 rfl dX12_image_176 rfl ?_
            refine go_iload_n (pc' := 180) hC dX12_image_179 rfl rfl ?_
            obtain ⟨h90, hf⟩ := gd_e hf
            refine go_iald (f := ((x_S X).2.2.1 12)) (pc' := 181) hC 12 layM_12 rfl rfl dX12_image_180 (okx_in h90) rfl ?_
            obtain ⟨o91, ho91, hf⟩ := bd_e hf
            refine go_callV (pc' := 184) (As := [.int (((x_S X).2.2.1 12) x76.toNatClampNeg)]) (st := []) (st' := []) (L1' := [(80, o91.1)]) (L2' := []) (L3' := [(46, o91.2), (47, a3)]) (L4' := []) (L5' := []) (cells' := 0) (slots' := 0) (b := 0) hC dX12_image_181 ⟨mw_1523, mw_1526, mw_5, yd_yX12_puts, yp_yX12_puts, Nat.le_of_ble_eq_true rfl, Nat.le_of_ble_eq_true rfl, Nat.le_of_ble_eq_true rfl, Nat.le_of_ble_eq_true rfl⟩ mw_1524 mw_1525 layM_0 rfl rfl rfl (Nat.le_of_ble_eq_true rfl) (c_X12_puts (x_l X) (x_D X) (x_q X) g (x_cy X) (x_z X) _ (((x_S X).2.2.1 12) x76.toNatClampNeg) o91 ho91) rfl rfl rfl rfl rfl rfl rfl rfl rfl rfl rfl rfl rfl rfl (fun g => ?_)
            refine go_aload_n (pc' := 185) hC dX12_image_184 rfl rfl ?_
            refine go_aload_n (pc' := 186) hC dX12_image_185 rfl rfl ?_
            refine go_getq (pc' := 189) hC 0 27 layM_0 rfl rfl inlX12 (Nat.le_of_ble_eq_true rfl) mw_193 rfl dX12_image_186 rfl ?_
            refine go_iload_n (pc' := 190) hC dX12_image_189 rfl rfl ?_
            obtain ⟨h92, hf⟩ := gd_e hf
            refine go_iald (f := ((x_S X).2.2.1 13)) (pc' := 191) hC 13 layM_13 rfl rfl dX12_image_190 (okx_in h92) rfl ?_
            obtain ⟨o93, ho93, hf⟩ := bd_e hf
            refine go_callV (pc' := 194) (As := [.int (((x_S X).2.2.1 13) x76.toNatClampNeg)]) (st := []) (st' := []) (L1' := [(80, o93.1)]) (L2' := []) (L3' := [(46, o93.2), (47, a3)]) (L4' := []) (L5' := []) (cells' := 0) (slots' := 0) (b := 0) hC dX12_image_191 ⟨mw_1523, mw_1526, mw_5, yd_yX12_puts, yp_yX12_puts, Nat.le_of_ble_eq_true rfl, Nat.le_of_ble_eq_true rfl, Nat.le_of_ble_eq_true rfl, Nat.le_of_ble_eq_true rfl⟩ mw_1524 mw_1525 layM_0 rfl rfl rfl (Nat.le_of_ble_eq_true rfl) (c_X12_puts (x_l X) (x_D X) (x_q X) g (x_cy X) (x_z X) _ (((x_S X).2.2.1 13) x76.toNatClampNeg) o93 ho93) rfl rfl rfl rfl rfl rfl rfl rfl rfl rfl rfl rfl rfl rfl (fun g => ?_)
            refine go_iinc (lc' := [(0, .ref (x_q X 0)), (2, .int (x76 + (1 : Int32)))]) (pc' := 197) hC dX12_image_194 rfl ki_1 (Nat.le_of_ble_eq_true rfl) rfl rfl ?_
            refine go_goto (tgt := 120) hC dX12_image_197 (by decide) ?_
            exact ih (x76 + (1 : Int32)) o93.1 o93.2 g hf
          clear hk171_88
          refine go_if_eq (tgt := 170) (pc' := 166) hC dX12_image_163 (by decide) rfl (fun h94 => ?_) (fun h94 => ?_)
          · have hf := ite_t h94 hf
            refine go_iconst (pc' := 171) hC dX12_image_170 ki_0 rfl ?_
            exact jk171_88 (0 : Int32) g hf
          · have hf := ite_f h94 hf
            refine go_iconst (pc' := 167) hC dX12_image_166 ki_1 rfl ?_
            refine go_goto (tgt := 171) hC dX12_image_167 (by decide) ?_
            exact jk171_88 (1 : Int32) g hf
    refine go_sub [0, 2] rfl ?_
    exact l120_96 fuel (0 : Int32) o15.1 o15.2 g hf
  · have hf := ite_t h97 hf
    refine go_iconst (pc' := 13) hC dX12_image_12 ki_m1 rfl ?_
    obtain rfl := Option.some.inj hf
    exact go_iret hC hQ dX12_image_13 rfl rfl rfl rfl rfl rfl
theorem dX12_restore_0 : decode cX12_restore 0 = .ok (.iload_n 1, 1) := by decide +kernel
theorem dX12_restore_1 : decode cX12_restore 1 = .ok (.i2l, 1) := by decide +kernel
theorem dX12_restore_2 : decode cX12_restore 2 = .ok (.lconst 0, 1) := by decide +kernel
theorem dX12_restore_3 : decode cX12_restore 3 = .ok (.ldc2_w 511, 3) := by decide +kernel
theorem dX12_restore_6 : decode cX12_restore 6 = .ok (.invokestatic 218, 3) := by decide +kernel
theorem dX12_restore_9 : decode cX12_restore 9 = .ok (.ifCond .eq 12, 3) := by decide +kernel
theorem dX12_restore_12 : decode cX12_restore 12 = .ok (.aload_n 0, 1) := by decide +kernel
theorem dX12_restore_13 : decode cX12_restore 13 = .ok (.getfield 152, 3) := by decide +kernel
theorem dX12_restore_16 : decode cX12_restore 16 = .ok (.iload_n 1, 1) := by decide +kernel
theorem dX12_restore_17 : decode cX12_restore 17 = .ok (.baload, 1) := by decide +kernel
theorem dX12_restore_18 : decode cX12_restore 18 = .ok (.ifCond .ne 5, 3) := by decide +kernel
theorem dX12_restore_21 : decode cX12_restore 21 = .ok (.iconst (-1), 1) := by decide +kernel
theorem dX12_restore_22 : decode cX12_restore 22 = .ok (.ireturn, 1) := by decide +kernel
theorem dX12_restore_23 : decode cX12_restore 23 = .ok (.aload_n 0, 1) := by decide +kernel
theorem dX12_restore_24 : decode cX12_restore 24 = .ok (.sipush 200, 3) := by decide +kernel
theorem dX12_restore_27 : decode cX12_restore 27 = .ok (.iload_n 1, 1) := by decide +kernel
theorem dX12_restore_28 : decode cX12_restore 28 = .ok (.imul, 1) := by decide +kernel
theorem dX12_restore_29 : decode cX12_restore 29 = .ok (.putfield 513, 3) := by decide +kernel
theorem dX12_restore_32 : decode cX12_restore 32 = .ok (.aload_n 0, 1) := by decide +kernel
theorem dX12_restore_33 : decode cX12_restore 33 = .ok (.aload_n 0, 1) := by decide +kernel
theorem dX12_restore_34 : decode cX12_restore 34 = .ok (.invokevirtual 519, 3) := by decide +kernel
theorem dX12_restore_37 : decode cX12_restore 37 = .ok (.putfield 276, 3) := by decide +kernel
theorem dX12_restore_40 : decode cX12_restore 40 = .ok (.aload_n 0, 1) := by decide +kernel
theorem dX12_restore_41 : decode cX12_restore 41 = .ok (.aload_n 0, 1) := by decide +kernel
theorem dX12_restore_42 : decode cX12_restore 42 = .ok (.invokevirtual 519, 3) := by decide +kernel
theorem dX12_restore_45 : decode cX12_restore 45 = .ok (.putfield 279, 3) := by decide +kernel
theorem dX12_restore_48 : decode cX12_restore 48 = .ok (.aload_n 0, 1) := by decide +kernel
theorem dX12_restore_49 : decode cX12_restore 49 = .ok (.aload_n 0, 1) := by decide +kernel
theorem dX12_restore_50 : decode cX12_restore 50 = .ok (.invokevirtual 519, 3) := by decide +kernel
theorem dX12_restore_53 : decode cX12_restore 53 = .ok (.putfield 282, 3) := by decide +kernel
theorem dX12_restore_56 : decode cX12_restore 56 = .ok (.aload_n 0, 1) := by decide +kernel
theorem dX12_restore_57 : decode cX12_restore 57 = .ok (.aload_n 0, 1) := by decide +kernel
theorem dX12_restore_58 : decode cX12_restore 58 = .ok (.invokevirtual 519, 3) := by decide +kernel
theorem dX12_restore_61 : decode cX12_restore 61 = .ok (.putfield 285, 3) := by decide +kernel
theorem dX12_restore_64 : decode cX12_restore 64 = .ok (.aload_n 0, 1) := by decide +kernel
theorem dX12_restore_65 : decode cX12_restore 65 = .ok (.aload_n 0, 1) := by decide +kernel
theorem dX12_restore_66 : decode cX12_restore 66 = .ok (.invokevirtual 519, 3) := by decide +kernel
theorem dX12_restore_69 : decode cX12_restore 69 = .ok (.putfield 288, 3) := by decide +kernel
theorem dX12_restore_72 : decode cX12_restore 72 = .ok (.aload_n 0, 1) := by decide +kernel
theorem dX12_restore_73 : decode cX12_restore 73 = .ok (.aload_n 0, 1) := by decide +kernel
theorem dX12_restore_74 : decode cX12_restore 74 = .ok (.invokevirtual 519, 3) := by decide +kernel
theorem dX12_restore_77 : decode cX12_restore 77 = .ok (.putfield 291, 3) := by decide +kernel
theorem dX12_restore_80 : decode cX12_restore 80 = .ok (.aload_n 0, 1) := by decide +kernel
theorem dX12_restore_81 : decode cX12_restore 81 = .ok (.aload_n 0, 1) := by decide +kernel
theorem dX12_restore_82 : decode cX12_restore 82 = .ok (.invokevirtual 519, 3) := by decide +kernel
theorem dX12_restore_85 : decode cX12_restore 85 = .ok (.putfield 294, 3) := by decide +kernel
theorem dX12_restore_88 : decode cX12_restore 88 = .ok (.aload_n 0, 1) := by decide +kernel
theorem dX12_restore_89 : decode cX12_restore 89 = .ok (.aload_n 0, 1) := by decide +kernel
theorem dX12_restore_90 : decode cX12_restore 90 = .ok (.invokevirtual 519, 3) := by decide +kernel
theorem dX12_restore_93 : decode cX12_restore 93 = .ok (.putfield 297, 3) := by decide +kernel
theorem dX12_restore_96 : decode cX12_restore 96 = .ok (.aload_n 0, 1) := by decide +kernel
theorem dX12_restore_97 : decode cX12_restore 97 = .ok (.aload_n 0, 1) := by decide +kernel
theorem dX12_restore_98 : decode cX12_restore 98 = .ok (.invokevirtual 519, 3) := by decide +kernel
theorem dX12_restore_101 : decode cX12_restore 101 = .ok (.putfield 300, 3) := by decide +kernel
theorem dX12_restore_104 : decode cX12_restore 104 = .ok (.aload_n 0, 1) := by decide +kernel
theorem dX12_restore_105 : decode cX12_restore 105 = .ok (.aload_n 0, 1) := by decide +kernel
theorem dX12_restore_106 : decode cX12_restore 106 = .ok (.invokevirtual 519, 3) := by decide +kernel
theorem dX12_restore_109 : decode cX12_restore 109 = .ok (.putfield 303, 3) := by decide +kernel
theorem dX12_restore_112 : decode cX12_restore 112 = .ok (.aload_n 0, 1) := by decide +kernel
theorem dX12_restore_113 : decode cX12_restore 113 = .ok (.aload_n 0, 1) := by decide +kernel
theorem dX12_restore_114 : decode cX12_restore 114 = .ok (.invokevirtual 519, 3) := by decide +kernel
theorem dX12_restore_117 : decode cX12_restore 117 = .ok (.putfield 306, 3) := by decide +kernel
theorem dX12_restore_120 : decode cX12_restore 120 = .ok (.iconst 0, 1) := by decide +kernel
theorem dX12_restore_121 : decode cX12_restore 121 = .ok (.istore_n 2, 1) := by decide +kernel
theorem dX12_restore_122 : decode cX12_restore 122 = .ok (.iload_n 2, 1) := by decide +kernel
theorem dX12_restore_123 : decode cX12_restore 123 = .ok (.bipush 12, 2) := by decide +kernel
theorem dX12_restore_125 : decode cX12_restore 125 = .ok (.if_icmp .ge 78, 3) := by decide +kernel
theorem dX12_restore_128 : decode cX12_restore 128 = .ok (.aload_n 0, 1) := by decide +kernel
theorem dX12_restore_129 : decode cX12_restore 129 = .ok (.getfield 32, 3) := by decide +kernel
theorem dX12_restore_132 : decode cX12_restore 132 = .ok (.iload_n 2, 1) := by decide +kernel
theorem dX12_restore_133 : decode cX12_restore 133 = .ok (.aload_n 0, 1) := by decide +kernel
theorem dX12_restore_134 : decode cX12_restore 134 = .ok (.invokevirtual 519, 3) := by decide +kernel
theorem dX12_restore_137 : decode cX12_restore 137 = .ok (.iastore, 1) := by decide +kernel
theorem dX12_restore_138 : decode cX12_restore 138 = .ok (.aload_n 0, 1) := by decide +kernel
theorem dX12_restore_139 : decode cX12_restore 139 = .ok (.getfield 35, 3) := by decide +kernel
theorem dX12_restore_142 : decode cX12_restore 142 = .ok (.iload_n 2, 1) := by decide +kernel
theorem dX12_restore_143 : decode cX12_restore 143 = .ok (.aload_n 0, 1) := by decide +kernel
theorem dX12_restore_144 : decode cX12_restore 144 = .ok (.invokevirtual 519, 3) := by decide +kernel
theorem dX12_restore_147 : decode cX12_restore 147 = .ok (.iastore, 1) := by decide +kernel
theorem dX12_restore_148 : decode cX12_restore 148 = .ok (.aload_n 0, 1) := by decide +kernel
theorem dX12_restore_149 : decode cX12_restore 149 = .ok (.getfield 38, 3) := by decide +kernel
theorem dX12_restore_152 : decode cX12_restore 152 = .ok (.iload_n 2, 1) := by decide +kernel
theorem dX12_restore_153 : decode cX12_restore 153 = .ok (.aload_n 0, 1) := by decide +kernel
theorem dX12_restore_154 : decode cX12_restore 154 = .ok (.invokevirtual 519, 3) := by decide +kernel
theorem dX12_restore_157 : decode cX12_restore 157 = .ok (.iastore, 1) := by decide +kernel
theorem dX12_restore_158 : decode cX12_restore 158 = .ok (.aload_n 0, 1) := by decide +kernel
theorem dX12_restore_159 : decode cX12_restore 159 = .ok (.getfield 41, 3) := by decide +kernel
theorem dX12_restore_162 : decode cX12_restore 162 = .ok (.iload_n 2, 1) := by decide +kernel
theorem dX12_restore_163 : decode cX12_restore 163 = .ok (.aload_n 0, 1) := by decide +kernel
theorem dX12_restore_164 : decode cX12_restore 164 = .ok (.invokevirtual 519, 3) := by decide +kernel
theorem dX12_restore_167 : decode cX12_restore 167 = .ok (.iconst 1, 1) := by decide +kernel
theorem dX12_restore_168 : decode cX12_restore 168 = .ok (.if_icmp .ne 7, 3) := by decide +kernel
theorem dX12_restore_171 : decode cX12_restore 171 = .ok (.iconst 1, 1) := by decide +kernel
theorem dX12_restore_172 : decode cX12_restore 172 = .ok (.goto 4, 3) := by decide +kernel
theorem dX12_restore_175 : decode cX12_restore 175 = .ok (.iconst 0, 1) := by decide +kernel
theorem dX12_restore_176 : decode cX12_restore 176 = .ok (.bastore, 1) := by decide +kernel
theorem dX12_restore_177 : decode cX12_restore 177 = .ok (.aload_n 0, 1) := by decide +kernel
theorem dX12_restore_178 : decode cX12_restore 178 = .ok (.getfield 45, 3) := by decide +kernel
theorem dX12_restore_181 : decode cX12_restore 181 = .ok (.iload_n 2, 1) := by decide +kernel
theorem dX12_restore_182 : decode cX12_restore 182 = .ok (.aload_n 0, 1) := by decide +kernel
theorem dX12_restore_183 : decode cX12_restore 183 = .ok (.invokevirtual 519, 3) := by decide +kernel
theorem dX12_restore_186 : decode cX12_restore 186 = .ok (.iastore, 1) := by decide +kernel
theorem dX12_restore_187 : decode cX12_restore 187 = .ok (.aload_n 0, 1) := by decide +kernel
theorem dX12_restore_188 : decode cX12_restore 188 = .ok (.getfield 48, 3) := by decide +kernel
theorem dX12_restore_191 : decode cX12_restore 191 = .ok (.iload_n 2, 1) := by decide +kernel
theorem dX12_restore_192 : decode cX12_restore 192 = .ok (.aload_n 0, 1) := by decide +kernel
theorem dX12_restore_193 : decode cX12_restore 193 = .ok (.invokevirtual 519, 3) := by decide +kernel
theorem dX12_restore_196 : decode cX12_restore 196 = .ok (.iastore, 1) := by decide +kernel
theorem dX12_restore_197 : decode cX12_restore 197 = .ok (.iinc 2 1, 3) := by decide +kernel
theorem dX12_restore_200 : decode cX12_restore 200 = .ok (.goto (-78), 3) := by decide +kernel
theorem dX12_restore_203 : decode cX12_restore 203 = .ok (.iconst 0, 1) := by decide +kernel
theorem dX12_restore_204 : decode cX12_restore 204 = .ok (.istore_n 2, 1) := by decide +kernel
theorem dX12_restore_205 : decode cX12_restore 205 = .ok (.iload_n 2, 1) := by decide +kernel
theorem dX12_restore_206 : decode cX12_restore 206 = .ok (.bipush 10, 2) := by decide +kernel
theorem dX12_restore_208 : decode cX12_restore 208 = .ok (.if_icmp .ge 29, 3) := by decide +kernel
theorem dX12_restore_211 : decode cX12_restore 211 = .ok (.aload_n 0, 1) := by decide +kernel
theorem dX12_restore_212 : decode cX12_restore 212 = .ok (.getfield 51, 3) := by decide +kernel
theorem dX12_restore_215 : decode cX12_restore 215 = .ok (.iload_n 2, 1) := by decide +kernel
theorem dX12_restore_216 : decode cX12_restore 216 = .ok (.aload_n 0, 1) := by decide +kernel
theorem dX12_restore_217 : decode cX12_restore 217 = .ok (.invokevirtual 519, 3) := by decide +kernel
theorem dX12_restore_220 : decode cX12_restore 220 = .ok (.iastore, 1) := by decide +kernel
theorem dX12_restore_221 : decode cX12_restore 221 = .ok (.aload_n 0, 1) := by decide +kernel
theorem dX12_restore_222 : decode cX12_restore 222 = .ok (.getfield 54, 3) := by decide +kernel
theorem dX12_restore_225 : decode cX12_restore 225 = .ok (.iload_n 2, 1) := by decide +kernel
theorem dX12_restore_226 : decode cX12_restore 226 = .ok (.aload_n 0, 1) := by decide +kernel
theorem dX12_restore_227 : decode cX12_restore 227 = .ok (.invokevirtual 519, 3) := by decide +kernel
theorem dX12_restore_230 : decode cX12_restore 230 = .ok (.iastore, 1) := by decide +kernel
theorem dX12_restore_231 : decode cX12_restore 231 = .ok (.iinc 2 1, 3) := by decide +kernel
theorem dX12_restore_234 : decode cX12_restore 234 = .ok (.goto (-29), 3) := by decide +kernel
theorem dX12_restore_237 : decode cX12_restore 237 = .ok (.iconst 0, 1) := by decide +kernel
theorem dX12_restore_238 : decode cX12_restore 238 = .ok (.istore_n 2, 1) := by decide +kernel
theorem dX12_restore_239 : decode cX12_restore 239 = .ok (.iload_n 2, 1) := by decide +kernel
theorem dX12_restore_240 : decode cX12_restore 240 = .ok (.bipush 15, 2) := by decide +kernel
theorem dX12_restore_242 : decode cX12_restore 242 = .ok (.if_icmp .ge 19, 3) := by decide +kernel
theorem dX12_restore_245 : decode cX12_restore 245 = .ok (.aload_n 0, 1) := by decide +kernel
theorem dX12_restore_246 : decode cX12_restore 246 = .ok (.getfield 57, 3) := by decide +kernel
theorem dX12_restore_249 : decode cX12_restore 249 = .ok (.iload_n 2, 1) := by decide +kernel
theorem dX12_restore_250 : decode cX12_restore 250 = .ok (.aload_n 0, 1) := by decide +kernel
theorem dX12_restore_251 : decode cX12_restore 251 = .ok (.invokevirtual 519, 3) := by decide +kernel
theorem dX12_restore_254 : decode cX12_restore 254 = .ok (.iastore, 1) := by decide +kernel
theorem dX12_restore_255 : decode cX12_restore 255 = .ok (.iinc 2 1, 3) := by decide +kernel
theorem dX12_restore_258 : decode cX12_restore 258 = .ok (.goto (-19), 3) := by decide +kernel
theorem dX12_restore_261 : decode cX12_restore 261 = .ok (.iconst 0, 1) := by decide +kernel
theorem dX12_restore_262 : decode cX12_restore 262 = .ok (.istore_n 2, 1) := by decide +kernel
theorem dX12_restore_263 : decode cX12_restore 263 = .ok (.iload_n 2, 1) := by decide +kernel
theorem dX12_restore_264 : decode cX12_restore 264 = .ok (.bipush 9, 2) := by decide +kernel
theorem dX12_restore_266 : decode cX12_restore 266 = .ok (.if_icmp .ge 39, 3) := by decide +kernel
theorem dX12_restore_269 : decode cX12_restore 269 = .ok (.aload_n 0, 1) := by decide +kernel
theorem dX12_restore_270 : decode cX12_restore 270 = .ok (.getfield 92, 3) := by decide +kernel
theorem dX12_restore_273 : decode cX12_restore 273 = .ok (.iload_n 2, 1) := by decide +kernel
theorem dX12_restore_274 : decode cX12_restore 274 = .ok (.aload_n 0, 1) := by decide +kernel
theorem dX12_restore_275 : decode cX12_restore 275 = .ok (.invokevirtual 519, 3) := by decide +kernel
theorem dX12_restore_278 : decode cX12_restore 278 = .ok (.iastore, 1) := by decide +kernel
theorem dX12_restore_279 : decode cX12_restore 279 = .ok (.aload_n 0, 1) := by decide +kernel
theorem dX12_restore_280 : decode cX12_restore 280 = .ok (.getfield 95, 3) := by decide +kernel
theorem dX12_restore_283 : decode cX12_restore 283 = .ok (.iload_n 2, 1) := by decide +kernel
theorem dX12_restore_284 : decode cX12_restore 284 = .ok (.aload_n 0, 1) := by decide +kernel
theorem dX12_restore_285 : decode cX12_restore 285 = .ok (.invokevirtual 519, 3) := by decide +kernel
theorem dX12_restore_288 : decode cX12_restore 288 = .ok (.iastore, 1) := by decide +kernel
theorem dX12_restore_289 : decode cX12_restore 289 = .ok (.aload_n 0, 1) := by decide +kernel
theorem dX12_restore_290 : decode cX12_restore 290 = .ok (.getfield 98, 3) := by decide +kernel
theorem dX12_restore_293 : decode cX12_restore 293 = .ok (.iload_n 2, 1) := by decide +kernel
theorem dX12_restore_294 : decode cX12_restore 294 = .ok (.aload_n 0, 1) := by decide +kernel
theorem dX12_restore_295 : decode cX12_restore 295 = .ok (.invokevirtual 519, 3) := by decide +kernel
theorem dX12_restore_298 : decode cX12_restore 298 = .ok (.iastore, 1) := by decide +kernel
theorem dX12_restore_299 : decode cX12_restore 299 = .ok (.iinc 2 1, 3) := by decide +kernel
theorem dX12_restore_302 : decode cX12_restore 302 = .ok (.goto (-39), 3) := by decide +kernel
theorem dX12_restore_305 : decode cX12_restore 305 = .ok (.iconst 0, 1) := by decide +kernel
theorem dX12_restore_306 : decode cX12_restore 306 = .ok (.istore_n 2, 1) := by decide +kernel
theorem dX12_restore_307 : decode cX12_restore 307 = .ok (.iload_n 2, 1) := by decide +kernel
theorem dX12_restore_308 : decode cX12_restore 308 = .ok (.bipush 6, 2) := by decide +kernel
theorem dX12_restore_310 : decode cX12_restore 310 = .ok (.if_icmp .ge 48, 3) := by decide +kernel
theorem dX12_restore_313 : decode cX12_restore 313 = .ok (.aload_n 0, 1) := by decide +kernel
theorem dX12_restore_314 : decode cX12_restore 314 = .ok (.getfield 107, 3) := by decide +kernel
theorem dX12_restore_317 : decode cX12_restore 317 = .ok (.iload_n 2, 1) := by decide +kernel
theorem dX12_restore_318 : decode cX12_restore 318 = .ok (.aload_n 0, 1) := by decide +kernel
theorem dX12_restore_319 : decode cX12_restore 319 = .ok (.invokevirtual 519, 3) := by decide +kernel
theorem dX12_restore_322 : decode cX12_restore 322 = .ok (.iastore, 1) := by decide +kernel
theorem dX12_restore_323 : decode cX12_restore 323 = .ok (.aload_n 0, 1) := by decide +kernel
theorem dX12_restore_324 : decode cX12_restore 324 = .ok (.getfield 110, 3) := by decide +kernel
theorem dX12_restore_327 : decode cX12_restore 327 = .ok (.iload_n 2, 1) := by decide +kernel
theorem dX12_restore_328 : decode cX12_restore 328 = .ok (.aload_n 0, 1) := by decide +kernel
theorem dX12_restore_329 : decode cX12_restore 329 = .ok (.invokevirtual 519, 3) := by decide +kernel
theorem dX12_restore_332 : decode cX12_restore 332 = .ok (.iastore, 1) := by decide +kernel
theorem dX12_restore_333 : decode cX12_restore 333 = .ok (.aload_n 0, 1) := by decide +kernel
theorem dX12_restore_334 : decode cX12_restore 334 = .ok (.getfield 113, 3) := by decide +kernel
theorem dX12_restore_337 : decode cX12_restore 337 = .ok (.iload_n 2, 1) := by decide +kernel
theorem dX12_restore_338 : decode cX12_restore 338 = .ok (.aload_n 0, 1) := by decide +kernel
theorem dX12_restore_339 : decode cX12_restore 339 = .ok (.invokevirtual 519, 3) := by decide +kernel
theorem dX12_restore_342 : decode cX12_restore 342 = .ok (.iconst 1, 1) := by decide +kernel
theorem dX12_restore_343 : decode cX12_restore 343 = .ok (.if_icmp .ne 7, 3) := by decide +kernel
theorem dX12_restore_346 : decode cX12_restore 346 = .ok (.iconst 1, 1) := by decide +kernel
theorem dX12_restore_347 : decode cX12_restore 347 = .ok (.goto 4, 3) := by decide +kernel
theorem dX12_restore_350 : decode cX12_restore 350 = .ok (.iconst 0, 1) := by decide +kernel
theorem dX12_restore_351 : decode cX12_restore 351 = .ok (.bastore, 1) := by decide +kernel
theorem dX12_restore_352 : decode cX12_restore 352 = .ok (.iinc 2 1, 3) := by decide +kernel
theorem dX12_restore_355 : decode cX12_restore 355 = .ok (.goto (-48), 3) := by decide +kernel
theorem dX12_restore_358 : decode cX12_restore 358 = .ok (.aload_n 0, 1) := by decide +kernel
theorem dX12_restore_359 : decode cX12_restore 359 = .ok (.iconst 0, 1) := by decide +kernel
theorem dX12_restore_360 : decode cX12_restore 360 = .ok (.putfield 309, 3) := by decide +kernel
theorem dX12_restore_363 : decode cX12_restore 363 = .ok (.aload_n 0, 1) := by decide +kernel
theorem dX12_restore_364 : decode cX12_restore 364 = .ok (.iconst 0, 1) := by decide +kernel
theorem dX12_restore_365 : decode cX12_restore 365 = .ok (.putfield 312, 3) := by decide +kernel
theorem dX12_restore_368 : decode cX12_restore 368 = .ok (.aload_n 0, 1) := by decide +kernel
theorem dX12_restore_369 : decode cX12_restore 369 = .ok (.getfield 288, 3) := by decide +kernel
theorem dX12_restore_372 : decode cX12_restore 372 = .ok (.ireturn, 1) := by decide +kernel
abbrev o_X12_restore : Type := Int32 × Int32 × Int32 × Int32 × Int32 × Int32 × Int32 × Int32 × Int32 × Int32 × Int32 × Int32 × Int32 × Int32 × Int32 × (Nat → Int32) × (Nat → Int32) × (Nat → Int32) × (Nat → Int32) × (Nat → Int32) × (Nat → Int32) × (Nat → Int32) × (Nat → Int32) × (Nat → Int32) × (Nat → Int32) × (Nat → Int32) × (Nat → Int32) × (Nat → Int32) × (Nat → Int32) × (Nat → Int32)
def f_X12_restore_L307 (S : wd_W) (o4 : o_X12_gets) (o5 : o_X12_gets) (o6 : o_X12_gets) (o7 : o_X12_gets) (o8 : o_X12_gets) (o9 : o_X12_gets) (o10 : o_X12_gets) (o11 : o_X12_gets) (o12 : o_X12_gets) (o13 : o_X12_gets) (o14 : o_X12_gets) (a16 : Nat → Int32) (a17 : Nat → Int32) (a18 : Nat → Int32) (a19 : Nat → Int32) (a20 : Nat → Int32) (a21 : Nat → Int32) (a24 : Nat → Int32) (a25 : Nat → Int32) (a28 : Nat → Int32) (a31 : Nat → Int32) (a32 : Nat → Int32) (a33 : Nat → Int32) (k358_39 : (Int32) → (Nat → Int32) → (Nat → Int32) → (Nat → Int32) → (Option o_X12_restore)) (r45 : (Int32) → (Int32) → (Nat → Int32) → (Nat → Int32) → (Nat → Int32) → (Option o_X12_restore)) (x40 : Int32) (x41 : Int32) (a42 : Nat → Int32) (a43 : Nat → Int32) (a44 : Nat → Int32) : Option o_X12_restore :=
if (6 : Int32) ≤ x40 then (
k358_39 x41 a42 a43 a44) else (
bd (f_X12_gets (wd_o S [(20, o4.1), (21, o5.1), (30, o6.1), (31, o7.1), (32, o8.1), (34, o9.1), (35, o10.1), (36, o11.1), (37, o12.1), (44, (S.1 44)), (51, o13.1), (55, (S.1 55)), (60, o14.1), (80, x41)] [] [(8, a16), (9, a17), (10, a18), (11, a19), (12, a20), (13, a21), (14, a24), (15, a25), (16, a28), (27, a31), (28, a32), (29, a33), (32, a42), (33, a43), (34, a44)] [] [])) fun o46 =>
gd (okx x40 6) <|
lz (upd a42 x40.toNatClampNeg o46.1) fun a48 =>
bd (f_X12_gets (wd_o S [(20, o4.1), (21, o5.1), (30, o6.1), (31, o7.1), (32, o8.1), (34, o9.1), (35, o10.1), (36, o11.1), (37, o12.1), (44, (S.1 44)), (51, o13.1), (55, (S.1 55)), (60, o14.1), (80, o46.2)] [] [(8, a16), (9, a17), (10, a18), (11, a19), (12, a20), (13, a21), (14, a24), (15, a25), (16, a28), (27, a31), (28, a32), (29, a33), (32, a48), (33, a43), (34, a44)] [] [])) fun o49 =>
gd (okx x40 6) <|
lz (upd a43 x40.toNatClampNeg o49.1) fun a51 =>
bd (f_X12_gets (wd_o S [(20, o4.1), (21, o5.1), (30, o6.1), (31, o7.1), (32, o8.1), (34, o9.1), (35, o10.1), (36, o11.1), (37, o12.1), (44, (S.1 44)), (51, o13.1), (55, (S.1 55)), (60, o14.1), (80, o49.2)] [] [(8, a16), (9, a17), (10, a18), (11, a19), (12, a20), (13, a21), (14, a24), (15, a25), (16, a28), (27, a31), (28, a32), (29, a33), (32, a48), (33, a51), (34, a44)] [] [])) fun o52 =>
lk (fun x53 x54 =>
gd (okx x54 6) <|
lz (upd a44 x54.toNatClampNeg (vp_nar .boolean x53)) fun a57 =>
r45 (x40 + (1 : Int32)) o52.2 a48 a51 a57) fun k351_55 =>
if o52.1 = (1 : Int32) then (
k351_55 (1 : Int32) x40) else (
k351_55 (0 : Int32) x40))
def f_X12_restore_L263 (S : wd_W) (o4 : o_X12_gets) (o5 : o_X12_gets) (o6 : o_X12_gets) (o7 : o_X12_gets) (o8 : o_X12_gets) (o9 : o_X12_gets) (o10 : o_X12_gets) (o11 : o_X12_gets) (o12 : o_X12_gets) (o13 : o_X12_gets) (o14 : o_X12_gets) (a16 : Nat → Int32) (a17 : Nat → Int32) (a18 : Nat → Int32) (a19 : Nat → Int32) (a20 : Nat → Int32) (a21 : Nat → Int32) (a24 : Nat → Int32) (a25 : Nat → Int32) (a28 : Nat → Int32) (k305_34 : (Int32) → (Nat → Int32) → (Nat → Int32) → (Nat → Int32) → (Option o_X12_restore)) (r66 : (Int32) → (Int32) → (Nat → Int32) → (Nat → Int32) → (Nat → Int32) → (Option o_X12_restore)) (x61 : Int32) (x62 : Int32) (a63 : Nat → Int32) (a64 : Nat → Int32) (a65 : Nat → Int32) : Option o_X12_restore :=
if (9 : Int32) ≤ x61 then (
k305_34 x62 a63 a64 a65) else (
bd (f_X12_gets (wd_o S [(20, o4.1), (21, o5.1), (30, o6.1), (31, o7.1), (32, o8.1), (34, o9.1), (35, o10.1), (36, o11.1), (37, o12.1), (44, (S.1 44)), (51, o13.1), (55, (S.1 55)), (60, o14.1), (80, x62)] [] [(8, a16), (9, a17), (10, a18), (11, a19), (12, a20), (13, a21), (14, a24), (15, a25), (16, a28), (27, a63), (28, a64), (29, a65), (32, (S.2.2.1 32)), (33, (S.2.2.1 33)), (34, (S.2.2.1 34))] [] [])) fun o67 =>
gd (okx x61 9) <|
lz (upd a63 x61.toNatClampNeg o67.1) fun a69 =>
bd (f_X12_gets (wd_o S [(20, o4.1), (21, o5.1), (30, o6.1), (31, o7.1), (32, o8.1), (34, o9.1), (35, o10.1), (36, o11.1), (37, o12.1), (44, (S.1 44)), (51, o13.1), (55, (S.1 55)), (60, o14.1), (80, o67.2)] [] [(8, a16), (9, a17), (10, a18), (11, a19), (12, a20), (13, a21), (14, a24), (15, a25), (16, a28), (27, a69), (28, a64), (29, a65), (32, (S.2.2.1 32)), (33, (S.2.2.1 33)), (34, (S.2.2.1 34))] [] [])) fun o70 =>
gd (okx x61 9) <|
lz (upd a64 x61.toNatClampNeg o70.1) fun a72 =>
bd (f_X12_gets (wd_o S [(20, o4.1), (21, o5.1), (30, o6.1), (31, o7.1), (32, o8.1), (34, o9.1), (35, o10.1), (36, o11.1), (37, o12.1), (44, (S.1 44)), (51, o13.1), (55, (S.1 55)), (60, o14.1), (80, o70.2)] [] [(8, a16), (9, a17), (10, a18), (11, a19), (12, a20), (13, a21), (14, a24), (15, a25), (16, a28), (27, a69), (28, a72), (29, a65), (32, (S.2.2.1 32)), (33, (S.2.2.1 33)), (34, (S.2.2.1 34))] [] [])) fun o73 =>
gd (okx x61 9) <|
lz (upd a65 x61.toNatClampNeg o73.1) fun a75 =>
r66 (x61 + (1 : Int32)) o73.2 a69 a72 a75)
def f_X12_restore_L239 (S : wd_W) (o4 : o_X12_gets) (o5 : o_X12_gets) (o6 : o_X12_gets) (o7 : o_X12_gets) (o8 : o_X12_gets) (o9 : o_X12_gets) (o10 : o_X12_gets) (o11 : o_X12_gets) (o12 : o_X12_gets) (o13 : o_X12_gets) (o14 : o_X12_gets) (a16 : Nat → Int32) (a17 : Nat → Int32) (a18 : Nat → Int32) (a19 : Nat → Int32) (a20 : Nat → Int32) (a21 : Nat → Int32) (a24 : Nat → Int32) (a25 : Nat → Int32) (k261_29 : (Int32) → (Nat → Int32) → (Option o_X12_restore)) (r81 : (Int32) → (Int32) → (Nat → Int32) → (Option o_X12_restore)) (x78 : Int32) (x79 : Int32) (a80 : Nat → Int32) : Option o_X12_restore :=
if (15 : Int32) ≤ x78 then (
k261_29 x79 a80) else (
bd (f_X12_gets (wd_o S [(20, o4.1), (21, o5.1), (30, o6.1), (31, o7.1), (32, o8.1), (34, o9.1), (35, o10.1), (36, o11.1), (37, o12.1), (44, (S.1 44)), (51, o13.1), (55, (S.1 55)), (60, o14.1), (80, x79)] [] [(8, a16), (9, a17), (10, a18), (11, a19), (12, a20), (13, a21), (14, a24), (15, a25), (16, a80), (27, (S.2.2.1 27)), (28, (S.2.2.1 28)), (29, (S.2.2.1 29)), (32, (S.2.2.1 32)), (33, (S.2.2.1 33)), (34, (S.2.2.1 34))] [] [])) fun o82 =>
gd (okx x78 15) <|
lz (upd a80 x78.toNatClampNeg o82.1) fun a84 =>
r81 (x78 + (1 : Int32)) o82.2 a84)
def f_X12_restore_L205 (S : wd_W) (o4 : o_X12_gets) (o5 : o_X12_gets) (o6 : o_X12_gets) (o7 : o_X12_gets) (o8 : o_X12_gets) (o9 : o_X12_gets) (o10 : o_X12_gets) (o11 : o_X12_gets) (o12 : o_X12_gets) (o13 : o_X12_gets) (o14 : o_X12_gets) (a16 : Nat → Int32) (a17 : Nat → Int32) (a18 : Nat → Int32) (a19 : Nat → Int32) (a20 : Nat → Int32) (a21 : Nat → Int32) (k237_26 : (Int32) → (Nat → Int32) → (Nat → Int32) → (Option o_X12_restore)) (r91 : (Int32) → (Int32) → (Nat → Int32) → (Nat → Int32) → (Option o_X12_restore)) (x87 : Int32) (x88 : Int32) (a89 : Nat → Int32) (a90 : Nat → Int32) : Option o_X12_restore :=
if (10 : Int32) ≤ x87 then (
k237_26 x88 a89 a90) else (
bd (f_X12_gets (wd_o S [(20, o4.1), (21, o5.1), (30, o6.1), (31, o7.1), (32, o8.1), (34, o9.1), (35, o10.1), (36, o11.1), (37, o12.1), (44, (S.1 44)), (51, o13.1), (55, (S.1 55)), (60, o14.1), (80, x88)] [] [(8, a16), (9, a17), (10, a18), (11, a19), (12, a20), (13, a21), (14, a89), (15, a90), (16, (S.2.2.1 16)), (27, (S.2.2.1 27)), (28, (S.2.2.1 28)), (29, (S.2.2.1 29)), (32, (S.2.2.1 32)), (33, (S.2.2.1 33)), (34, (S.2.2.1 34))] [] [])) fun o92 =>
gd (okx x87 10) <|
lz (upd a89 x87.toNatClampNeg o92.1) fun a94 =>
bd (f_X12_gets (wd_o S [(20, o4.1), (21, o5.1), (30, o6.1), (31, o7.1), (32, o8.1), (34, o9.1), (35, o10.1), (36, o11.1), (37, o12.1), (44, (S.1 44)), (51, o13.1), (55, (S.1 55)), (60, o14.1), (80, o92.2)] [] [(8, a16), (9, a17), (10, a18), (11, a19), (12, a20), (13, a21), (14, a94), (15, a90), (16, (S.2.2.1 16)), (27, (S.2.2.1 27)), (28, (S.2.2.1 28)), (29, (S.2.2.1 29)), (32, (S.2.2.1 32)), (33, (S.2.2.1 33)), (34, (S.2.2.1 34))] [] [])) fun o95 =>
gd (okx x87 10) <|
lz (upd a90 x87.toNatClampNeg o95.1) fun a97 =>
r91 (x87 + (1 : Int32)) o95.2 a94 a97)
def f_X12_restore_L122 (S : wd_W) (o4 : o_X12_gets) (o5 : o_X12_gets) (o6 : o_X12_gets) (o7 : o_X12_gets) (o8 : o_X12_gets) (o9 : o_X12_gets) (o10 : o_X12_gets) (o11 : o_X12_gets) (o12 : o_X12_gets) (o13 : o_X12_gets) (o14 : o_X12_gets) (k203_22 : (Int32) → (Nat → Int32) → (Nat → Int32) → (Nat → Int32) → (Nat → Int32) → (Nat → Int32) → (Nat → Int32) → (Option o_X12_restore)) (r108 : (Int32) → (Int32) → (Nat → Int32) → (Nat → Int32) → (Nat → Int32) → (Nat → Int32) → (Nat → Int32) → (Nat → Int32) → (Option o_X12_restore)) (x100 : Int32) (x101 : Int32) (a102 : Nat → Int32) (a103 : Nat → Int32) (a104 : Nat → Int32) (a105 : Nat → Int32) (a106 : Nat → Int32) (a107 : Nat → Int32) : Option o_X12_restore :=
if (12 : Int32) ≤ x100 then (
k203_22 x101 a102 a103 a104 a105 a106 a107) else (
bd (f_X12_gets (wd_o S [(20, o4.1), (21, o5.1), (30, o6.1), (31, o7.1), (32, o8.1), (34, o9.1), (35, o10.1), (36, o11.1), (37, o12.1), (44, (S.1 44)), (51, o13.1), (55, (S.1 55)), (60, o14.1), (80, x101)] [] [(8, a102), (9, a103), (10, a104), (11, a105), (12, a106), (13, a107), (14, (S.2.2.1 14)), (15, (S.2.2.1 15)), (16, (S.2.2.1 16)), (27, (S.2.2.1 27)), (28, (S.2.2.1 28)), (29, (S.2.2.1 29)), (32, (S.2.2.1 32)), (33, (S.2.2.1 33)), (34, (S.2.2.1 34))] [] [])) fun o109 =>
gd (okx x100 13) <|
lz (upd a102 x100.toNatClampNeg o109.1) fun a111 =>
bd (f_X12_gets (wd_o S [(20, o4.1), (21, o5.1), (30, o6.1), (31, o7.1), (32, o8.1), (34, o9.1), (35, o10.1), (36, o11.1), (37, o12.1), (44, (S.1 44)), (51, o13.1), (55, (S.1 55)), (60, o14.1), (80, o109.2)] [] [(8, a111), (9, a103), (10, a104), (11, a105), (12, a106), (13, a107), (14, (S.2.2.1 14)), (15, (S.2.2.1 15)), (16, (S.2.2.1 16)), (27, (S.2.2.1 27)), (28, (S.2.2.1 28)), (29, (S.2.2.1 29)), (32, (S.2.2.1 32)), (33, (S.2.2.1 33)), (34, (S.2.2.1 34))] [] [])) fun o112 =>
gd (okx x100 13) <|
lz (upd a103 x100.toNatClampNeg o112.1) fun a114 =>
bd (f_X12_gets (wd_o S [(20, o4.1), (21, o5.1), (30, o6.1), (31, o7.1), (32, o8.1), (34, o9.1), (35, o10.1), (36, o11.1), (37, o12.1), (44, (S.1 44)), (51, o13.1), (55, (S.1 55)), (60, o14.1), (80, o112.2)] [] [(8, a111), (9, a114), (10, a104), (11, a105), (12, a106), (13, a107), (14, (S.2.2.1 14)), (15, (S.2.2.1 15)), (16, (S.2.2.1 16)), (27, (S.2.2.1 27)), (28, (S.2.2.1 28)), (29, (S.2.2.1 29)), (32, (S.2.2.1 32)), (33, (S.2.2.1 33)), (34, (S.2.2.1 34))] [] [])) fun o115 =>
gd (okx x100 13) <|
lz (upd a104 x100.toNatClampNeg o115.1) fun a117 =>
bd (f_X12_gets (wd_o S [(20, o4.1), (21, o5.1), (30, o6.1), (31, o7.1), (32, o8.1), (34, o9.1), (35, o10.1), (36, o11.1), (37, o12.1), (44, (S.1 44)), (51, o13.1), (55, (S.1 55)), (60, o14.1), (80, o115.2)] [] [(8, a111), (9, a114), (10, a117), (11, a105), (12, a106), (13, a107), (14, (S.2.2.1 14)), (15, (S.2.2.1 15)), (16, (S.2.2.1 16)), (27, (S.2.2.1 27)), (28, (S.2.2.1 28)), (29, (S.2.2.1 29)), (32, (S.2.2.1 32)), (33, (S.2.2.1 33)), (34, (S.2.2.1 34))] [] [])) fun o118 =>
lk (fun x119 x120 =>
gd (okx x120 13) <|
lz (upd a105 x120.toNatClampNeg (vp_nar .boolean x119)) fun a123 =>
bd (f_X12_gets (wd_o S [(20, o4.1), (21, o5.1), (30, o6.1), (31, o7.1), (32, o8.1), (34, o9.1), (35, o10.1), (36, o11.1), (37, o12.1), (44, (S.1 44)), (51, o13.1), (55, (S.1 55)), (60, o14.1), (80, o118.2)] [] [(8, a111), (9, a114), (10, a117), (11, a123), (12, a106), (13, a107), (14, (S.2.2.1 14)), (15, (S.2.2.1 15)), (16, (S.2.2.1 16)), (27, (S.2.2.1 27)), (28, (S.2.2.1 28)), (29, (S.2.2.1 29)), (32, (S.2.2.1 32)), (33, (S.2.2.1 33)), (34, (S.2.2.1 34))] [] [])) fun o124 =>
gd (okx x100 13) <|
lz (upd a106 x100.toNatClampNeg o124.1) fun a126 =>
bd (f_X12_gets (wd_o S [(20, o4.1), (21, o5.1), (30, o6.1), (31, o7.1), (32, o8.1), (34, o9.1), (35, o10.1), (36, o11.1), (37, o12.1), (44, (S.1 44)), (51, o13.1), (55, (S.1 55)), (60, o14.1), (80, o124.2)] [] [(8, a111), (9, a114), (10, a117), (11, a123), (12, a126), (13, a107), (14, (S.2.2.1 14)), (15, (S.2.2.1 15)), (16, (S.2.2.1 16)), (27, (S.2.2.1 27)), (28, (S.2.2.1 28)), (29, (S.2.2.1 29)), (32, (S.2.2.1 32)), (33, (S.2.2.1 33)), (34, (S.2.2.1 34))] [] [])) fun o127 =>
gd (okx x100 13) <|
lz (upd a107 x100.toNatClampNeg o127.1) fun a129 =>
r108 (x100 + (1 : Int32)) o127.2 a111 a114 a117 a123 a126 a129) fun k176_121 =>
if o118.1 = (1 : Int32) then (
k176_121 (1 : Int32) x100) else (
k176_121 (0 : Int32) x100))
def f_X12_restore (S : wd_W) (p1 : Int32) : Option o_X12_restore :=
bd (f_X12_in p1.toInt64 (0 : Int64) (3 : Int64)) fun o1 =>
if o1 = 0 then (
some ((-1 : Int32), (S.1 20), (S.1 21), (S.1 30), (S.1 31), (S.1 32), (S.1 34), (S.1 35), (S.1 36), (S.1 37), (S.1 44), (S.1 51), (S.1 55), (S.1 60), (S.1 80), (S.2.2.1 8), (S.2.2.1 9), (S.2.2.1 10), (S.2.2.1 11), (S.2.2.1 12), (S.2.2.1 13), (S.2.2.1 14), (S.2.2.1 15), (S.2.2.1 16), (S.2.2.1 27), (S.2.2.1 28), (S.2.2.1 29), (S.2.2.1 32), (S.2.2.1 33), (S.2.2.1 34))) else (
gd (okx p1 4) <|
if ((S.2.2.1 47) p1.toNatClampNeg) = 0 then (
some ((-1 : Int32), (S.1 20), (S.1 21), (S.1 30), (S.1 31), (S.1 32), (S.1 34), (S.1 35), (S.1 36), (S.1 37), (S.1 44), (S.1 51), (S.1 55), (S.1 60), (S.1 80), (S.2.2.1 8), (S.2.2.1 9), (S.2.2.1 10), (S.2.2.1 11), (S.2.2.1 12), (S.2.2.1 13), (S.2.2.1 14), (S.2.2.1 15), (S.2.2.1 16), (S.2.2.1 27), (S.2.2.1 28), (S.2.2.1 29), (S.2.2.1 32), (S.2.2.1 33), (S.2.2.1 34))) else (
lz ((200 : Int32) * p1) fun x3 =>
bd (f_X12_gets (wd_o S [(20, (S.1 20)), (21, (S.1 21)), (30, (S.1 30)), (31, (S.1 31)), (32, (S.1 32)), (34, (S.1 34)), (35, (S.1 35)), (36, (S.1 36)), (37, (S.1 37)), (44, (S.1 44)), (51, (S.1 51)), (55, (S.1 55)), (60, (S.1 60)), (80, x3)] [] [(8, (S.2.2.1 8)), (9, (S.2.2.1 9)), (10, (S.2.2.1 10)), (11, (S.2.2.1 11)), (12, (S.2.2.1 12)), (13, (S.2.2.1 13)), (14, (S.2.2.1 14)), (15, (S.2.2.1 15)), (16, (S.2.2.1 16)), (27, (S.2.2.1 27)), (28, (S.2.2.1 28)), (29, (S.2.2.1 29)), (32, (S.2.2.1 32)), (33, (S.2.2.1 33)), (34, (S.2.2.1 34))] [] [])) fun o4 =>
bd (f_X12_gets (wd_o S [(20, o4.1), (21, (S.1 21)), (30, (S.1 30)), (31, (S.1 31)), (32, (S.1 32)), (34, (S.1 34)), (35, (S.1 35)), (36, (S.1 36)), (37, (S.1 37)), (44, (S.1 44)), (51, (S.1 51)), (55, (S.1 55)), (60, (S.1 60)), (80, o4.2)] [] [(8, (S.2.2.1 8)), (9, (S.2.2.1 9)), (10, (S.2.2.1 10)), (11, (S.2.2.1 11)), (12, (S.2.2.1 12)), (13, (S.2.2.1 13)), (14, (S.2.2.1 14)), (15, (S.2.2.1 15)), (16, (S.2.2.1 16)), (27, (S.2.2.1 27)), (28, (S.2.2.1 28)), (29, (S.2.2.1 29)), (32, (S.2.2.1 32)), (33, (S.2.2.1 33)), (34, (S.2.2.1 34))] [] [])) fun o5 =>
bd (f_X12_gets (wd_o S [(20, o4.1), (21, o5.1), (30, (S.1 30)), (31, (S.1 31)), (32, (S.1 32)), (34, (S.1 34)), (35, (S.1 35)), (36, (S.1 36)), (37, (S.1 37)), (44, (S.1 44)), (51, (S.1 51)), (55, (S.1 55)), (60, (S.1 60)), (80, o5.2)] [] [(8, (S.2.2.1 8)), (9, (S.2.2.1 9)), (10, (S.2.2.1 10)), (11, (S.2.2.1 11)), (12, (S.2.2.1 12)), (13, (S.2.2.1 13)), (14, (S.2.2.1 14)), (15, (S.2.2.1 15)), (16, (S.2.2.1 16)), (27, (S.2.2.1 27)), (28, (S.2.2.1 28)), (29, (S.2.2.1 29)), (32, (S.2.2.1 32)), (33, (S.2.2.1 33)), (34, (S.2.2.1 34))] [] [])) fun o6 =>
bd (f_X12_gets (wd_o S [(20, o4.1), (21, o5.1), (30, o6.1), (31, (S.1 31)), (32, (S.1 32)), (34, (S.1 34)), (35, (S.1 35)), (36, (S.1 36)), (37, (S.1 37)), (44, (S.1 44)), (51, (S.1 51)), (55, (S.1 55)), (60, (S.1 60)), (80, o6.2)] [] [(8, (S.2.2.1 8)), (9, (S.2.2.1 9)), (10, (S.2.2.1 10)), (11, (S.2.2.1 11)), (12, (S.2.2.1 12)), (13, (S.2.2.1 13)), (14, (S.2.2.1 14)), (15, (S.2.2.1 15)), (16, (S.2.2.1 16)), (27, (S.2.2.1 27)), (28, (S.2.2.1 28)), (29, (S.2.2.1 29)), (32, (S.2.2.1 32)), (33, (S.2.2.1 33)), (34, (S.2.2.1 34))] [] [])) fun o7 =>
bd (f_X12_gets (wd_o S [(20, o4.1), (21, o5.1), (30, o6.1), (31, o7.1), (32, (S.1 32)), (34, (S.1 34)), (35, (S.1 35)), (36, (S.1 36)), (37, (S.1 37)), (44, (S.1 44)), (51, (S.1 51)), (55, (S.1 55)), (60, (S.1 60)), (80, o7.2)] [] [(8, (S.2.2.1 8)), (9, (S.2.2.1 9)), (10, (S.2.2.1 10)), (11, (S.2.2.1 11)), (12, (S.2.2.1 12)), (13, (S.2.2.1 13)), (14, (S.2.2.1 14)), (15, (S.2.2.1 15)), (16, (S.2.2.1 16)), (27, (S.2.2.1 27)), (28, (S.2.2.1 28)), (29, (S.2.2.1 29)), (32, (S.2.2.1 32)), (33, (S.2.2.1 33)), (34, (S.2.2.1 34))] [] [])) fun o8 =>
bd (f_X12_gets (wd_o S [(20, o4.1), (21, o5.1), (30, o6.1), (31, o7.1), (32, o8.1), (34, (S.1 34)), (35, (S.1 35)), (36, (S.1 36)), (37, (S.1 37)), (44, (S.1 44)), (51, (S.1 51)), (55, (S.1 55)), (60, (S.1 60)), (80, o8.2)] [] [(8, (S.2.2.1 8)), (9, (S.2.2.1 9)), (10, (S.2.2.1 10)), (11, (S.2.2.1 11)), (12, (S.2.2.1 12)), (13, (S.2.2.1 13)), (14, (S.2.2.1 14)), (15, (S.2.2.1 15)), (16, (S.2.2.1 16)), (27, (S.2.2.1 27)), (28, (S.2.2.1 28)), (29, (S.2.2.1 29)), (32, (S.2.2.1 32)), (33, (S.2.2.1 33)), (34, (S.2.2.1 34))] [] [])) fun o9 =>
bd (f_X12_gets (wd_o S [(20, o4.1), (21, o5.1), (30, o6.1), (31, o7.1), (32, o8.1), (34, o9.1), (35, (S.1 35)), (36, (S.1 36)), (37, (S.1 37)), (44, (S.1 44)), (51, (S.1 51)), (55, (S.1 55)), (60, (S.1 60)), (80, o9.2)] [] [(8, (S.2.2.1 8)), (9, (S.2.2.1 9)), (10, (S.2.2.1 10)), (11, (S.2.2.1 11)), (12, (S.2.2.1 12)), (13, (S.2.2.1 13)), (14, (S.2.2.1 14)), (15, (S.2.2.1 15)), (16, (S.2.2.1 16)), (27, (S.2.2.1 27)), (28, (S.2.2.1 28)), (29, (S.2.2.1 29)), (32, (S.2.2.1 32)), (33, (S.2.2.1 33)), (34, (S.2.2.1 34))] [] [])) fun o10 =>
bd (f_X12_gets (wd_o S [(20, o4.1), (21, o5.1), (30, o6.1), (31, o7.1), (32, o8.1), (34, o9.1), (35, o10.1), (36, (S.1 36)), (37, (S.1 37)), (44, (S.1 44)), (51, (S.1 51)), (55, (S.1 55)), (60, (S.1 60)), (80, o10.2)] [] [(8, (S.2.2.1 8)), (9, (S.2.2.1 9)), (10, (S.2.2.1 10)), (11, (S.2.2.1 11)), (12, (S.2.2.1 12)), (13, (S.2.2.1 13)), (14, (S.2.2.1 14)), (15, (S.2.2.1 15)), (16, (S.2.2.1 16)), (27, (S.2.2.1 27)), (28, (S.2.2.1 28)), (29, (S.2.2.1 29)), (32, (S.2.2.1 32)), (33, (S.2.2.1 33)), (34, (S.2.2.1 34))] [] [])) fun o11 =>
bd (f_X12_gets (wd_o S [(20, o4.1), (21, o5.1), (30, o6.1), (31, o7.1), (32, o8.1), (34, o9.1), (35, o10.1), (36, o11.1), (37, (S.1 37)), (44, (S.1 44)), (51, (S.1 51)), (55, (S.1 55)), (60, (S.1 60)), (80, o11.2)] [] [(8, (S.2.2.1 8)), (9, (S.2.2.1 9)), (10, (S.2.2.1 10)), (11, (S.2.2.1 11)), (12, (S.2.2.1 12)), (13, (S.2.2.1 13)), (14, (S.2.2.1 14)), (15, (S.2.2.1 15)), (16, (S.2.2.1 16)), (27, (S.2.2.1 27)), (28, (S.2.2.1 28)), (29, (S.2.2.1 29)), (32, (S.2.2.1 32)), (33, (S.2.2.1 33)), (34, (S.2.2.1 34))] [] [])) fun o12 =>
bd (f_X12_gets (wd_o S [(20, o4.1), (21, o5.1), (30, o6.1), (31, o7.1), (32, o8.1), (34, o9.1), (35, o10.1), (36, o11.1), (37, o12.1), (44, (S.1 44)), (51, (S.1 51)), (55, (S.1 55)), (60, (S.1 60)), (80, o12.2)] [] [(8, (S.2.2.1 8)), (9, (S.2.2.1 9)), (10, (S.2.2.1 10)), (11, (S.2.2.1 11)), (12, (S.2.2.1 12)), (13, (S.2.2.1 13)), (14, (S.2.2.1 14)), (15, (S.2.2.1 15)), (16, (S.2.2.1 16)), (27, (S.2.2.1 27)), (28, (S.2.2.1 28)), (29, (S.2.2.1 29)), (32, (S.2.2.1 32)), (33, (S.2.2.1 33)), (34, (S.2.2.1 34))] [] [])) fun o13 =>
bd (f_X12_gets (wd_o S [(20, o4.1), (21, o5.1), (30, o6.1), (31, o7.1), (32, o8.1), (34, o9.1), (35, o10.1), (36, o11.1), (37, o12.1), (44, (S.1 44)), (51, o13.1), (55, (S.1 55)), (60, (S.1 60)), (80, o13.2)] [] [(8, (S.2.2.1 8)), (9, (S.2.2.1 9)), (10, (S.2.2.1 10)), (11, (S.2.2.1 11)), (12, (S.2.2.1 12)), (13, (S.2.2.1 13)), (14, (S.2.2.1 14)), (15, (S.2.2.1 15)), (16, (S.2.2.1 16)), (27, (S.2.2.1 27)), (28, (S.2.2.1 28)), (29, (S.2.2.1 29)), (32, (S.2.2.1 32)), (33, (S.2.2.1 33)), (34, (S.2.2.1 34))] [] [])) fun o14 =>
lk (fun x15 a16 a17 a18 a19 a20 a21 =>
lk (fun x23 a24 a25 =>
lk (fun x27 a28 =>
lk (fun x30 a31 a32 a33 =>
lk (fun x35 a36 a37 a38 =>
some (o8.1, o4.1, o5.1, o6.1, o7.1, o8.1, o9.1, o10.1, o11.1, o12.1, (0 : Int32), o13.1, (0 : Int32), o14.1, x35, a16, a17, a18, a19, a20, a21, a24, a25, a28, a31, a32, a33, a36, a37, a38)) fun k358_39 =>
it5 (f_X12_restore_L307 S o4 o5 o6 o7 o8 o9 o10 o11 o12 o13 o14 a16 a17 a18 a19 a20 a21 a24 a25 a28 a31 a32 a33 k358_39) fuel (0 : Int32) x30 (S.2.2.1 32) (S.2.2.1 33) (S.2.2.1 34)) fun k305_34 =>
it5 (f_X12_restore_L263 S o4 o5 o6 o7 o8 o9 o10 o11 o12 o13 o14 a16 a17 a18 a19 a20 a21 a24 a25 a28 k305_34) fuel (0 : Int32) x27 (S.2.2.1 27) (S.2.2.1 28) (S.2.2.1 29)) fun k261_29 =>
it3 (f_X12_restore_L239 S o4 o5 o6 o7 o8 o9 o10 o11 o12 o13 o14 a16 a17 a18 a19 a20 a21 a24 a25 k261_29) fuel (0 : Int32) x23 (S.2.2.1 16)) fun k237_26 =>
it4 (f_X12_restore_L205 S o4 o5 o6 o7 o8 o9 o10 o11 o12 o13 o14 a16 a17 a18 a19 a20 a21 k237_26) fuel (0 : Int32) x15 (S.2.2.1 14) (S.2.2.1 15)) fun k203_22 =>
it8 (f_X12_restore_L122 S o4 o5 o6 o7 o8 o9 o10 o11 o12 o13 o14 k203_22) fuel (0 : Int32) o14.2 (S.2.2.1 8) (S.2.2.1 9) (S.2.2.1 10) (S.2.2.1 11) (S.2.2.1 12) (S.2.2.1 13)))
set_option maxRecDepth 100000 in
set_option maxHeartbeats 4000000 in
theorem c_X12_restore (l : Launch) (D : va_G) (q g : Nat → Nat) (cy : Nat → ClassId) (z : (Nat → Nat) × (Nat → Nat) × Nat) (S : wd_W) (p1 : Int32) (o : o_X12_restore) (hf : f_X12_restore S p1 = some o) : MX layM l yX12_restore cX12_restore 3 (some .int) ({ frames := 1, cells := 0, slots := 0, locals := 25 } : Room) D q g cy z [.ref (q 0), .int p1] S (some (.int o.1)) (wd_o S [(20, o.2.1), (21, o.2.2.1), (30, o.2.2.2.1), (31, o.2.2.2.2.1), (32, o.2.2.2.2.2.1), (34, o.2.2.2.2.2.2.1), (35, o.2.2.2.2.2.2.2.1), (36, o.2.2.2.2.2.2.2.2.1), (37, o.2.2.2.2.2.2.2.2.2.1), (44, o.2.2.2.2.2.2.2.2.2.2.1), (51, o.2.2.2.2.2.2.2.2.2.2.2.1), (55, o.2.2.2.2.2.2.2.2.2.2.2.2.1), (60, o.2.2.2.2.2.2.2.2.2.2.2.2.2.1), (80, o.2.2.2.2.2.2.2.2.2.2.2.2.2.2.1)] [] [(8, o.2.2.2.2.2.2.2.2.2.2.2.2.2.2.2.1), (9, o.2.2.2.2.2.2.2.2.2.2.2.2.2.2.2.2.1), (10, o.2.2.2.2.2.2.2.2.2.2.2.2.2.2.2.2.2.1), (11, o.2.2.2.2.2.2.2.2.2.2.2.2.2.2.2.2.2.2.1), (12, o.2.2.2.2.2.2.2.2.2.2.2.2.2.2.2.2.2.2.2.1), (13, o.2.2.2.2.2.2.2.2.2.2.2.2.2.2.2.2.2.2.2.2.1), (14, o.2.2.2.2.2.2.2.2.2.2.2.2.2.2.2.2.2.2.2.2.2.1), (15, o.2.2.2.2.2.2.2.2.2.2.2.2.2.2.2.2.2.2.2.2.2.2.1), (16, o.2.2.2.2.2.2.2.2.2.2.2.2.2.2.2.2.2.2.2.2.2.2.2.1), (27, o.2.2.2.2.2.2.2.2.2.2.2.2.2.2.2.2.2.2.2.2.2.2.2.2.1), (28, o.2.2.2.2.2.2.2.2.2.2.2.2.2.2.2.2.2.2.2.2.2.2.2.2.2.1), (29, o.2.2.2.2.2.2.2.2.2.2.2.2.2.2.2.2.2.2.2.2.2.2.2.2.2.2.1), (32, o.2.2.2.2.2.2.2.2.2.2.2.2.2.2.2.2.2.2.2.2.2.2.2.2.2.2.2.1), (33, o.2.2.2.2.2.2.2.2.2.2.2.2.2.2.2.2.2.2.2.2.2.2.2.2.2.2.2.2.1), (34, o.2.2.2.2.2.2.2.2.2.2.2.2.2.2.2.2.2.2.2.2.2.2.2.2.2.2.2.2.2)] [] []) 0 0 := by
  refine mx_of (own := RX12) (lc := [(0, .ref (q 0)), (1, .int p1)]) (by decide +kernel) rfl layM_ok (Nat.le_of_ble_eq_true rfl) rfl ?_
  intro X hXl hXq hXS hC hQ
  subst hXl; subst hXq; subst hXS
  unfold f_X12_restore at hf
  refine go_keys (L1 := [(20, ((x_S X).1 20)), (21, ((x_S X).1 21)), (30, ((x_S X).1 30)), (31, ((x_S X).1 31)), (32, ((x_S X).1 32)), (34, ((x_S X).1 34)), (35, ((x_S X).1 35)), (36, ((x_S X).1 36)), (37, ((x_S X).1 37)), (44, ((x_S X).1 44)), (51, ((x_S X).1 51)), (55, ((x_S X).1 55)), (60, ((x_S X).1 60)), (80, ((x_S X).1 80))]) (L2 := []) (L3 := [(8, ((x_S X).2.2.1 8)), (9, ((x_S X).2.2.1 9)), (10, ((x_S X).2.2.1 10)), (11, ((x_S X).2.2.1 11)), (12, ((x_S X).2.2.1 12)), (13, ((x_S X).2.2.1 13)), (14, ((x_S X).2.2.1 14)), (15, ((x_S X).2.2.1 15)), (16, ((x_S X).2.2.1 16)), (27, ((x_S X).2.2.1 27)), (28, ((x_S X).2.2.1 28)), (29, ((x_S X).2.2.1 29)), (32, ((x_S X).2.2.1 32)), (33, ((x_S X).2.2.1 33)), (34, ((x_S X).2.2.1 34))]) (L4 := []) (L5 := []) [20, 21, 30, 31, 32, 34, 35, 36, 37, 44, 51, 55, 60, 80] [] [8, 9, 10, 11, 12, 13, 14, 15, 16, 27, 28, 29, 32, 33, 34] [] [] rfl rfl rfl rfl rfl ?_
  refine go_iload_n (pc' := 1) hC dX12_restore_0 rfl rfl ?_
  refine go_i2l (pc' := 2) hC dX12_restore_1 rfl ?_
  refine go_lconst (pc' := 3) hC dX12_restore_2 kl_0 rfl ?_
  refine go_ldc2 (pc' := 6) hC dX12_restore_3 mw_1507 rfl ?_
  obtain ⟨o1, ho1, hf⟩ := bd_e hf
  refine go_callS0 (pc' := 9) (As := [.long p1.toInt64, .long (0 : Int64), .long (3 : Int64)]) (st := []) (st' := [.int o1])   hC dX12_restore_6 ⟨mw_525, mw_527, mw_5, yd_yX12_in, yp_yX12_in, Nat.le_of_ble_eq_true rfl, Nat.le_of_ble_eq_true rfl, Nat.le_of_ble_eq_true rfl, Nat.le_of_ble_eq_true rfl⟩ mw_526 rfl rfl (Nat.le_of_ble_eq_true rfl) (c_X12_in (x_l X) (x_D X) (x_q X) g (x_cy X) (x_z X) _ p1.toInt64 (0 : Int64) (3 : Int64) o1 ho1) rfl rfl (fun g => ?_)
  refine go_if_eq (tgt := 21) (pc' := 12) hC dX12_restore_9 (by decide) rfl (fun h134 => ?_) (fun h134 => ?_)
  · have hf := ite_t h134 hf
    refine go_iconst (pc' := 22) hC dX12_restore_21 ki_m1 rfl ?_
    obtain rfl := Option.some.inj hf
    exact go_iret hC hQ dX12_restore_22 rfl rfl rfl rfl rfl rfl
  · have hf := ite_f h134 hf
    refine go_aload_n (pc' := 13) hC dX12_restore_12 rfl rfl ?_
    refine go_getq (pc' := 16) hC 0 79 layM_0 rfl rfl inlX12 (Nat.le_of_ble_eq_true rfl) mw_228 rfl dX12_restore_13 rfl ?_
    refine go_iload_n (pc' := 17) hC dX12_restore_16 rfl rfl ?_
    obtain ⟨h2, hf⟩ := gd_e hf
    refine go_zald (f := ((x_S X).2.2.1 47)) (pc' := 18) hC 47 layM_47 rfl rfl dX12_restore_17 (okx_in h2) rfl ?_
    refine go_if_ne (tgt := 23) (pc' := 21) hC dX12_restore_18 (by decide) rfl (fun h133 => ?_) (fun h133 => ?_)
    · have hf := ite_f h133 hf
      refine go_aload_n (pc' := 24) hC dX12_restore_23 rfl rfl ?_
      refine go_sipush (pc' := 27) hC dX12_restore_24 ks_200 rfl ?_
      refine go_iload_n (pc' := 28) hC dX12_restore_27 rfl rfl ?_
      refine go_imul (pc' := 29) hC dX12_restore_28 rfl ?_
      refine go_namei (fun x3 hx => ?_)
      have hf := lz_r hx hf
      clear hx
      refine go_puti (L1' := [(20, ((x_S X).1 20)), (21, ((x_S X).1 21)), (30, ((x_S X).1 30)), (31, ((x_S X).1 31)), (32, ((x_S X).1 32)), (34, ((x_S X).1 34)), (35, ((x_S X).1 35)), (36, ((x_S X).1 36)), (37, ((x_S X).1 37)), (44, ((x_S X).1 44)), (51, ((x_S X).1 51)), (55, ((x_S X).1 55)), (60, ((x_S X).1 60)), (80, x3)]) (pc' := 32) hC 0 80 layM_0 rfl rfl inlX12 tyX12_ok nmX12 (Nat.le_of_ble_eq_true rfl) mw_1522 rfl rfl rfl rfl dX12_restore_29 rfl rfl rfl ?_
      refine go_aload_n (pc' := 33) hC dX12_restore_32 rfl rfl ?_
      refine go_aload_n (pc' := 34) hC dX12_restore_33 rfl rfl ?_
      obtain ⟨o4, ho4, hf⟩ := bd_e hf
      refine go_callV (pc' := 37) (As := []) (st := [.ref (x_q X 0)]) (st' := [.int o4.1, .ref (x_q X 0)]) (L1' := [(20, ((x_S X).1 20)), (21, ((x_S X).1 21)), (30, ((x_S X).1 30)), (31, ((x_S X).1 31)), (32, ((x_S X).1 32)), (34, ((x_S X).1 34)), (35, ((x_S X).1 35)), (36, ((x_S X).1 36)), (37, ((x_S X).1 37)), (44, ((x_S X).1 44)), (51, ((x_S X).1 51)), (55, ((x_S X).1 55)), (60, ((x_S X).1 60)), (80, o4.2)]) (L2' := []) (L3' := [(8, ((x_S X).2.2.1 8)), (9, ((x_S X).2.2.1 9)), (10, ((x_S X).2.2.1 10)), (11, ((x_S X).2.2.1 11)), (12, ((x_S X).2.2.1 12)), (13, ((x_S X).2.2.1 13)), (14, ((x_S X).2.2.1 14)), (15, ((x_S X).2.2.1 15)), (16, ((x_S X).2.2.1 16)), (27, ((x_S X).2.2.1 27)), (28, ((x_S X).2.2.1 28)), (29, ((x_S X).2.2.1 29)), (32, ((x_S X).2.2.1 32)), (33, ((x_S X).2.2.1 33)), (34, ((x_S X).2.2.1 34))]) (L4' := []) (L5' := []) (cells' := 0) (slots' := 0) (b := 0) hC dX12_restore_34 ⟨mw_1535, mw_1538, mw_5, yd_yX12_gets, yp_yX12_gets, Nat.le_of_ble_eq_true rfl, Nat.le_of_ble_eq_true rfl, Nat.le_of_ble_eq_true rfl, Nat.le_of_ble_eq_true rfl⟩ mw_1536 mw_1537 layM_0 rfl rfl rfl (Nat.le_of_ble_eq_true rfl) (c_X12_gets (x_l X) (x_D X) (x_q X) g (x_cy X) (x_z X) _  o4 ho4) rfl rfl rfl rfl rfl rfl rfl rfl rfl rfl rfl rfl rfl rfl (fun g => ?_)
      refine go_puti (L1' := [(20, o4.1), (21, ((x_S X).1 21)), (30, ((x_S X).1 30)), (31, ((x_S X).1 31)), (32, ((x_S X).1 32)), (34, ((x_S X).1 34)), (35, ((x_S X).1 35)), (36, ((x_S X).1 36)), (37, ((x_S X).1 37)), (44, ((x_S X).1 44)), (51, ((x_S X).1 51)), (55, ((x_S X).1 55)), (60, ((x_S X).1 60)), (80, o4.2)]) (pc' := 40) hC 0 20 layM_0 rfl rfl inlX12 tyX12_ok nmX12 (Nat.le_of_ble_eq_true rfl) mw_246 rfl rfl rfl rfl dX12_restore_37 rfl rfl rfl ?_
      refine go_aload_n (pc' := 41) hC dX12_restore_40 rfl rfl ?_
      refine go_aload_n (pc' := 42) hC dX12_restore_41 rfl rfl ?_
      obtain ⟨o5, ho5, hf⟩ := bd_e hf
      refine go_callV (pc' := 45) (As := []) (st := [.ref (x_q X 0)]) (st' := [.int o5.1, .ref (x_q X 0)]) (L1' := [(20, o4.1), (21, ((x_S X).1 21)), (30, ((x_S X).1 30)), (31, ((x_S X).1 31)), (32, ((x_S X).1 32)), (34, ((x_S X).1 34)), (35, ((x_S X).1 35)), (36, ((x_S X).1 36)), (37, ((x_S X).1 37)), (44, ((x_S X).1 44)), (51, ((x_S X).1 51)), (55, ((x_S X).1 55)), (60, ((x_S X).1 60)), (80, o5.2)]) (L2' := []) (L3' := [(8, ((x_S X).2.2.1 8)), (9, ((x_S X).2.2.1 9)), (10, ((x_S X).2.2.1 10)), (11, ((x_S X).2.2.1 11)), (12, ((x_S X).2.2.1 12)), (13, ((x_S X).2.2.1 13)), (14, ((x_S X).2.2.1 14)), (15, ((x_S X).2.2.1 15)), (16, ((x_S X).2.2.1 16)), (27, ((x_S X).2.2.1 27)), (28, ((x_S X).2.2.1 28)), (29, ((x_S X).2.2.1 29)), (32, ((x_S X).2.2.1 32)), (33, ((x_S X).2.2.1 33)), (34, ((x_S X).2.2.1 34))]) (L4' := []) (L5' := []) (cells' := 0) (slots' := 0) (b := 0) hC dX12_restore_42 ⟨mw_1535, mw_1538, mw_5, yd_yX12_gets, yp_yX12_gets, Nat.le_of_ble_eq_true rfl, Nat.le_of_ble_eq_true rfl, Nat.le_of_ble_eq_true rfl, Nat.le_of_ble_eq_true rfl⟩ mw_1536 mw_1537 layM_0 rfl rfl rfl (Nat.le_of_ble_eq_true rfl) (c_X12_gets (x_l X) (x_D X) (x_q X) g (x_cy X) (x_z X) _  o5 ho5) rfl rfl rfl rfl rfl rfl rfl rfl rfl rfl rfl rfl rfl rfl (fun g => ?_)
      refine go_puti (L1' := [(20, o4.1), (21, o5.1), (30, ((x_S X).1 30)), (31, ((x_S X).1 31)), (32, ((x_S X).1 32)), (34, ((x_S X).1 34)), (35, ((x_S X).1 35)), (36, ((x_S X).1 36)), (37, ((x_S X).1 37)), (44, ((x_S X).1 44)), (51, ((x_S X).1 51)), (55, ((x_S X).1 55)), (60, ((x_S X).1 60)), (80, o5.2)]) (pc' := 48) hC 0 21 layM_0 rfl rfl inlX12 tyX12_ok nmX12 (Nat.le_of_ble_eq_true rfl) mw_247 rfl rfl rfl rfl dX12_restore_45 rfl rfl rfl ?_
      refine go_aload_n (pc' := 49) hC dX12_restore_48 rfl rfl ?_
      refine go_aload_n (pc' := 50) hC dX12_restore_49 rfl rfl ?_
      obtain ⟨o6, ho6, hf⟩ := bd_e hf
      refine go_callV (pc' := 53) (As := []) (st := [.ref (x_q X 0)]) (st' := [.int o6.1, .ref (x_q X 0)]) (L1' := [(20, o4.1), (21, o5.1), (30, ((x_S X).1 30)), (31, ((x_S X).1 31)), (32, ((x_S X).1 32)), (34, ((x_S X).1 34)), (35, ((x_S X).1 35)), (36, ((x_S X).1 36)), (37, ((x_S X).1 37)), (44, ((x_S X).1 44)), (51, ((x_S X).1 51)), (55, ((x_S X).1 55)), (60, ((x_S X).1 60)), (80, o6.2)]) (L2' := []) (L3' := [(8, ((x_S X).2.2.1 8)), (9, ((x_S X).2.2.1 9)), (10, ((x_S X).2.2.1 10)), (11, ((x_S X).2.2.1 11)), (12, ((x_S X).2.2.1 12)), (13, ((x_S X).2.2.1 13)), (14, ((x_S X).2.2.1 14)), (15, ((x_S X).2.2.1 15)), (16, ((x_S X).2.2.1 16)), (27, ((x_S X).2.2.1 27)), (28, ((x_S X).2.2.1 28)), (29, ((x_S X).2.2.1 29)), (32, ((x_S X).2.2.1 32)), (33, ((x_S X).2.2.1 33)), (34, ((x_S X).2.2.1 34))]) (L4' := []) (L5' := []) (cells' := 0) (slots' := 0) (b := 0) hC dX12_restore_50 ⟨mw_1535, mw_1538, mw_5, yd_yX12_gets, yp_yX12_gets, Nat.le_of_ble_eq_true rfl, Nat.le_of_ble_eq_true rfl, Nat.le_of_ble_eq_true rfl, Nat.le_of_ble_eq_true rfl⟩ mw_1536 mw_1537 layM_0 rfl rfl rfl (Nat.le_of_ble_eq_true rfl) (c_X12_gets (x_l X) (x_D X) (x_q X) g (x_cy X) (x_z X) _  o6 ho6) rfl rfl rfl rfl rfl rfl rfl rfl rfl rfl rfl rfl rfl rfl (fun g => ?_)
      refine go_puti (L1' := [(20, o4.1), (21, o5.1), (30, o6.1), (31, ((x_S X).1 31)), (32, ((x_S X).1 32)), (34, ((x_S X).1 34)), (35, ((x_S X).1 35)), (36, ((x_S X).1 36)), (37, ((x_S X).1 37)), (44, ((x_S X).1 44)), (51, ((x_S X).1 51)), (55, ((x_S X).1 55)), (60, ((x_S X).1 60)), (80, o6.2)]) (pc' := 56) hC 0 30 layM_0 rfl rfl inlX12 tyX12_ok nmX12 (Nat.le_of_ble_eq_true rfl) mw_248 rfl rfl rfl rfl dX12_restore_53 rfl rfl rfl ?_
      refine go_aload_n (pc' := 57) hC dX12_restore_56 rfl rfl ?_
      refine go_aload_n (pc' := 58) hC dX12_restore_57 rfl rfl ?_
      obtain ⟨o7, ho7, hf⟩ := bd_e hf
      refine go_callV (pc' := 61) (As := []) (st := [.ref (x_q X 0)]) (st' := [.int o7.1, .ref (x_q X 0)]) (L1' := [(20, o4.1), (21, o5.1), (30, o6.1), (31, ((x_S X).1 31)), (32, ((x_S X).1 32)), (34, ((x_S X).1 34)), (35, ((x_S X).1 35)), (36, ((x_S X).1 36)), (37, ((x_S X).1 37)), (44, ((x_S X).1 44)), (51, ((x_S X).1 51)), (55, ((x_S X).1 55)), (60, ((x_S X).1 60)), (80, o7.2)]) (L2' := []) (L3' := [(8, ((x_S X).2.2.1 8)), (9, ((x_S X).2.2.1 9)), (10, ((x_S X).2.2.1 10)), (11, ((x_S X).2.2.1 11)), (12, ((x_S X).2.2.1 12)), (13, ((x_S X).2.2.1 13)), (14, ((x_S X).2.2.1 14)), (15, ((x_S X).2.2.1 15)), (16, ((x_S X).2.2.1 16)), (27, ((x_S X).2.2.1 27)), (28, ((x_S X).2.2.1 28)), (29, ((x_S X).2.2.1 29)), (32, ((x_S X).2.2.1 32)), (33, ((x_S X).2.2.1 33)), (34, ((x_S X).2.2.1 34))]) (L4' := []) (L5' := []) (cells' := 0) (slots' := 0) (b := 0) hC dX12_restore_58 ⟨mw_1535, mw_1538, mw_5, yd_yX12_gets, yp_yX12_gets, Nat.le_of_ble_eq_true rfl, Nat.le_of_ble_eq_true rfl, Nat.le_of_ble_eq_true rfl, Nat.le_of_ble_eq_true rfl⟩ mw_1536 mw_1537 layM_0 rfl rfl rfl (Nat.le_of_ble_eq_true rfl) (c_X12_gets (x_l X) (x_D X) (x_q X) g (x_cy X) (x_z X) _  o7 ho7) rfl rfl rfl rfl rfl rfl rfl rfl rfl rfl rfl rfl rfl rfl (fun g => ?_)
      refine go_puti (L1' := [(20, o4.1), (21, o5.1), (30, o6.1), (31, o7.1), (32, ((x_S X).1 32)), (34, ((x_S X).1 34)), (35, ((x_S X).1 35)), (36, ((x_S X).1 36)), (37, ((x_S X).1 37)), (44, ((x_S X).1 44)), (51, ((x_S X).1 51)), (55, ((x_S X).1 55)), (60, ((x_S X).1 60)), (80, o7.2)]) (pc' := 64) hC 0 31 layM_0 rfl rfl inlX12 tyX12_ok nmX12 (Nat.le_of_ble_eq_true rfl) mw_249 rfl rfl rfl rfl dX12_restore_61 rfl rfl rfl ?_
      refine go_aload_n (pc' := 65) hC dX12_restore_64 rfl rfl ?_
      refine go_aload_n (pc' := 66) hC dX12_restore_65 rfl rfl ?_
      obtain ⟨o8, ho8, hf⟩ := bd_e hf
      refine go_callV (pc' := 69) (As := []) (st := [.ref (x_q X 0)]) (st' := [.int o8.1, .ref (x_q X 0)]) (L1' := [(20, o4.1), (21, o5.1), (30, o6.1), (31, o7.1), (32, ((x_S X).1 32)), (34, ((x_S X).1 34)), (35, ((x_S X).1 35)), (36, ((x_S X).1 36)), (37, ((x_S X).1 37)), (44, ((x_S X).1 44)), (51, ((x_S X).1 51)), (55, ((x_S X).1 55)), (60, ((x_S X).1 60)), (80, o8.2)]) (L2' := []) (L3' := [(8, ((x_S X).2.2.1 8)), (9, ((x_S X).2.2.1 9)), (10, ((x_S X).2.2.1 10)), (11, ((x_S X).2.2.1 11)), (12, ((x_S X).2.2.1 12)), (13, ((x_S X).2.2.1 13)), (14, ((x_S X).2.2.1 14)), (15, ((x_S X).2.2.1 15)), (16, ((x_S X).2.2.1 16)), (27, ((x_S X).2.2.1 27)), (28, ((x_S X).2.2.1 28)), (29, ((x_S X).2.2.1 29)), (32, ((x_S X).2.2.1 32)), (33, ((x_S X).2.2.1 33)), (34, ((x_S X).2.2.1 34))]) (L4' := []) (L5' := []) (cells' := 0) (slots' := 0) (b := 0) hC dX12_restore_66 ⟨mw_1535, mw_1538, mw_5, yd_yX12_gets, yp_yX12_gets, Nat.le_of_ble_eq_true rfl, Nat.le_of_ble_eq_true rfl, Nat.le_of_ble_eq_true rfl, Nat.le_of_ble_eq_true rfl⟩ mw_1536 mw_1537 layM_0 rfl rfl rfl (Nat.le_of_ble_eq_true rfl) (c_X12_gets (x_l X) (x_D X) (x_q X) g (x_cy X) (x_z X) _  o8 ho8) rfl rfl rfl rfl rfl rfl rfl rfl rfl rfl rfl rfl rfl rfl (fun g => ?_)
      refine go_puti (L1' := [(20, o4.1), (21, o5.1), (30, o6.1), (31, o7.1), (32, o8.1), (34, ((x_S X).1 34)), (35, ((x_S X).1 35)), (36, ((x_S X).1 36)), (37, ((x_S X).1 37)), (44, ((x_S X).1 44)), (51, ((x_S X).1 51)), (55, ((x_S X).1 55)), (60, ((x_S X).1 60)), (80, o8.2)]) (pc' := 72) hC 0 32 layM_0 rfl rfl inlX12 tyX12_ok nmX12 (Nat.le_of_ble_eq_true rfl) mw_250 rfl rfl rfl rfl dX12_restore_69 rfl rfl rfl ?_
      refine go_aload_n (pc' := 73) hC dX12_restore_72 rfl rfl ?_
      refine go_aload_n (pc' := 74) hC dX12_restore_73 rfl rfl ?_
      obtain ⟨o9, ho9, hf⟩ := bd_e hf
      refine go_callV (pc' := 77) (As := []) (st := [.ref (x_q X 0)]) (st' := [.int o9.1, .ref (x_q X 0)]) (L1' := [(20, o4.1), (21, o5.1), (30, o6.1), (31, o7.1), (32, o8.1), (34, ((x_S X).1 34)), (35, ((x_S X).1 35)), (36, ((x_S X).1 36)), (37, ((x_S X).1 37)), (44, ((x_S X).1 44)), (51, ((x_S X).1 51)), (55, ((x_S X).1 55)), (60, ((x_S X).1 60)), (80, o9.2)]) (L2' := []) (L3' := [(8, ((x_S X).2.2.1 8)), (9, ((x_S X).2.2.1 9)), (10, ((x_S X).2.2.1 10)), (11, ((x_S X).2.2.1 11)), (12, ((x_S X).2.2.1 12)), (13, ((x_S X).2.2.1 13)), (14, ((x_S X).2.2.1 14)), (15, ((x_S X).2.2.1 15)), (16, ((x_S X).2.2.1 16)), (27, ((x_S X).2.2.1 27)), (28, ((x_S X).2.2.1 28)), (29, ((x_S X).2.2.1 29)), (32, ((x_S X).2.2.1 32)), (33, ((x_S X).2.2.1 33)), (34, ((x_S X).2.2.1 34))]) (L4' := []) (L5' := []) (cells' := 0) (slots' := 0) (b := 0) hC dX12_restore_74 ⟨mw_1535, mw_1538, mw_5, yd_yX12_gets, yp_yX12_gets, Nat.le_of_ble_eq_true rfl, Nat.le_of_ble_eq_true rfl, Nat.le_of_ble_eq_true rfl, Nat.le_of_ble_eq_true rfl⟩ mw_1536 mw_1537 layM_0 rfl rfl rfl (Nat.le_of_ble_eq_true rfl) (c_X12_gets (x_l X) (x_D X) (x_q X) g (x_cy X) (x_z X) _  o9 ho9) rfl rfl rfl rfl rfl rfl rfl rfl rfl rfl rfl rfl rfl rfl (fun g => ?_)
      refine go_puti (L1' := [(20, o4.1), (21, o5.1), (30, o6.1), (31, o7.1), (32, o8.1), (34, o9.1), (35, ((x_S X).1 35)), (36, ((x_S X).1 36)), (37, ((x_S X).1 37)), (44, ((x_S X).1 44)), (51, ((x_S X).1 51)), (55, ((x_S X).1 55)), (60, ((x_S X).1 60)), (80, o9.2)]) (pc' := 80) hC 0 34 layM_0 rfl rfl inlX12 tyX12_ok nmX12 (Nat.le_of_ble_eq_true rfl) mw_251 rfl rfl rfl rfl dX12_restore_77 rfl rfl rfl ?_
      refine go_aload_n (pc' := 81) hC dX12_restore_80 rfl rfl ?_
      refine go_aload_n (pc' := 82) hC dX12_restore_81 rfl rfl ?_
      obtain ⟨o10, ho10, hf⟩ := bd_e hf
      refine go_callV (pc' := 85) (As := []) (st := [.ref (x_q X 0)]) (st' := [.int o10.1, .ref (x_q X 0)]) (L1' := [(20, o4.1), (21, o5.1), (30, o6.1), (31, o7.1), (32, o8.1), (34, o9.1), (35, ((x_S X).1 35)), (36, ((x_S X).1 36)), (37, ((x_S X).1 37)), (44, ((x_S X).1 44)), (51, ((x_S X).1 51)), (55, ((x_S X).1 55)), (60, ((x_S X).1 60)), (80, o10.2)]) (L2' := []) (L3' := [(8, ((x_S X).2.2.1 8)), (9, ((x_S X).2.2.1 9)), (10, ((x_S X).2.2.1 10)), (11, ((x_S X).2.2.1 11)), (12, ((x_S X).2.2.1 12)), (13, ((x_S X).2.2.1 13)), (14, ((x_S X).2.2.1 14)), (15, ((x_S X).2.2.1 15)), (16, ((x_S X).2.2.1 16)), (27, ((x_S X).2.2.1 27)), (28, ((x_S X).2.2.1 28)), (29, ((x_S X).2.2.1 29)), (32, ((x_S X).2.2.1 32)), (33, ((x_S X).2.2.1 33)), (34, ((x_S X).2.2.1 34))]) (L4' := []) (L5' := []) (cells' := 0) (slots' := 0) (b := 0) hC dX12_restore_82 ⟨mw_1535, mw_1538, mw_5, yd_yX12_gets, yp_yX12_gets, Nat.le_of_ble_eq_true rfl, Nat.le_of_ble_eq_true rfl, Nat.le_of_ble_eq_true rfl, Nat.le_of_ble_eq_true rfl⟩ mw_1536 mw_1537 layM_0 rfl rfl rfl (Nat.le_of_ble_eq_true rfl) (c_X12_gets (x_l X) (x_D X) (x_q X) g (x_cy X) (x_z X) _  o10 ho10) rfl rfl rfl rfl rfl rfl rfl rfl rfl rfl rfl rfl rfl rfl (fun g => ?_)
      refine go_puti (L1' := [(20, o4.1), (21, o5.1), (30, o6.1), (31, o7.1), (32, o8.1), (34, o9.1), (35, o10.1), (36, ((x_S X).1 36)), (37, ((x_S X).1 37)), (44, ((x_S X).1 44)), (51, ((x_S X).1 51)), (55, ((x_S X).1 55)), (60, ((x_S X).1 60)), (80, o10.2)]) (pc' := 88) hC 0 35 layM_0 rfl rfl inlX12 tyX12_ok nmX12 (Nat.le_of_ble_eq_true rfl) mw_252 rfl rfl rfl rfl dX12_restore_85 rfl rfl rfl ?_
      refine go_aload_n (pc' := 89) hC dX12_restore_88 rfl rfl ?_
      refine go_aload_n (pc' := 90) hC dX12_restore_89 rfl rfl ?_
      obtain ⟨o11, ho11, hf⟩ := bd_e hf
      refine go_callV (pc' := 93) (As := []) (st := [.ref (x_q X 0)]) (st' := [.int o11.1, .ref (x_q X 0)]) (L1' := [(20, o4.1), (21, o5.1), (30, o6.1), (31, o7.1), (32, o8.1), (34, o9.1), (35, o10.1), (36, ((x_S X).1 36)), (37, ((x_S X).1 37)), (44, ((x_S X).1 44)), (51, ((x_S X).1 51)), (55, ((x_S X).1 55)), (60, ((x_S X).1 60)), (80, o11.2)]) (L2' := []) (L3' := [(8, ((x_S X).2.2.1 8)), (9, ((x_S X).2.2.1 9)), (10, ((x_S X).2.2.1 10)), (11, ((x_S X).2.2.1 11)), (12, ((x_S X).2.2.1 12)), (13, ((x_S X).2.2.1 13)), (14, ((x_S X).2.2.1 14)), (15, ((x_S X).2.2.1 15)), (16, ((x_S X).2.2.1 16)), (27, ((x_S X).2.2.1 27)), (28, ((x_S X).2.2.1 28)), (29, ((x_S X).2.2.1 29)), (32, ((x_S X).2.2.1 32)), (33, ((x_S X).2.2.1 33)), (34, ((x_S X).2.2.1 34))]) (L4' := []) (L5' := []) (cells' := 0) (slots' := 0) (b := 0) hC dX12_restore_90 ⟨mw_1535, mw_1538, mw_5, yd_yX12_gets, yp_yX12_gets, Nat.le_of_ble_eq_true rfl, Nat.le_of_ble_eq_true rfl, Nat.le_of_ble_eq_true rfl, Nat.le_of_ble_eq_true rfl⟩ mw_1536 mw_1537 layM_0 rfl rfl rfl (Nat.le_of_ble_eq_true rfl) (c_X12_gets (x_l X) (x_D X) (x_q X) g (x_cy X) (x_z X) _  o11 ho11) rfl rfl rfl rfl rfl rfl rfl rfl rfl rfl rfl rfl rfl rfl (fun g => ?_)
      refine go_puti (L1' := [(20, o4.1), (21, o5.1), (30, o6.1), (31, o7.1), (32, o8.1), (34, o9.1), (35, o10.1), (36, o11.1), (37, ((x_S X).1 37)), (44, ((x_S X).1 44)), (51, ((x_S X).1 51)), (55, ((x_S X).1 55)), (60, ((x_S X).1 60)), (80, o11.2)]) (pc' := 96) hC 0 36 layM_0 rfl rfl inlX12 tyX12_ok nmX12 (Nat.le_of_ble_eq_true rfl) mw_253 rfl rfl rfl rfl dX12_restore_93 rfl rfl rfl ?_
      refine go_aload_n (pc' := 97) hC dX12_restore_96 rfl rfl ?_
      refine go_aload_n (pc' := 98) hC dX12_restore_97 rfl rfl ?_
      obtain ⟨o12, ho12, hf⟩ := bd_e hf
      refine go_callV (pc' := 101) (As := []) (st := [.ref (x_q X 0)]) (st' := [.int o12.1, .ref (x_q X 0)]) (L1' := [(20, o4.1), (21, o5.1), (30, o6.1), (31, o7.1), (32, o8.1), (34, o9.1), (35, o10.1), (36, o11.1), (37, ((x_S X).1 37)), (44, ((x_S X).1 44)), (51, ((x_S X).1 51)), (55, ((x_S X).1 55)), (60, ((x_S X).1 60)), (80, o12.2)]) (L2' := []) (L3' := [(8, ((x_S X).2.2.1 8)), (9, ((x_S X).2.2.1 9)), (10, ((x_S X).2.2.1 10)), (11, ((x_S X).2.2.1 11)), (12, ((x_S X).2.2.1 12)), (13, ((x_S X).2.2.1 13)), (14, ((x_S X).2.2.1 14)), (15, ((x_S X).2.2.1 15)), (16, ((x_S X).2.2.1 16)), (27, ((x_S X).2.2.1 27)), (28, ((x_S X).2.2.1 28)), (29, ((x_S X).2.2.1 29)), (32, ((x_S X).2.2.1 32)), (33, ((x_S X).2.2.1 33)), (34, ((x_S X).2.2.1 34))]) (L4' := []) (L5' := []) (cells' := 0) (slots' := 0) (b := 0) hC dX12_restore_98 ⟨mw_1535, mw_1538, mw_5, yd_yX12_gets, yp_yX12_gets, Nat.le_of_ble_eq_true rfl, Nat.le_of_ble_eq_true rfl, Nat.le_of_ble_eq_true rfl, Nat.le_of_ble_eq_true rfl⟩ mw_1536 mw_1537 layM_0 rfl rfl rfl (Nat.le_of_ble_eq_true rfl) (c_X12_gets (x_l X) (x_D X) (x_q X) g (x_cy X) (x_z X) _  o12 ho12) rfl rfl rfl rfl rfl rfl rfl rfl rfl rfl rfl rfl rfl rfl (fun g => ?_)
      refine go_puti (L1' := [(20, o4.1), (21, o5.1), (30, o6.1), (31, o7.1), (32, o8.1), (34, o9.1), (35, o10.1), (36, o11.1), (37, o12.1), (44, ((x_S X).1 44)), (51, ((x_S X).1 51)), (55, ((x_S X).1 55)), (60, ((x_S X).1 60)), (80, o12.2)]) (pc' := 104) hC 0 37 layM_0 rfl rfl inlX12 tyX12_ok nmX12 (Nat.le_of_ble_eq_true rfl) mw_254 rfl rfl rfl rfl dX12_restore_101 rfl rfl rfl ?_
      refine go_aload_n (pc' := 105) hC dX12_restore_104 rfl rfl ?_
      refine go_aload_n (pc' := 106) hC dX12_restore_105 rfl rfl ?_
      obtain ⟨o13, ho13, hf⟩ := bd_e hf
      refine go_callV (pc' := 109) (As := []) (st := [.ref (x_q X 0)]) (st' := [.int o13.1, .ref (x_q X 0)]) (L1' := [(20, o4.1), (21, o5.1), (30, o6.1), (31, o7.1), (32, o8.1), (34, o9.1), (35, o10.1), (36, o11.1), (37, o12.1), (44, ((x_S X).1 44)), (51, ((x_S X).1 51)), (55, ((x_S X).1 55)), (60, ((x_S X).1 60)), (80, o13.2)]) (L2' := []) (L3' := [(8, ((x_S X).2.2.1 8)), (9, ((x_S X).2.2.1 9)), (10, ((x_S X).2.2.1 10)), (11, ((x_S X).2.2.1 11)), (12, ((x_S X).2.2.1 12)), (13, ((x_S X).2.2.1 13)), (14, ((x_S X).2.2.1 14)), (15, ((x_S X).2.2.1 15)), (16, ((x_S X).2.2.1 16)), (27, ((x_S X).2.2.1 27)), (28, ((x_S X).2.2.1 28)), (29, ((x_S X).2.2.1 29)), (32, ((x_S X).2.2.1 32)), (33, ((x_S X).2.2.1 33)), (34, ((x_S X).2.2.1 34))]) (L4' := []) (L5' := []) (cells' := 0) (slots' := 0) (b := 0) hC dX12_restore_106 ⟨mw_1535, mw_1538, mw_5, yd_yX12_gets, yp_yX12_gets, Nat.le_of_ble_eq_true rfl, Nat.le_of_ble_eq_true rfl, Nat.le_of_ble_eq_true rfl, Nat.le_of_ble_eq_true rfl⟩ mw_1536 mw_1537 layM_0 rfl rfl rfl (Nat.le_of_ble_eq_true rfl) (c_X12_gets (x_l X) (x_D X) (x_q X) g (x_cy X) (x_z X) _  o13 ho13) rfl rfl rfl rfl rfl rfl rfl rfl rfl rfl rfl rfl rfl rfl (fun g => ?_)
      refine go_puti (L1' := [(20, o4.1), (21, o5.1), (30, o6.1), (31, o7.1), (32, o8.1), (34, o9.1), (35, o10.1), (36, o11.1), (37, o12.1), (44, ((x_S X).1 44)), (51, o13.1), (55, ((x_S X).1 55)), (60, ((x_S X).1 60)), (80, o13.2)]) (pc' := 112) hC 0 51 layM_0 rfl rfl inlX12 tyX12_ok nmX12 (Nat.le_of_ble_eq_true rfl) mw_255 rfl rfl rfl rfl dX12_restore_109 rfl rfl rfl ?_
      refine go_aload_n (pc' := 113) hC dX12_restore_112 rfl rfl ?_
      refine go_aload_n (pc' := 114) hC dX12_restore_113 rfl rfl ?_
      obtain ⟨o14, ho14, hf⟩ := bd_e hf
      refine go_callV (pc' := 117) (As := []) (st := [.ref (x_q X 0)]) (st' := [.int o14.1, .ref (x_q X 0)]) (L1' := [(20, o4.1), (21, o5.1), (30, o6.1), (31, o7.1), (32, o8.1), (34, o9.1), (35, o10.1), (36, o11.1), (37, o12.1), (44, ((x_S X).1 44)), (51, o13.1), (55, ((x_S X).1 55)), (60, ((x_S X).1 60)), (80, o14.2)]) (L2' := []) (L3' := [(8, ((x_S X).2.2.1 8)), (9, ((x_S X).2.2.1 9)), (10, ((x_S X).2.2.1 10)), (11, ((x_S X).2.2.1 11)), (12, ((x_S X).2.2.1 12)), (13, ((x_S X).2.2.1 13)), (14, ((x_S X).2.2.1 14)), (15, ((x_S X).2.2.1 15)), (16, ((x_S X).2.2.1 16)), (27, ((x_S X).2.2.1 27)), (28, ((x_S X).2.2.1 28)), (29, ((x_S X).2.2.1 29)), (32, ((x_S X).2.2.1 32)), (33, ((x_S X).2.2.1 33)), (34, ((x_S X).2.2.1 34))]) (L4' := []) (L5' := []) (cells' := 0) (slots' := 0) (b := 0) hC dX12_restore_114 ⟨mw_1535, mw_1538, mw_5, yd_yX12_gets, yp_yX12_gets, Nat.le_of_ble_eq_true rfl, Nat.le_of_ble_eq_true rfl, Nat.le_of_ble_eq_true rfl, Nat.le_of_ble_eq_true rfl⟩ mw_1536 mw_1537 layM_0 rfl rfl rfl (Nat.le_of_ble_eq_true rfl) (c_X12_gets (x_l X) (x_D X) (x_q X) g (x_cy X) (x_z X) _  o14 ho14) rfl rfl rfl rfl rfl rfl rfl rfl rfl rfl rfl rfl rfl rfl (fun g => ?_)
      refine go_puti (L1' := [(20, o4.1), (21, o5.1), (30, o6.1), (31, o7.1), (32, o8.1), (34, o9.1), (35, o10.1), (36, o11.1), (37, o12.1), (44, ((x_S X).1 44)), (51, o13.1), (55, ((x_S X).1 55)), (60, o14.1), (80, o14.2)]) (pc' := 120) hC 0 60 layM_0 rfl rfl inlX12 tyX12_ok nmX12 (Nat.le_of_ble_eq_true rfl) mw_256 rfl rfl rfl rfl dX12_restore_117 rfl rfl rfl ?_
      refine go_iconst (pc' := 121) hC dX12_restore_120 ki_0 rfl ?_
      refine go_istore_n (lc' := [(0, .ref (x_q X 0)), (1, .int p1), (2, .int (0 : Int32))]) (pc' := 122) hC dX12_restore_121 (Nat.le_of_ble_eq_true rfl) rfl rfl ?_
      obtain ⟨k203_22, hk203_22, hf⟩ := lk_e7 hf
      have jk203_22 : ∀ (x15 : Int32) (a16 : Nat → Int32) (a17 : Nat → Int32) (a18 : Nat → Int32) (a19 : Nat → Int32) (a20 : Nat → Int32) (a21 : Nat → Int32) (g : Nat → Nat), k203_22 x15 a16 a17 a18 a19 a20 a21 = some o → Go X layM 203 [(0, .ref (x_q X 0))] [] g [(20, o4.1), (21, o5.1), (30, o6.1), (31, o7.1), (32, o8.1), (34, o9.1), (35, o10.1), (36, o11.1), (37, o12.1), (44, ((x_S X).1 44)), (51, o13.1), (55, ((x_S X).1 55)), (60, o14.1), (80, x15)] [] [(8, a16), (9, a17), (10, a18), (11, a19), (12, a20), (13, a21), (14, ((x_S X).2.2.1 14)), (15, ((x_S X).2.2.1 15)), (16, ((x_S X).2.2.1 16)), (27, ((x_S X).2.2.1 27)), (28, ((x_S X).2.2.1 28)), (29, ((x_S X).2.2.1 29)), (32, ((x_S X).2.2.1 32)), (33, ((x_S X).2.2.1 33)), (34, ((x_S X).2.2.1 34))] [] [] 0 0 := by
        intro x15 a16 a17 a18 a19 a20 a21 g hf
        have hf := hk203_22 x15 a16 a17 a18 a19 a20 a21 hf
        clear hk203_22
        refine go_iconst (pc' := 204) hC dX12_restore_203 ki_0 rfl ?_
        refine go_istore_n (lc' := [(0, .ref (x_q X 0)), (2, .int (0 : Int32))]) (pc' := 205) hC dX12_restore_204 (Nat.le_of_ble_eq_true rfl) rfl rfl ?_
        obtain ⟨k237_26, hk237_26, hf⟩ := lk_e3 hf
        have jk237_26 : ∀ (x23 : Int32) (a24 : Nat → Int32) (a25 : Nat → Int32) (g : Nat → Nat), k237_26 x23 a24 a25 = some o → Go X layM 237 [(0, .ref (x_q X 0))] [] g [(20, o4.1), (21, o5.1), (30, o6.1), (31, o7.1), (32, o8.1), (34, o9.1), (35, o10.1), (36, o11.1), (37, o12.1), (44, ((x_S X).1 44)), (51, o13.1), (55, ((x_S X).1 55)), (60, o14.1), (80, x23)] [] [(8, a16), (9, a17), (10, a18), (11, a19), (12, a20), (13, a21), (14, a24), (15, a25), (16, ((x_S X).2.2.1 16)), (27, ((x_S X).2.2.1 27)), (28, ((x_S X).2.2.1 28)), (29, ((x_S X).2.2.1 29)), (32, ((x_S X).2.2.1 32)), (33, ((x_S X).2.2.1 33)), (34, ((x_S X).2.2.1 34))] [] [] 0 0 := by
          intro x23 a24 a25 g hf
          have hf := hk237_26 x23 a24 a25 hf
          clear hk237_26
          refine go_iconst (pc' := 238) hC dX12_restore_237 ki_0 rfl ?_
          refine go_istore_n (lc' := [(0, .ref (x_q X 0)), (2, .int (0 : Int32))]) (pc' := 239) hC dX12_restore_238 (Nat.le_of_ble_eq_true rfl) rfl rfl ?_
          obtain ⟨k261_29, hk261_29, hf⟩ := lk_e2 hf
          have jk261_29 : ∀ (x27 : Int32) (a28 : Nat → Int32) (g : Nat → Nat), k261_29 x27 a28 = some o → Go X layM 261 [(0, .ref (x_q X 0))] [] g [(20, o4.1), (21, o5.1), (30, o6.1), (31, o7.1), (32, o8.1), (34, o9.1), (35, o10.1), (36, o11.1), (37, o12.1), (44, ((x_S X).1 44)), (51, o13.1), (55, ((x_S X).1 55)), (60, o14.1), (80, x27)] [] [(8, a16), (9, a17), (10, a18), (11, a19), (12, a20), (13, a21), (14, a24), (15, a25), (16, a28), (27, ((x_S X).2.2.1 27)), (28, ((x_S X).2.2.1 28)), (29, ((x_S X).2.2.1 29)), (32, ((x_S X).2.2.1 32)), (33, ((x_S X).2.2.1 33)), (34, ((x_S X).2.2.1 34))] [] [] 0 0 := by
            intro x27 a28 g hf
            have hf := hk261_29 x27 a28 hf
            clear hk261_29
            refine go_iconst (pc' := 262) hC dX12_restore_261 ki_0 rfl ?_
            refine go_istore_n (lc' := [(0, .ref (x_q X 0)), (2, .int (0 : Int32))]) (pc' := 263) hC dX12_restore_262 (Nat.le_of_ble_eq_true rfl) rfl rfl ?_
            obtain ⟨k305_34, hk305_34, hf⟩ := lk_e4 hf
            have jk305_34 : ∀ (x30 : Int32) (a31 : Nat → Int32) (a32 : Nat → Int32) (a33 : Nat → Int32) (g : Nat → Nat), k305_34 x30 a31 a32 a33 = some o → Go X layM 305 [(0, .ref (x_q X 0))] [] g [(20, o4.1), (21, o5.1), (30, o6.1), (31, o7.1), (32, o8.1), (34, o9.1), (35, o10.1), (36, o11.1), (37, o12.1), (44, ((x_S X).1 44)), (51, o13.1), (55, ((x_S X).1 55)), (60, o14.1), (80, x30)] [] [(8, a16), (9, a17), (10, a18), (11, a19), (12, a20), (13, a21), (14, a24), (15, a25), (16, a28), (27, a31), (28, a32), (29, a33), (32, ((x_S X).2.2.1 32)), (33, ((x_S X).2.2.1 33)), (34, ((x_S X).2.2.1 34))] [] [] 0 0 := by
              intro x30 a31 a32 a33 g hf
              have hf := hk305_34 x30 a31 a32 a33 hf
              clear hk305_34
              refine go_iconst (pc' := 306) hC dX12_restore_305 ki_0 rfl ?_
              refine go_istore_n (lc' := [(0, .ref (x_q X 0)), (2, .int (0 : Int32))]) (pc' := 307) hC dX12_restore_306 (Nat.le_of_ble_eq_true rfl) rfl rfl ?_
              obtain ⟨k358_39, hk358_39, hf⟩ := lk_e4 hf
              have jk358_39 : ∀ (x35 : Int32) (a36 : Nat → Int32) (a37 : Nat → Int32) (a38 : Nat → Int32) (g : Nat → Nat), k358_39 x35 a36 a37 a38 = some o → Go X layM 358 [(0, .ref (x_q X 0))] [] g [(20, o4.1), (21, o5.1), (30, o6.1), (31, o7.1), (32, o8.1), (34, o9.1), (35, o10.1), (36, o11.1), (37, o12.1), (44, ((x_S X).1 44)), (51, o13.1), (55, ((x_S X).1 55)), (60, o14.1), (80, x35)] [] [(8, a16), (9, a17), (10, a18), (11, a19), (12, a20), (13, a21), (14, a24), (15, a25), (16, a28), (27, a31), (28, a32), (29, a33), (32, a36), (33, a37), (34, a38)] [] [] 0 0 := by
                intro x35 a36 a37 a38 g hf
                have hf := hk358_39 x35 a36 a37 a38 hf
                clear hk358_39
                refine go_aload_n (pc' := 359) hC dX12_restore_358 rfl rfl ?_
                refine go_iconst (pc' := 360) hC dX12_restore_359 ki_0 rfl ?_
                refine go_puti (L1' := [(20, o4.1), (21, o5.1), (30, o6.1), (31, o7.1), (32, o8.1), (34, o9.1), (35, o10.1), (36, o11.1), (37, o12.1), (44, ((x_S X).1 44)), (51, o13.1), (55, (0 : Int32)), (60, o14.1), (80, x35)]) (pc' := 363) hC 0 55 layM_0 rfl rfl inlX12 tyX12_ok nmX12 (Nat.le_of_ble_eq_true rfl) mw_257 rfl rfl rfl rfl dX12_restore_360 rfl rfl rfl ?_
                refine go_aload_n (pc' := 364) hC dX12_restore_363 rfl rfl ?_
                refine go_iconst (pc' := 365) hC dX12_restore_364 ki_0 rfl ?_
                refine go_puti (L1' := [(20, o4.1), (21, o5.1), (30, o6.1), (31, o7.1), (32, o8.1), (34, o9.1), (35, o10.1), (36, o11.1), (37, o12.1), (44, (0 : Int32)), (51, o13.1), (55, (0 : Int32)), (60, o14.1), (80, x35)]) (pc' := 368) hC 0 44 layM_0 rfl rfl inlX12 tyX12_ok nmX12 (Nat.le_of_ble_eq_true rfl) mw_258 rfl rfl rfl rfl dX12_restore_365 rfl rfl rfl ?_
                refine go_aload_n (pc' := 369) hC dX12_restore_368 rfl rfl ?_
                refine go_geti (v := o8.1) (pc' := 372) hC 0 32 layM_0 rfl rfl inlX12 (Nat.le_of_ble_eq_true rfl) mw_250 rfl dX12_restore_369 rfl rfl ?_
                obtain rfl := Option.some.inj hf
                exact go_iret hC hQ dX12_restore_372 rfl rfl rfl rfl rfl rfl
              clear hk358_39
              have l307_60 : ∀ (nn : Nat) (x40 : Int32) (x41 : Int32) (a42 : Nat → Int32) (a43 : Nat → Int32) (a44 : Nat → Int32) (g : Nat → Nat), it5 (f_X12_restore_L307 (x_S X) o4 o5 o6 o7 o8 o9 o10 o11 o12 o13 o14 a16 a17 a18 a19 a20 a21 a24 a25 a28 a31 a32 a33 k358_39) nn x40 x41 a42 a43 a44 = some o → Go X layM 307 [(0, .ref (x_q X 0)), (2, .int x40)] [] g [(20, o4.1), (21, o5.1), (30, o6.1), (31, o7.1), (32, o8.1), (34, o9.1), (35, o10.1), (36, o11.1), (37, o12.1), (44, ((x_S X).1 44)), (51, o13.1), (55, ((x_S X).1 55)), (60, o14.1), (80, x41)] [] [(8, a16), (9, a17), (10, a18), (11, a19), (12, a20), (13, a21), (14, a24), (15, a25), (16, a28), (27, a31), (28, a32), (29, a33), (32, a42), (33, a43), (34, a44)] [] [] 0 0 := by
                intro nn
                induction nn with
                | zero =>
                  intro x40 x41 a42 a43 a44 g hf
                  exact none_no hf
                | succ nn ih =>
                  intro x40 x41 a42 a43 a44 g hf
                  have hf : f_X12_restore_L307 (x_S X) o4 o5 o6 o7 o8 o9 o10 o11 o12 o13 o14 a16 a17 a18 a19 a20 a21 a24 a25 a28 a31 a32 a33 k358_39 (it5 (f_X12_restore_L307 (x_S X) o4 o5 o6 o7 o8 o9 o10 o11 o12 o13 o14 a16 a17 a18 a19 a20 a21 a24 a25 a28 a31 a32 a33 k358_39) nn) x40 x41 a42 a43 a44 = some o := hf
                  generalize it5 (f_X12_restore_L307 (x_S X) o4 o5 o6 o7 o8 o9 o10 o11 o12 o13 o14 a16 a17 a18 a19 a20 a21 a24 a25 a28 a31 a32 a33 k358_39) nn = r45 at ih hf
                  unfold f_X12_restore_L307 at hf
                  refine go_iload_n (pc' := 308) hC dX12_restore_307 rfl rfl ?_
                  refine go_bipush (pc' := 310) hC dX12_restore_308 kb_6 rfl ?_
                  refine go_icmp_ge (tgt := 358) (pc' := 313) hC dX12_restore_310 (by decide) rfl (fun h59 => ?_) (fun h59 => ?_)
                  · have hf := ite_t h59 hf
                    refine go_sub [0] rfl ?_
                    exact jk358_39 x41 a42 a43 a44 g hf
                  · have hf := ite_f h59 hf
                    refine go_aload_n (pc' := 314) hC dX12_restore_313 rfl rfl ?_
                    refine go_getq (pc' := 317) hC 0 61 layM_0 rfl rfl inlX12 (Nat.le_of_ble_eq_true rfl) mw_213 rfl dX12_restore_314 rfl ?_
                    refine go_iload_n (pc' := 318) hC dX12_restore_317 rfl rfl ?_
                    refine go_aload_n (pc' := 319) hC dX12_restore_318 rfl rfl ?_
                    obtain ⟨o46, ho46, hf⟩ := bd_e hf
                    refine go_callV (pc' := 322) (As := []) (st := [.int x40, .ref (x_q X 32)]) (st' := [.int o46.1, .int x40, .ref (x_q X 32)]) (L1' := [(20, o4.1), (21, o5.1), (30, o6.1), (31, o7.1), (32, o8.1), (34, o9.1), (35, o10.1), (36, o11.1), (37, o12.1), (44, ((x_S X).1 44)), (51, o13.1), (55, ((x_S X).1 55)), (60, o14.1), (80, o46.2)]) (L2' := []) (L3' := [(8, a16), (9, a17), (10, a18), (11, a19), (12, a20), (13, a21), (14, a24), (15, a25), (16, a28), (27, a31), (28, a32), (29, a33), (32, a42), (33, a43), (34, a44)]) (L4' := []) (L5' := []) (cells' := 0) (slots' := 0) (b := 0) hC dX12_restore_319 ⟨mw_1535, mw_1538, mw_5, yd_yX12_gets, yp_yX12_gets, Nat.le_of_ble_eq_true rfl, Nat.le_of_ble_eq_true rfl, Nat.le_of_ble_eq_true rfl, Nat.le_of_ble_eq_true rfl⟩ mw_1536 mw_1537 layM_0 rfl rfl rfl (Nat.le_of_ble_eq_true rfl) (c_X12_gets (x_l X) (x_D X) (x_q X) g (x_cy X) (x_z X) _  o46 ho46) rfl rfl rfl rfl rfl rfl rfl rfl rfl rfl rfl rfl rfl rfl (fun g => ?_)
                    obtain ⟨h47, hf⟩ := gd_e hf
                    refine go_iast (f := a42) (pc' := 323) hC 32 layM_32 rfl rfl dX12_restore_322 (okx_in h47) rfl rfl (fun a48 ha L3' hL => ?_)
                    have hf := lz_r ha hf
                    clear ha
                    obtain rfl : L3' = [(8, a16), (9, a17), (10, a18), (11, a19), (12, a20), (13, a21), (14, a24), (15, a25), (16, a28), (27, a31), (28, a32), (29, a33), (32, a48), (33, a43), (34, a44)] := hL.symm
                    refine go_aload_n (pc' := 324) hC dX12_restore_323 rfl rfl ?_
                    refine go_getq (pc' := 327) hC 0 62 layM_0 rfl rfl inlX12 (Nat.le_of_ble_eq_true rfl) mw_214 rfl dX12_restore_324 rfl ?_
                    refine go_iload_n (pc' := 328) hC dX12_restore_327 rfl rfl ?_
                    refine go_aload_n (pc' := 329) hC dX12_restore_328 rfl rfl ?_
                    obtain ⟨o49, ho49, hf⟩ := bd_e hf
                    refine go_callV (pc' := 332) (As := []) (st := [.int x40, .ref (x_q X 33)]) (st' := [.int o49.1, .int x40, .ref (x_q X 33)]) (L1' := [(20, o4.1), (21, o5.1), (30, o6.1), (31, o7.1), (32, o8.1), (34, o9.1), (35, o10.1), (36, o11.1), (37, o12.1), (44, ((x_S X).1 44)), (51, o13.1), (55, ((x_S X).1 55)), (60, o14.1), (80, o49.2)]) (L2' := []) (L3' := [(8, a16), (9, a17), (10, a18), (11, a19), (12, a20), (13, a21), (14, a24), (15, a25), (16, a28), (27, a31), (28, a32), (29, a33), (32, a48), (33, a43), (34, a44)]) (L4' := []) (L5' := []) (cells' := 0) (slots' := 0) (b := 0) hC dX12_restore_329 ⟨mw_1535, mw_1538, mw_5, yd_yX12_gets, yp_yX12_gets, Nat.le_of_ble_eq_true rfl, Nat.le_of_ble_eq_true rfl, Nat.le_of_ble_eq_true rfl, Nat.le_of_ble_eq_true rfl⟩ mw_1536 mw_1537 layM_0 rfl rfl rfl (Nat.le_of_ble_eq_true rfl) (c_X12_gets (x_l X) (x_D X) (x_q X) g (x_cy X) (x_z X) _  o49 ho49) rfl rfl rfl rfl rfl rfl rfl rfl rfl rfl rfl rfl rfl rfl (fun g => ?_)
                    obtain ⟨h50, hf⟩ := gd_e hf
                    refine go_iast (f := a43) (pc' := 333) hC 33 layM_33 rfl rfl dX12_restore_332 (okx_in h50) rfl rfl (fun a51 ha L3' hL => ?_)
                    have hf := lz_r ha hf
                    clear ha
                    obtain rfl : L3' = [(8, a16), (9, a17), (10, a18), (11, a19), (12, a20), (13, a21), (14, a24), (15, a25), (16, a28), (27, a31), (28, a32), (29, a33), (32, a48), (33, a51), (34, a44)] := hL.symm
                    refine go_aload_n (pc' := 334) hC dX12_restore_333 rfl rfl ?_
                    refine go_getq (pc' := 337) hC 0 63 layM_0 rfl rfl inlX12 (Nat.le_of_ble_eq_true rfl) mw_215 rfl dX12_restore_334 rfl ?_
                    refine go_iload_n (pc' := 338) hC dX12_restore_337 rfl rfl ?_
                    refine go_aload_n (pc' := 339) hC dX12_restore_338 rfl rfl ?_
                    obtain ⟨o52, ho52, hf⟩ := bd_e hf
                    refine go_callV (pc' := 342) (As := []) (st := [.int x40, .ref (x_q X 34)]) (st' := [.int o52.1, .int x40, .ref (x_q X 34)]) (L1' := [(20, o4.1), (21, o5.1), (30, o6.1), (31, o7.1), (32, o8.1), (34, o9.1), (35, o10.1), (36, o11.1), (37, o12.1), (44, ((x_S X).1 44)), (51, o13.1), (55, ((x_S X).1 55)), (60, o14.1), (80, o52.2)]) (L2' := []) (L3' := [(8, a16), (9, a17), (10, a18), (11, a19), (12, a20), (13, a21), (14, a24), (15, a25), (16, a28), (27, a31), (28, a32), (29, a33), (32, a48), (33, a51), (34, a44)]) (L4' := []) (L5' := []) (cells' := 0) (slots' := 0) (b := 0) hC dX12_restore_339 ⟨mw_1535, mw_1538, mw_5, yd_yX12_gets, yp_yX12_gets, Nat.le_of_ble_eq_true rfl, Nat.le_of_ble_eq_true rfl, Nat.le_of_ble_eq_true rfl, Nat.le_of_ble_eq_true rfl⟩ mw_1536 mw_1537 layM_0 rfl rfl rfl (Nat.le_of_ble_eq_true rfl) (c_X12_gets (x_l X) (x_D X) (x_q X) g (x_cy X) (x_z X) _  o52 ho52) rfl rfl rfl rfl rfl rfl rfl rfl rfl rfl rfl rfl rfl rfl (fun g => ?_)
                    refine go_iconst (pc' := 343) hC dX12_restore_342 ki_1 rfl ?_
                    obtain ⟨k351_55, hk351_55, hf⟩ := lk_e2 hf
                    have jk351_55 : ∀ (x53 : Int32) (x54 : Int32) (g : Nat → Nat), k351_55 x53 x54 = some o → Go X layM 351 [(0, .ref (x_q X 0)), (2, .int x40)] [.int x53, .int x54, .ref (x_q X 34)] g [(20, o4.1), (21, o5.1), (30, o6.1), (31, o7.1), (32, o8.1), (34, o9.1), (35, o10.1), (36, o11.1), (37, o12.1), (44, ((x_S X).1 44)), (51, o13.1), (55, ((x_S X).1 55)), (60, o14.1), (80, o52.2)] [] [(8, a16), (9, a17), (10, a18), (11, a19), (12, a20), (13, a21), (14, a24), (15, a25), (16, a28), (27, a31), (28, a32), (29, a33), (32, a48), (33, a51), (34, a44)] [] [] 0 0 := by
                      intro x53 x54 g hf
                      have hf := hk351_55 x53 x54 hf
                      clear hk351_55
                      obtain ⟨h56, hf⟩ := gd_e hf
                      refine go_zast (f := a44) (pc' := 352) hC 34 layM_34 rfl rfl dX12_restore_351 (okx_in h56) rfl rfl (fun a57 ha L3' hL => ?_)
                      have hf := lz_r ha hf
                      clear ha
                      obtain rfl : L3' = [(8, a16), (9, a17), (10, a18), (11, a19), (12, a20), (13, a21), (14, a24), (15, a25), (16, a28), (27, a31), (28, a32), (29, a33), (32, a48), (33, a51), (34, a57)] := hL.symm
                      refine go_iinc (lc' := [(0, .ref (x_q X 0)), (2, .int (x40 + (1 : Int32)))]) (pc' := 355) hC dX12_restore_352 rfl ki_1 (Nat.le_of_ble_eq_true rfl) rfl rfl ?_
                      refine go_goto (tgt := 307) hC dX12_restore_355 (by decide) ?_
                      exact ih (x40 + (1 : Int32)) o52.2 a48 a51 a57 g hf
                    clear hk351_55
                    refine go_icmp_ne (tgt := 350) (pc' := 346) hC dX12_restore_343 (by decide) rfl (fun h58 => ?_) (fun h58 => ?_)
                    · have hf := ite_f h58 hf
                      refine go_iconst (pc' := 351) hC dX12_restore_350 ki_0 rfl ?_
                      exact jk351_55 (0 : Int32) x40 g hf
                    · have hf := ite_t h58 hf
                      refine go_iconst (pc' := 347) hC dX12_restore_346 ki_1 rfl ?_
                      refine go_goto (tgt := 351) hC dX12_restore_347 (by decide) ?_
                      exact jk351_55 (1 : Int32) x40 g hf
              exact l307_60 fuel (0 : Int32) x30 ((x_S X).2.2.1 32) ((x_S X).2.2.1 33) ((x_S X).2.2.1 34) g hf
            clear hk305_34
            have l263_77 : ∀ (nn : Nat) (x61 : Int32) (x62 : Int32) (a63 : Nat → Int32) (a64 : Nat → Int32) (a65 : Nat → Int32) (g : Nat → Nat), it5 (f_X12_restore_L263 (x_S X) o4 o5 o6 o7 o8 o9 o10 o11 o12 o13 o14 a16 a17 a18 a19 a20 a21 a24 a25 a28 k305_34) nn x61 x62 a63 a64 a65 = some o → Go X layM 263 [(0, .ref (x_q X 0)), (2, .int x61)] [] g [(20, o4.1), (21, o5.1), (30, o6.1), (31, o7.1), (32, o8.1), (34, o9.1), (35, o10.1), (36, o11.1), (37, o12.1), (44, ((x_S X).1 44)), (51, o13.1), (55, ((x_S X).1 55)), (60, o14.1), (80, x62)] [] [(8, a16), (9, a17), (10, a18), (11, a19), (12, a20), (13, a21), (14, a24), (15, a25), (16, a28), (27, a63), (28, a64), (29, a65), (32, ((x_S X).2.2.1 32)), (33, ((x_S X).2.2.1 33)), (34, ((x_S X).2.2.1 34))] [] [] 0 0 := by
              intro nn
              induction nn with
              | zero =>
                intro x61 x62 a63 a64 a65 g hf
                exact none_no hf
              | succ nn ih =>
                intro x61 x62 a63 a64 a65 g hf
                have hf : f_X12_restore_L263 (x_S X) o4 o5 o6 o7 o8 o9 o10 o11 o12 o13 o14 a16 a17 a18 a19 a20 a21 a24 a25 a28 k305_34 (it5 (f_X12_restore_L263 (x_S X) o4 o5 o6 o7 o8 o9 o10 o11 o12 o13 o14 a16 a17 a18 a19 a20 a21 a24 a25 a28 k305_34) nn) x61 x62 a63 a64 a65 = some o := hf
                generalize it5 (f_X12_restore_L263 (x_S X) o4 o5 o6 o7 o8 o9 o10 o11 o12 o13 o14 a16 a17 a18 a19 a20 a21 a24 a25 a28 k305_34) nn = r66 at ih hf
                unfold f_X12_restore_L263 at hf
                refine go_iload_n (pc' := 264) hC dX12_restore_263 rfl rfl ?_
                refine go_bipush (pc' := 266) hC dX12_restore_264 kb_9 rfl ?_
                refine go_icmp_ge (tgt := 305) (pc' := 269) hC dX12_restore_266 (by decide) rfl (fun h76 => ?_) (fun h76 => ?_)
                · have hf := ite_t h76 hf
                  refine go_sub [0] rfl ?_
                  exact jk305_34 x62 a63 a64 a65 g hf
                · have hf := ite_f h76 hf
                  refine go_aload_n (pc' := 270) hC dX12_restore_269 rfl rfl ?_
                  refine go_getq (pc' := 273) hC 0 52 layM_0 rfl rfl inlX12 (Nat.le_of_ble_eq_true rfl) mw_208 rfl dX12_restore_270 rfl ?_
                  refine go_iload_n (pc' := 274) hC dX12_restore_273 rfl rfl ?_
                  refine go_aload_n (pc' := 275) hC dX12_restore_274 rfl rfl ?_
                  obtain ⟨o67, ho67, hf⟩ := bd_e hf
                  refine go_callV (pc' := 278) (As := []) (st := [.int x61, .ref (x_q X 27)]) (st' := [.int o67.1, .int x61, .ref (x_q X 27)]) (L1' := [(20, o4.1), (21, o5.1), (30, o6.1), (31, o7.1), (32, o8.1), (34, o9.1), (35, o10.1), (36, o11.1), (37, o12.1), (44, ((x_S X).1 44)), (51, o13.1), (55, ((x_S X).1 55)), (60, o14.1), (80, o67.2)]) (L2' := []) (L3' := [(8, a16), (9, a17), (10, a18), (11, a19), (12, a20), (13, a21), (14, a24), (15, a25), (16, a28), (27, a63), (28, a64), (29, a65), (32, ((x_S X).2.2.1 32)), (33, ((x_S X).2.2.1 33)), (34, ((x_S X).2.2.1 34))]) (L4' := []) (L5' := []) (cells' := 0) (slots' := 0) (b := 0) hC dX12_restore_275 ⟨mw_1535, mw_1538, mw_5, yd_yX12_gets, yp_yX12_gets, Nat.le_of_ble_eq_true rfl, Nat.le_of_ble_eq_true rfl, Nat.le_of_ble_eq_true rfl, Nat.le_of_ble_eq_true rfl⟩ mw_1536 mw_1537 layM_0 rfl rfl rfl (Nat.le_of_ble_eq_true rfl) (c_X12_gets (x_l X) (x_D X) (x_q X) g (x_cy X) (x_z X) _  o67 ho67) rfl rfl rfl rfl rfl rfl rfl rfl rfl rfl rfl rfl rfl rfl (fun g => ?_)
                  obtain ⟨h68, hf⟩ := gd_e hf
                  refine go_iast (f := a63) (pc' := 279) hC 27 layM_27 rfl rfl dX12_restore_278 (okx_in h68) rfl rfl (fun a69 ha L3' hL => ?_)
                  have hf := lz_r ha hf
                  clear ha
                  obtain rfl : L3' = [(8, a16), (9, a17), (10, a18), (11, a19), (12, a20), (13, a21), (14, a24), (15, a25), (16, a28), (27, a69), (28, a64), (29, a65), (32, ((x_S X).2.2.1 32)), (33, ((x_S X).2.2.1 33)), (34, ((x_S X).2.2.1 34))] := hL.symm
                  refine go_aload_n (pc' := 280) hC dX12_restore_279 rfl rfl ?_
                  refine go_getq (pc' := 283) hC 0 53 layM_0 rfl rfl inlX12 (Nat.le_of_ble_eq_true rfl) mw_209 rfl dX12_restore_280 rfl ?_
                  refine go_iload_n (pc' := 284) hC dX12_restore_283 rfl rfl ?_
                  refine go_aload_n (pc' := 285) hC dX12_restore_284 rfl rfl ?_
                  obtain ⟨o70, ho70, hf⟩ := bd_e hf
                  refine go_callV (pc' := 288) (As := []) (st := [.int x61, .ref (x_q X 28)]) (st' := [.int o70.1, .int x61, .ref (x_q X 28)]) (L1' := [(20, o4.1), (21, o5.1), (30, o6.1), (31, o7.1), (32, o8.1), (34, o9.1), (35, o10.1), (36, o11.1), (37, o12.1), (44, ((x_S X).1 44)), (51, o13.1), (55, ((x_S X).1 55)), (60, o14.1), (80, o70.2)]) (L2' := []) (L3' := [(8, a16), (9, a17), (10, a18), (11, a19), (12, a20), (13, a21), (14, a24), (15, a25), (16, a28), (27, a69), (28, a64), (29, a65), (32, ((x_S X).2.2.1 32)), (33, ((x_S X).2.2.1 33)), (34, ((x_S X).2.2.1 34))]) (L4' := []) (L5' := []) (cells' := 0) (slots' := 0) (b := 0) hC dX12_restore_285 ⟨mw_1535, mw_1538, mw_5, yd_yX12_gets, yp_yX12_gets, Nat.le_of_ble_eq_true rfl, Nat.le_of_ble_eq_true rfl, Nat.le_of_ble_eq_true rfl, Nat.le_of_ble_eq_true rfl⟩ mw_1536 mw_1537 layM_0 rfl rfl rfl (Nat.le_of_ble_eq_true rfl) (c_X12_gets (x_l X) (x_D X) (x_q X) g (x_cy X) (x_z X) _  o70 ho70) rfl rfl rfl rfl rfl rfl rfl rfl rfl rfl rfl rfl rfl rfl (fun g => ?_)
                  obtain ⟨h71, hf⟩ := gd_e hf
                  refine go_iast (f := a64) (pc' := 289) hC 28 layM_28 rfl rfl dX12_restore_288 (okx_in h71) rfl rfl (fun a72 ha L3' hL => ?_)
                  have hf := lz_r ha hf
                  clear ha
                  obtain rfl : L3' = [(8, a16), (9, a17), (10, a18), (11, a19), (12, a20), (13, a21), (14, a24), (15, a25), (16, a28), (27, a69), (28, a72), (29, a65), (32, ((x_S X).2.2.1 32)), (33, ((x_S X).2.2.1 33)), (34, ((x_S X).2.2.1 34))] := hL.symm
                  refine go_aload_n (pc' := 290) hC dX12_restore_289 rfl rfl ?_
                  refine go_getq (pc' := 293) hC 0 54 layM_0 rfl rfl inlX12 (Nat.le_of_ble_eq_true rfl) mw_210 rfl dX12_restore_290 rfl ?_
                  refine go_iload_n (pc' := 294) hC dX12_restore_293 rfl rfl ?_
                  refine go_aload_n (pc' := 295) hC dX12_restore_294 rfl rfl ?_
                  obtain ⟨o73, ho73, hf⟩ := bd_e hf
                  refine go_callV (pc' := 298) (As := []) (st := [.int x61, .ref (x_q X 29)]) (st' := [.int o73.1, .int x61, .ref (x_q X 29)]) (L1' := [(20, o4.1), (21, o5.1), (30, o6.1), (31, o7.1), (32, o8.1), (34, o9.1), (35, o10.1), (36, o11.1), (37, o12.1), (44, ((x_S X).1 44)), (51, o13.1), (55, ((x_S X).1 55)), (60, o14.1), (80, o73.2)]) (L2' := []) (L3' := [(8, a16), (9, a17), (10, a18), (11, a19), (12, a20), (13, a21), (14, a24), (15, a25), (16, a28), (27, a69), (28, a72), (29, a65), (32, ((x_S X).2.2.1 32)), (33, ((x_S X).2.2.1 33)), (34, ((x_S X).2.2.1 34))]) (L4' := []) (L5' := []) (cells' := 0) (slots' := 0) (b := 0) hC dX12_restore_295 ⟨mw_1535, mw_1538, mw_5, yd_yX12_gets, yp_yX12_gets, Nat.le_of_ble_eq_true rfl, Nat.le_of_ble_eq_true rfl, Nat.le_of_ble_eq_true rfl, Nat.le_of_ble_eq_true rfl⟩ mw_1536 mw_1537 layM_0 rfl rfl rfl (Nat.le_of_ble_eq_true rfl) (c_X12_gets (x_l X) (x_D X) (x_q X) g (x_cy X) (x_z X) _  o73 ho73) rfl rfl rfl rfl rfl rfl rfl rfl rfl rfl rfl rfl rfl rfl (fun g => ?_)
                  obtain ⟨h74, hf⟩ := gd_e hf
                  refine go_iast (f := a65) (pc' := 299) hC 29 layM_29 rfl rfl dX12_restore_298 (okx_in h74) rfl rfl (fun a75 ha L3' hL => ?_)
                  have hf := lz_r ha hf
                  clear ha
                  obtain rfl : L3' = [(8, a16), (9, a17), (10, a18), (11, a19), (12, a20), (13, a21), (14, a24), (15, a25), (16, a28), (27, a69), (28, a72), (29, a75), (32, ((x_S X).2.2.1 32)), (33, ((x_S X).2.2.1 33)), (34, ((x_S X).2.2.1 34))] := hL.symm
                  refine go_iinc (lc' := [(0, .ref (x_q X 0)), (2, .int (x61 + (1 : Int32)))]) (pc' := 302) hC dX12_restore_299 rfl ki_1 (Nat.le_of_ble_eq_true rfl) rfl rfl ?_
                  refine go_goto (tgt := 263) hC dX12_restore_302 (by decide) ?_
                  exact ih (x61 + (1 : Int32)) o73.2 a69 a72 a75 g hf
            exact l263_77 fuel (0 : Int32) x27 ((x_S X).2.2.1 27) ((x_S X).2.2.1 28) ((x_S X).2.2.1 29) g hf
          clear hk261_29
          have l239_86 : ∀ (nn : Nat) (x78 : Int32) (x79 : Int32) (a80 : Nat → Int32) (g : Nat → Nat), it3 (f_X12_restore_L239 (x_S X) o4 o5 o6 o7 o8 o9 o10 o11 o12 o13 o14 a16 a17 a18 a19 a20 a21 a24 a25 k261_29) nn x78 x79 a80 = some o → Go X layM 239 [(0, .ref (x_q X 0)), (2, .int x78)] [] g [(20, o4.1), (21, o5.1), (30, o6.1), (31, o7.1), (32, o8.1), (34, o9.1), (35, o10.1), (36, o11.1), (37, o12.1), (44, ((x_S X).1 44)), (51, o13.1), (55, ((x_S X).1 55)), (60, o14.1), (80, x79)] [] [(8, a16), (9, a17), (10, a18), (11, a19), (12, a20), (13, a21), (14, a24), (15, a25), (16, a80), (27, ((x_S X).2.2.1 27)), (28, ((x_S X).2.2.1 28)), (29, ((x_S X).2.2.1 29)), (32, ((x_S X).2.2.1 32)), (33, ((x_S X).2.2.1 33)), (34, ((x_S X).2.2.1 34))] [] [] 0 0 := by
            intro nn
            induction nn with
            | zero =>
              intro x78 x79 a80 g hf
              exact none_no hf
            | succ nn ih =>
              intro x78 x79 a80 g hf
              have hf : f_X12_restore_L239 (x_S X) o4 o5 o6 o7 o8 o9 o10 o11 o12 o13 o14 a16 a17 a18 a19 a20 a21 a24 a25 k261_29 (it3 (f_X12_restore_L239 (x_S X) o4 o5 o6 o7 o8 o9 o10 o11 o12 o13 o14 a16 a17 a18 a19 a20 a21 a24 a25 k261_29) nn) x78 x79 a80 = some o := hf
              generalize it3 (f_X12_restore_L239 (x_S X) o4 o5 o6 o7 o8 o9 o10 o11 o12 o13 o14 a16 a17 a18 a19 a20 a21 a24 a25 k261_29) nn = r81 at ih hf
              unfold f_X12_restore_L239 at hf
              refine go_iload_n (pc' := 240) hC dX12_restore_239 rfl rfl ?_
              refine go_bipush (pc' := 242) hC dX12_restore_240 kb_15 rfl ?_
              refine go_icmp_ge (tgt := 261) (pc' := 245) hC dX12_restore_242 (by decide) rfl (fun h85 => ?_) (fun h85 => ?_)
              · have hf := ite_t h85 hf
                refine go_sub [0] rfl ?_
                exact jk261_29 x79 a80 g hf
              · have hf := ite_f h85 hf
                refine go_aload_n (pc' := 246) hC dX12_restore_245 rfl rfl ?_
                refine go_getq (pc' := 249) hC 0 33 layM_0 rfl rfl inlX12 (Nat.le_of_ble_eq_true rfl) mw_196 rfl dX12_restore_246 rfl ?_
                refine go_iload_n (pc' := 250) hC dX12_restore_249 rfl rfl ?_
                refine go_aload_n (pc' := 251) hC dX12_restore_250 rfl rfl ?_
                obtain ⟨o82, ho82, hf⟩ := bd_e hf
                refine go_callV (pc' := 254) (As := []) (st := [.int x78, .ref (x_q X 16)]) (st' := [.int o82.1, .int x78, .ref (x_q X 16)]) (L1' := [(20, o4.1), (21, o5.1), (30, o6.1), (31, o7.1), (32, o8.1), (34, o9.1), (35, o10.1), (36, o11.1), (37, o12.1), (44, ((x_S X).1 44)), (51, o13.1), (55, ((x_S X).1 55)), (60, o14.1), (80, o82.2)]) (L2' := []) (L3' := [(8, a16), (9, a17), (10, a18), (11, a19), (12, a20), (13, a21), (14, a24), (15, a25), (16, a80), (27, ((x_S X).2.2.1 27)), (28, ((x_S X).2.2.1 28)), (29, ((x_S X).2.2.1 29)), (32, ((x_S X).2.2.1 32)), (33, ((x_S X).2.2.1 33)), (34, ((x_S X).2.2.1 34))]) (L4' := []) (L5' := []) (cells' := 0) (slots' := 0) (b := 0) hC dX12_restore_251 ⟨mw_1535, mw_1538, mw_5, yd_yX12_gets, yp_yX12_gets, Nat.le_of_ble_eq_true rfl, Nat.le_of_ble_eq_true rfl, Nat.le_of_ble_eq_true rfl, Nat.le_of_ble_eq_true rfl⟩ mw_1536 mw_1537 layM_0 rfl rfl rfl (Nat.le_of_ble_eq_true rfl) (c_X12_gets (x_l X) (x_D X) (x_q X) g (x_cy X) (x_z X) _  o82 ho82) rfl rfl rfl rfl rfl rfl rfl rfl rfl rfl rfl rfl rfl rfl (fun g => ?_)
                obtain ⟨h83, hf⟩ := gd_e hf
                refine go_iast (f := a80) (pc' := 255) hC 16 layM_16 rfl rfl dX12_restore_254 (okx_in h83) rfl rfl (fun a84 ha L3' hL => ?_)
                have hf := lz_r ha hf
                clear ha
                obtain rfl : L3' = [(8, a16), (9, a17), (10, a18), (11, a19), (12, a20), (13, a21), (14, a24), (15, a25), (16, a84), (27, ((x_S X).2.2.1 27)), (28, ((x_S X).2.2.1 28)), (29, ((x_S X).2.2.1 29)), (32, ((x_S X).2.2.1 32)), (33, ((x_S X).2.2.1 33)), (34, ((x_S X).2.2.1 34))] := hL.symm
                refine go_iinc (lc' := [(0, .ref (x_q X 0)), (2, .int (x78 + (1 : Int32)))]) (pc' := 258) hC dX12_restore_255 rfl ki_1 (Nat.le_of_ble_eq_true rfl) rfl rfl ?_
                refine go_goto (tgt := 239) hC dX12_restore_258 (by decide) ?_
                exact ih (x78 + (1 : Int32)) o82.2 a84 g hf
          exact l239_86 fuel (0 : Int32) x23 ((x_S X).2.2.1 16) g hf
        clear hk237_26
        have l205_99 : ∀ (nn : Nat) (x87 : Int32) (x88 : Int32) (a89 : Nat → Int32) (a90 : Nat → Int32) (g : Nat → Nat), it4 (f_X12_restore_L205 (x_S X) o4 o5 o6 o7 o8 o9 o10 o11 o12 o13 o14 a16 a17 a18 a19 a20 a21 k237_26) nn x87 x88 a89 a90 = some o → Go X layM 205 [(0, .ref (x_q X 0)), (2, .int x87)] [] g [(20, o4.1), (21, o5.1), (30, o6.1), (31, o7.1), (32, o8.1), (34, o9.1), (35, o10.1), (36, o11.1), (37, o12.1), (44, ((x_S X).1 44)), (51, o13.1), (55, ((x_S X).1 55)), (60, o14.1), (80, x88)] [] [(8, a16), (9, a17), (10, a18), (11, a19), (12, a20), (13, a21), (14, a89), (15, a90), (16, ((x_S X).2.2.1 16)), (27, ((x_S X).2.2.1 27)), (28, ((x_S X).2.2.1 28)), (29, ((x_S X).2.2.1 29)), (32, ((x_S X).2.2.1 32)), (33, ((x_S X).2.2.1 33)), (34, ((x_S X).2.2.1 34))] [] [] 0 0 := by
          intro nn
          induction nn with
          | zero =>
            intro x87 x88 a89 a90 g hf
            exact none_no hf
          | succ nn ih =>
            intro x87 x88 a89 a90 g hf
            have hf : f_X12_restore_L205 (x_S X) o4 o5 o6 o7 o8 o9 o10 o11 o12 o13 o14 a16 a17 a18 a19 a20 a21 k237_26 (it4 (f_X12_restore_L205 (x_S X) o4 o5 o6 o7 o8 o9 o10 o11 o12 o13 o14 a16 a17 a18 a19 a20 a21 k237_26) nn) x87 x88 a89 a90 = some o := hf
            generalize it4 (f_X12_restore_L205 (x_S X) o4 o5 o6 o7 o8 o9 o10 o11 o12 o13 o14 a16 a17 a18 a19 a20 a21 k237_26) nn = r91 at ih hf
            unfold f_X12_restore_L205 at hf
            refine go_iload_n (pc' := 206) hC dX12_restore_205 rfl rfl ?_
            refine go_bipush (pc' := 208) hC dX12_restore_206 kb_10 rfl ?_
            refine go_icmp_ge (tgt := 237) (pc' := 211) hC dX12_restore_208 (by decide) rfl (fun h98 => ?_) (fun h98 => ?_)
            · have hf := ite_t h98 hf
              refine go_sub [0] rfl ?_
              exact jk237_26 x88 a89 a90 g hf
            · have hf := ite_f h98 hf
              refine go_aload_n (pc' := 212) hC dX12_restore_211 rfl rfl ?_
              refine go_getq (pc' := 215) hC 0 28 layM_0 rfl rfl inlX12 (Nat.le_of_ble_eq_true rfl) mw_194 rfl dX12_restore_212 rfl ?_
              refine go_iload_n (pc' := 216) hC dX12_restore_215 rfl rfl ?_
              refine go_aload_n (pc' := 217) hC dX12_restore_216 rfl rfl ?_
              obtain ⟨o92, ho92, hf⟩ := bd_e hf
              refine go_callV (pc' := 220) (As := []) (st := [.int x87, .ref (x_q X 14)]) (st' := [.int o92.1, .int x87, .ref (x_q X 14)]) (L1' := [(20, o4.1), (21, o5.1), (30, o6.1), (31, o7.1), (32, o8.1), (34, o9.1), (35, o10.1), (36, o11.1), (37, o12.1), (44, ((x_S X).1 44)), (51, o13.1), (55, ((x_S X).1 55)), (60, o14.1), (80, o92.2)]) (L2' := []) (L3' := [(8, a16), (9, a17), (10, a18), (11, a19), (12, a20), (13, a21), (14, a89), (15, a90), (16, ((x_S X).2.2.1 16)), (27, ((x_S X).2.2.1 27)), (28, ((x_S X).2.2.1 28)), (29, ((x_S X).2.2.1 29)), (32, ((x_S X).2.2.1 32)), (33, ((x_S X).2.2.1 33)), (34, ((x_S X).2.2.1 34))]) (L4' := []) (L5' := []) (cells' := 0) (slots' := 0) (b := 0) hC dX12_restore_217 ⟨mw_1535, mw_1538, mw_5, yd_yX12_gets, yp_yX12_gets, Nat.le_of_ble_eq_true rfl, Nat.le_of_ble_eq_true rfl, Nat.le_of_ble_eq_true rfl, Nat.le_of_ble_eq_true rfl⟩ mw_1536 mw_1537 layM_0 rfl rfl rfl (Nat.le_of_ble_eq_true rfl) (c_X12_gets (x_l X) (x_D X) (x_q X) g (x_cy X) (x_z X) _  o92 ho92) rfl rfl rfl rfl rfl rfl rfl rfl rfl rfl rfl rfl rfl rfl (fun g => ?_)
              obtain ⟨h93, hf⟩ := gd_e hf
              refine go_iast (f := a89) (pc' := 221) hC 14 layM_14 rfl rfl dX12_restore_220 (okx_in h93) rfl rfl (fun a94 ha L3' hL => ?_)
              have hf := lz_r ha hf
              clear ha
              obtain rfl : L3' = [(8, a16), (9, a17), (10, a18), (11, a19), (12, a20), (13, a21), (14, a94), (15, a90), (16, ((x_S X).2.2.1 16)), (27, ((x_S X).2.2.1 27)), (28, ((x_S X).2.2.1 28)), (29, ((x_S X).2.2.1 29)), (32, ((x_S X).2.2.1 32)), (33, ((x_S X).2.2.1 33)), (34, ((x_S X).2.2.1 34))] := hL.symm
              refine go_aload_n (pc' := 222) hC dX12_restore_221 rfl rfl ?_
              refine go_getq (pc' := 225) hC 0 29 layM_0 rfl rfl inlX12 (Nat.le_of_ble_eq_true rfl) mw_195 rfl dX12_restore_222 rfl ?_
              refine go_iload_n (pc' := 226) hC dX12_restore_225 rfl rfl ?_
              refine go_aload_n (pc' := 227) hC dX12_restore_226 rfl rfl ?_
              obtain ⟨o95, ho95, hf⟩ := bd_e hf
              refine go_callV (pc' := 230) (As := []) (st := [.int x87, .ref (x_q X 15)]) (st' := [.int o95.1, .int x87, .ref (x_q X 15)]) (L1' := [(20, o4.1), (21, o5.1), (30, o6.1), (31, o7.1), (32, o8.1), (34, o9.1), (35, o10.1), (36, o11.1), (37, o12.1), (44, ((x_S X).1 44)), (51, o13.1), (55, ((x_S X).1 55)), (60, o14.1), (80, o95.2)]) (L2' := []) (L3' := [(8, a16), (9, a17), (10, a18), (11, a19), (12, a20), (13, a21), (14, a94), (15, a90), (16, ((x_S X).2.2.1 16)), (27, ((x_S X).2.2.1 27)), (28, ((x_S X).2.2.1 28)), (29, ((x_S X).2.2.1 29)), (32, ((x_S X).2.2.1 32)), (33, ((x_S X).2.2.1 33)), (34, ((x_S X).2.2.1 34))]) (L4' := []) (L5' := []) (cells' := 0) (slots' := 0) (b := 0) hC dX12_restore_227 ⟨mw_1535, mw_1538, mw_5, yd_yX12_gets, yp_yX12_gets, Nat.le_of_ble_eq_true rfl, Nat.le_of_ble_eq_true rfl, Nat.le_of_ble_eq_true rfl, Nat.le_of_ble_eq_true rfl⟩ mw_1536 mw_1537 layM_0 rfl rfl rfl (Nat.le_of_ble_eq_true rfl) (c_X12_gets (x_l X) (x_D X) (x_q X) g (x_cy X) (x_z X) _  o95 ho95) rfl rfl rfl rfl rfl rfl rfl rfl rfl rfl rfl rfl rfl rfl (fun g => ?_)
              obtain ⟨h96, hf⟩ := gd_e hf
              refine go_iast (f := a90) (pc' := 231) hC 15 layM_15 rfl rfl dX12_restore_230 (okx_in h96) rfl rfl (fun a97 ha L3' hL => ?_)
              have hf := lz_r ha hf
              clear ha
              obtain rfl : L3' = [(8, a16), (9, a17), (10, a18), (11, a19), (12, a20), (13, a21), (14, a94), (15, a97), (16, ((x_S X).2.2.1 16)), (27, ((x_S X).2.2.1 27)), (28, ((x_S X).2.2.1 28)), (29, ((x_S X).2.2.1 29)), (32, ((x_S X).2.2.1 32)), (33, ((x_S X).2.2.1 33)), (34, ((x_S X).2.2.1 34))] := hL.symm
              refine go_iinc (lc' := [(0, .ref (x_q X 0)), (2, .int (x87 + (1 : Int32)))]) (pc' := 234) hC dX12_restore_231 rfl ki_1 (Nat.le_of_ble_eq_true rfl) rfl rfl ?_
              refine go_goto (tgt := 205) hC dX12_restore_234 (by decide) ?_
              exact ih (x87 + (1 : Int32)) o95.2 a94 a97 g hf
        exact l205_99 fuel (0 : Int32) x15 ((x_S X).2.2.1 14) ((x_S X).2.2.1 15) g hf
      clear hk203_22
      have l122_132 : ∀ (nn : Nat) (x100 : Int32) (x101 : Int32) (a102 : Nat → Int32) (a103 : Nat → Int32) (a104 : Nat → Int32) (a105 : Nat → Int32) (a106 : Nat → Int32) (a107 : Nat → Int32) (g : Nat → Nat), it8 (f_X12_restore_L122 (x_S X) o4 o5 o6 o7 o8 o9 o10 o11 o12 o13 o14 k203_22) nn x100 x101 a102 a103 a104 a105 a106 a107 = some o → Go X layM 122 [(0, .ref (x_q X 0)), (2, .int x100)] [] g [(20, o4.1), (21, o5.1), (30, o6.1), (31, o7.1), (32, o8.1), (34, o9.1), (35, o10.1), (36, o11.1), (37, o12.1), (44, ((x_S X).1 44)), (51, o13.1), (55, ((x_S X).1 55)), (60, o14.1), (80, x101)] [] [(8, a102), (9, a103), (10, a104), (11, a105), (12, a106), (13, a107), (14, ((x_S X).2.2.1 14)), (15, ((x_S X).2.2.1 15)), (16, ((x_S X).2.2.1 16)), (27, ((x_S X).2.2.1 27)), (28, ((x_S X).2.2.1 28)), (29, ((x_S X).2.2.1 29)), (32, ((x_S X).2.2.1 32)), (33, ((x_S X).2.2.1 33)), (34, ((x_S X).2.2.1 34))] [] [] 0 0 := by
        intro nn
        induction nn with
        | zero =>
          intro x100 x101 a102 a103 a104 a105 a106 a107 g hf
          exact none_no hf
        | succ nn ih =>
          intro x100 x101 a102 a103 a104 a105 a106 a107 g hf
          have hf : f_X12_restore_L122 (x_S X) o4 o5 o6 o7 o8 o9 o10 o11 o12 o13 o14 k203_22 (it8 (f_X12_restore_L122 (x_S X) o4 o5 o6 o7 o8 o9 o10 o11 o12 o13 o14 k203_22) nn) x100 x101 a102 a103 a104 a105 a106 a107 = some o := hf
          generalize it8 (f_X12_restore_L122 (x_S X) o4 o5 o6 o7 o8 o9 o10 o11 o12 o13 o14 k203_22) nn = r108 at ih hf
          unfold f_X12_restore_L122 at hf
          refine go_iload_n (pc' := 123) hC dX12_restore_122 rfl rfl ?_
          refine go_bipush (pc' := 125) hC dX12_restore_123 kb_12 rfl ?_
          refine go_icmp_ge (tgt := 203) (pc' := 128) hC dX12_restore_125 (by decide) rfl (fun h131 => ?_) (fun h131 => ?_)
          · have hf := ite_t h131 hf
            refine go_sub [0] rfl ?_
            exact jk203_22 x101 a102 a103 a104 a105 a106 a107 g hf
          · have hf := ite_f h131 hf
            refine go_aload_n (pc' := 129) hC dX12_restore_128 rfl rfl ?_
            refine go_getq (pc' := 132) hC 0 22 layM_0 rfl rfl inlX12 (Nat.le_of_ble_eq_true rfl) mw_187 rfl dX12_restore_129 rfl ?_
            refine go_iload_n (pc' := 133) hC dX12_restore_132 rfl rfl ?_
            refine go_aload_n (pc' := 134) hC dX12_restore_133 rfl rfl ?_
            obtain ⟨o109, ho109, hf⟩ := bd_e hf
            refine go_callV (pc' := 137) (As := []) (st := [.int x100, .ref (x_q X 8)]) (st' := [.int o109.1, .int x100, .ref (x_q X 8)]) (L1' := [(20, o4.1), (21, o5.1), (30, o6.1), (31, o7.1), (32, o8.1), (34, o9.1), (35, o10.1), (36, o11.1), (37, o12.1), (44, ((x_S X).1 44)), (51, o13.1), (55, ((x_S X).1 55)), (60, o14.1), (80, o109.2)]) (L2' := []) (L3' := [(8, a102), (9, a103), (10, a104), (11, a105), (12, a106), (13, a107), (14, ((x_S X).2.2.1 14)), (15, ((x_S X).2.2.1 15)), (16, ((x_S X).2.2.1 16)), (27, ((x_S X).2.2.1 27)), (28, ((x_S X).2.2.1 28)), (29, ((x_S X).2.2.1 29)), (32, ((x_S X).2.2.1 32)), (33, ((x_S X).2.2.1 33)), (34, ((x_S X).2.2.1 34))]) (L4' := []) (L5' := []) (cells' := 0) (slots' := 0) (b := 0) hC dX12_restore_134 ⟨mw_1535, mw_1538, mw_5, yd_yX12_gets, yp_yX12_gets, Nat.le_of_ble_eq_true rfl, Nat.le_of_ble_eq_true rfl, Nat.le_of_ble_eq_true rfl, Nat.le_of_ble_eq_true rfl⟩ mw_1536 mw_1537 layM_0 rfl rfl rfl (Nat.le_of_ble_eq_true rfl) (c_X12_gets (x_l X) (x_D X) (x_q X) g (x_cy X) (x_z X) _  o109 ho109) rfl rfl rfl rfl rfl rfl rfl rfl rfl rfl rfl rfl rfl rfl (fun g => ?_)
            obtain ⟨h110, hf⟩ := gd_e hf
            refine go_iast (f := a102) (pc' := 138) hC 8 layM_8 rfl rfl dX12_restore_137 (okx_in h110) rfl rfl (fun a111 ha L3' hL => ?_)
            have hf := lz_r ha hf
            clear ha
            obtain rfl : L3' = [(8, a111), (9, a103), (10, a104), (11, a105), (12, a106), (13, a107), (14, ((x_S X).2.2.1 14)), (15, ((x_S X).2.2.1 15)), (16, ((x_S X).2.2.1 16)), (27, ((x_S X).2.2.1 27)), (28, ((x_S X).2.2.1 28)), (29, ((x_S X).2.2.1 29)), (32, ((x_S X).2.2.1 32)), (33, ((x_S X).2.2.1 33)), (34, ((x_S X).2.2.1 34))] := hL.symm
            refine go_aload_n (pc' := 139) hC dX12_restore_138 rfl rfl ?_
            refine go_getq (pc' := 142) hC 0 23 layM_0 rfl rfl inlX12 (Nat.le_of_ble_eq_true rfl) mw_188 rfl dX12_restore_139 rfl ?_
            refine go_iload_n (pc' := 143) hC dX12_restore_142 rfl rfl ?_
            refine go_aload_n (pc' := 144) hC dX12_restore_143 rfl rfl ?_
            obtain ⟨o112, ho112, hf⟩ := bd_e hf
            refine go_callV (pc' := 147) (As := []) (st := [.int x100, .ref (x_q X 9)]) (st' := [.int o112.1, .int x100, .ref (x_q X 9)]) (L1' := [(20, o4.1), (21, o5.1), (30, o6.1), (31, o7.1), (32, o8.1), (34, o9.1), (35, o10.1), (36, o11.1), (37, o12.1), (44, ((x_S X).1 44)), (51, o13.1), (55, ((x_S X).1 55)), (60, o14.1), (80, o112.2)]) (L2' := []) (L3' := [(8, a111), (9, a103), (10, a104), (11, a105), (12, a106), (13, a107), (14, ((x_S X).2.2.1 14)), (15, ((x_S X).2.2.1 15)), (16, ((x_S X).2.2.1 16)), (27, ((x_S X).2.2.1 27)), (28, ((x_S X).2.2.1 28)), (29, ((x_S X).2.2.1 29)), (32, ((x_S X).2.2.1 32)), (33, ((x_S X).2.2.1 33)), (34, ((x_S X).2.2.1 34))]) (L4' := []) (L5' := []) (cells' := 0) (slots' := 0) (b := 0) hC dX12_restore_144 ⟨mw_1535, mw_1538, mw_5, yd_yX12_gets, yp_yX12_gets, Nat.le_of_ble_eq_true rfl, Nat.le_of_ble_eq_true rfl, Nat.le_of_ble_eq_true rfl, Nat.le_of_ble_eq_true rfl⟩ mw_1536 mw_1537 layM_0 rfl rfl rfl (Nat.le_of_ble_eq_true rfl) (c_X12_gets (x_l X) (x_D X) (x_q X) g (x_cy X) (x_z X) _  o112 ho112) rfl rfl rfl rfl rfl rfl rfl rfl rfl rfl rfl rfl rfl rfl (fun g => ?_)
            obtain ⟨h113, hf⟩ := gd_e hf
            refine go_iast (f := a103) (pc' := 148) hC 9 layM_9 rfl rfl dX12_restore_147 (okx_in h113) rfl rfl (fun a114 ha L3' hL => ?_)
            have hf := lz_r ha hf
            clear ha
            obtain rfl : L3' = [(8, a111), (9, a114), (10, a104), (11, a105), (12, a106), (13, a107), (14, ((x_S X).2.2.1 14)), (15, ((x_S X).2.2.1 15)), (16, ((x_S X).2.2.1 16)), (27, ((x_S X).2.2.1 27)), (28, ((x_S X).2.2.1 28)), (29, ((x_S X).2.2.1 29)), (32, ((x_S X).2.2.1 32)), (33, ((x_S X).2.2.1 33)), (34, ((x_S X).2.2.1 34))] := hL.symm
            refine go_aload_n (pc' := 149) hC dX12_restore_148 rfl rfl ?_
            refine go_getq (pc' := 152) hC 0 24 layM_0 rfl rfl inlX12 (Nat.le_of_ble_eq_true rfl) mw_189 rfl dX12_restore_149 rfl ?_
            refine go_iload_n (pc' := 153) hC dX12_restore_152 rfl rfl ?_
            refine go_aload_n (pc' := 154) hC dX12_restore_153 rfl rfl ?_
            obtain ⟨o115, ho115, hf⟩ := bd_e hf
            refine go_callV (pc' := 157) (As := []) (st := [.int x100, .ref (x_q X 10)]) (st' := [.int o115.1, .int x100, .ref (x_q X 10)]) (L1' := [(20, o4.1), (21, o5.1), (30, o6.1), (31, o7.1), (32, o8.1), (34, o9.1), (35, o10.1), (36, o11.1), (37, o12.1), (44, ((x_S X).1 44)), (51, o13.1), (55, ((x_S X).1 55)), (60, o14.1), (80, o115.2)]) (L2' := []) (L3' := [(8, a111), (9, a114), (10, a104), (11, a105), (12, a106), (13, a107), (14, ((x_S X).2.2.1 14)), (15, ((x_S X).2.2.1 15)), (16, ((x_S X).2.2.1 16)), (27, ((x_S X).2.2.1 27)), (28, ((x_S X).2.2.1 28)), (29, ((x_S X).2.2.1 29)), (32, ((x_S X).2.2.1 32)), (33, ((x_S X).2.2.1 33)), (34, ((x_S X).2.2.1 34))]) (L4' := []) (L5' := []) (cells' := 0) (slots' := 0) (b := 0) hC dX12_restore_154 ⟨mw_1535, mw_1538, mw_5, yd_yX12_gets, yp_yX12_gets, Nat.le_of_ble_eq_true rfl, Nat.le_of_ble_eq_true rfl, Nat.le_of_ble_eq_true rfl, Nat.le_of_ble_eq_true rfl⟩ mw_1536 mw_1537 layM_0 rfl rfl rfl (Nat.le_of_ble_eq_true rfl) (c_X12_gets (x_l X) (x_D X) (x_q X) g (x_cy X) (x_z X) _  o115 ho115) rfl rfl rfl rfl rfl rfl rfl rfl rfl rfl rfl rfl rfl rfl (fun g => ?_)
            obtain ⟨h116, hf⟩ := gd_e hf
            refine go_iast (f := a104) (pc' := 158) hC 10 layM_10 rfl rfl dX12_restore_157 (okx_in h116) rfl rfl (fun a117 ha L3' hL => ?_)
            have hf := lz_r ha hf
            clear ha
            obtain rfl : L3' = [(8, a111), (9, a114), (10, a117), (11, a105), (12, a106), (13, a107), (14, ((x_S X).2.2.1 14)), (15, ((x_S X).2.2.1 15)), (16, ((x_S X).2.2.1 16)), (27, ((x_S X).2.2.1 27)), (28, ((x_S X).2.2.1 28)), (29, ((x_S X).2.2.1 29)), (32, ((x_S X).2.2.1 32)), (33, ((x_S X).2.2.1 33)), (34, ((x_S X).2.2.1 34))] := hL.symm
            refine go_aload_n (pc' := 159) hC dX12_restore_158 rfl rfl ?_
            refine go_getq (pc' := 162) hC 0 25 layM_0 rfl rfl inlX12 (Nat.le_of_ble_eq_true rfl) mw_191 rfl dX12_restore_159 rfl ?_
            refine go_iload_n (pc' := 163) hC dX12_restore_162 rfl rfl ?_
            refine go_aload_n (pc' := 164) hC dX12_restore_163 rfl rfl ?_
            obtain ⟨o118, ho118, hf⟩ := bd_e hf
            refine go_callV (pc' := 167) (As := []) (st := [.int x100, .ref (x_q X 11)]) (st' := [.int o118.1, .int x100, .ref (x_q X 11)]) (L1' := [(20, o4.1), (21, o5.1), (30, o6.1), (31, o7.1), (32, o8.1), (34, o9.1), (35, o10.1), (36, o11.1), (37, o12.1), (44, ((x_S X).1 44)), (51, o13.1), (55, ((x_S X).1 55)), (60, o14.1), (80, o118.2)]) (L2' := []) (L3' := [(8, a111), (9, a114), (10, a117), (11, a105), (12, a106), (13, a107), (14, ((x_S X).2.2.1 14)), (15, ((x_S X).2.2.1 15)), (16, ((x_S X).2.2.1 16)), (27, ((x_S X).2.2.1 27)), (28, ((x_S X).2.2.1 28)), (29, ((x_S X).2.2.1 29)), (32, ((x_S X).2.2.1 32)), (33, ((x_S X).2.2.1 33)), (34, ((x_S X).2.2.1 34))]) (L4' := []) (L5' := []) (cells' := 0) (slots' := 0) (b := 0) hC dX12_restore_164 ⟨mw_1535, mw_1538, mw_5, yd_yX12_gets, yp_yX12_gets, Nat.le_of_ble_eq_true rfl, Nat.le_of_ble_eq_true rfl, Nat.le_of_ble_eq_true rfl, Nat.le_of_ble_eq_true rfl⟩ mw_1536 mw_1537 layM_0 rfl rfl rfl (Nat.le_of_ble_eq_true rfl) (c_X12_gets (x_l X) (x_D X) (x_q X) g (x_cy X) (x_z X) _  o118 ho118) rfl rfl rfl rfl rfl rfl rfl rfl rfl rfl rfl rfl rfl rfl (fun g => ?_)
            refine go_iconst (pc' := 168) hC dX12_restore_167 ki_1 rfl ?_
            obtain ⟨k176_121, hk176_121, hf⟩ := lk_e2 hf
            have jk176_121 : ∀ (x119 : Int32) (x120 : Int32) (g : Nat → Nat), k176_121 x119 x120 = some o → Go X layM 176 [(0, .ref (x_q X 0)), (2, .int x100)] [.int x119, .int x120, .ref (x_q X 11)] g [(20, o4.1), (21, o5.1), (30, o6.1), (31, o7.1), (32, o8.1), (34, o9.1), (35, o10.1), (36, o11.1), (37, o12.1), (44, ((x_S X).1 44)), (51, o13.1), (55, ((x_S X).1 55)), (60, o14.1), (80, o118.2)] [] [(8, a111), (9, a114), (10, a117), (11, a105), (12, a106), (13, a107), (14, ((x_S X).2.2.1 14)), (15, ((x_S X).2.2.1 15)), (16, ((x_S X).2.2.1 16)), (27, ((x_S X).2.2.1 27)), (28, ((x_S X).2.2.1 28)), (29, ((x_S X).2.2.1 29)), (32, ((x_S X).2.2.1 32)), (33, ((x_S X).2.2.1 33)), (34, ((x_S X).2.2.1 34))] [] [] 0 0 := by
              intro x119 x120 g hf
              have hf := hk176_121 x119 x120 hf
              clear hk176_121
              obtain ⟨h122, hf⟩ := gd_e hf
              refine go_zast (f := a105) (pc' := 177) hC 11 layM_11 rfl rfl dX12_restore_176 (okx_in h122) rfl rfl (fun a123 ha L3' hL => ?_)
              have hf := lz_r ha hf
              clear ha
              obtain rfl : L3' = [(8, a111), (9, a114), (10, a117), (11, a123), (12, a106), (13, a107), (14, ((x_S X).2.2.1 14)), (15, ((x_S X).2.2.1 15)), (16, ((x_S X).2.2.1 16)), (27, ((x_S X).2.2.1 27)), (28, ((x_S X).2.2.1 28)), (29, ((x_S X).2.2.1 29)), (32, ((x_S X).2.2.1 32)), (33, ((x_S X).2.2.1 33)), (34, ((x_S X).2.2.1 34))] := hL.symm
              refine go_aload_n (pc' := 178) hC dX12_restore_177 rfl rfl ?_
              refine go_getq (pc' := 181) hC 0 26 layM_0 rfl rfl inlX12 (Nat.le_of_ble_eq_true rfl) mw_192 rfl dX12_restore_178 rfl ?_
              refine go_iload_n (pc' := 182) hC dX12_restore_181 rfl rfl ?_
              refine go_aload_n (pc' := 183) hC dX12_restore_182 rfl rfl ?_
              obtain ⟨o124, ho124, hf⟩ := bd_e hf
              refine go_callV (pc' := 186) (As := []) (st := [.int x100, .ref (x_q X 12)]) (st' := [.int o124.1, .int x100, .ref (x_q X 12)]) (L1' := [(20, o4.1), (21, o5.1), (30, o6.1), (31, o7.1), (32, o8.1), (34, o9.1), (35, o10.1), (36, o11.1), (37, o12.1), (44, ((x_S X).1 44)), (51, o13.1), (55, ((x_S X).1 55)), (60, o14.1), (80, o124.2)]) (L2' := []) (L3' := [(8, a111), (9, a114), (10, a117), (11, a123), (12, a106), (13, a107), (14, ((x_S X).2.2.1 14)), (15, ((x_S X).2.2.1 15)), (16, ((x_S X).2.2.1 16)), (27, ((x_S X).2.2.1 27)), (28, ((x_S X).2.2.1 28)), (29, ((x_S X).2.2.1 29)), (32, ((x_S X).2.2.1 32)), (33, ((x_S X).2.2.1 33)), (34, ((x_S X).2.2.1 34))]) (L4' := []) (L5' := []) (cells' := 0) (slots' := 0) (b := 0) hC dX12_restore_183 ⟨mw_1535, mw_1538, mw_5, yd_yX12_gets, yp_yX12_gets, Nat.le_of_ble_eq_true rfl, Nat.le_of_ble_eq_true rfl, Nat.le_of_ble_eq_true rfl, Nat.le_of_ble_eq_true rfl⟩ mw_1536 mw_1537 layM_0 rfl rfl rfl (Nat.le_of_ble_eq_true rfl) (c_X12_gets (x_l X) (x_D X) (x_q X) g (x_cy X) (x_z X) _  o124 ho124) rfl rfl rfl rfl rfl rfl rfl rfl rfl rfl rfl rfl rfl rfl (fun g => ?_)
              obtain ⟨h125, hf⟩ := gd_e hf
              refine go_iast (f := a106) (pc' := 187) hC 12 layM_12 rfl rfl dX12_restore_186 (okx_in h125) rfl rfl (fun a126 ha L3' hL => ?_)
              have hf := lz_r ha hf
              clear ha
              obtain rfl : L3' = [(8, a111), (9, a114), (10, a117), (11, a123), (12, a126), (13, a107), (14, ((x_S X).2.2.1 14)), (15, ((x_S X).2.2.1 15)), (16, ((x_S X).2.2.1 16)), (27, ((x_S X).2.2.1 27)), (28, ((x_S X).2.2.1 28)), (29, ((x_S X).2.2.1 29)), (32, ((x_S X).2.2.1 32)), (33, ((x_S X).2.2.1 33)), (34, ((x_S X).2.2.1 34))] := hL.symm
              refine go_aload_n (pc' := 188) hC dX12_restore_187 rfl rfl ?_
              refine go_getq (pc' := 191) hC 0 27 layM_0 rfl rfl inlX12 (Nat.le_of_ble_eq_true rfl) mw_193 rfl dX12_restore_188 rfl ?_
              refine go_iload_n (pc' := 192) hC dX12_restore_191 rfl rfl ?_
              refine go_aload_n (pc' := 193) hC dX12_restore_192 rfl rfl ?_
              obtain ⟨o127, ho127, hf⟩ := bd_e hf
              refine go_callV (pc' := 196) (As := []) (st := [.int x100, .ref (x_q X 13)]) (st' := [.int o127.1, .int x100, .ref (x_q X 13)]) (L1' := [(20, o4.1), (21, o5.1), (30, o6.1), (31, o7.1), (32, o8.1), (34, o9.1), (35, o10.1), (36, o11.1), (37, o12.1), (44, ((x_S X).1 44)), (51, o13.1), (55, ((x_S X).1 55)), (60, o14.1), (80, o127.2)]) (L2' := []) (L3' := [(8, a111), (9, a114), (10, a117), (11, a123), (12, a126), (13, a107), (14, ((x_S X).2.2.1 14)), (15, ((x_S X).2.2.1 15)), (16, ((x_S X).2.2.1 16)), (27, ((x_S X).2.2.1 27)), (28, ((x_S X).2.2.1 28)), (29, ((x_S X).2.2.1 29)), (32, ((x_S X).2.2.1 32)), (33, ((x_S X).2.2.1 33)), (34, ((x_S X).2.2.1 34))]) (L4' := []) (L5' := []) (cells' := 0) (slots' := 0) (b := 0) hC dX12_restore_193 ⟨mw_1535, mw_1538, mw_5, yd_yX12_gets, yp_yX12_gets, Nat.le_of_ble_eq_true rfl, Nat.le_of_ble_eq_true rfl, Nat.le_of_ble_eq_true rfl, Nat.le_of_ble_eq_true rfl⟩ mw_1536 mw_1537 layM_0 rfl rfl rfl (Nat.le_of_ble_eq_true rfl) (c_X12_gets (x_l X) (x_D X) (x_q X) g (x_cy X) (x_z X) _  o127 ho127) rfl rfl rfl rfl rfl rfl rfl rfl rfl rfl rfl rfl rfl rfl (fun g => ?_)
              obtain ⟨h128, hf⟩ := gd_e hf
              refine go_iast (f := a107) (pc' := 197) hC 13 layM_13 rfl rfl dX12_restore_196 (okx_in h128) rfl rfl (fun a129 ha L3' hL => ?_)
              have hf := lz_r ha hf
              clear ha
              obtain rfl : L3' = [(8, a111), (9, a114), (10, a117), (11, a123), (12, a126), (13, a129), (14, ((x_S X).2.2.1 14)), (15, ((x_S X).2.2.1 15)), (16, ((x_S X).2.2.1 16)), (27, ((x_S X).2.2.1 27)), (28, ((x_S X).2.2.1 28)), (29, ((x_S X).2.2.1 29)), (32, ((x_S X).2.2.1 32)), (33, ((x_S X).2.2.1 33)), (34, ((x_S X).2.2.1 34))] := hL.symm
              refine go_iinc (lc' := [(0, .ref (x_q X 0)), (2, .int (x100 + (1 : Int32)))]) (pc' := 200) hC dX12_restore_197 rfl ki_1 (Nat.le_of_ble_eq_true rfl) rfl rfl ?_
              refine go_goto (tgt := 122) hC dX12_restore_200 (by decide) ?_
              exact ih (x100 + (1 : Int32)) o127.2 a111 a114 a117 a123 a126 a129 g hf
            clear hk176_121
            refine go_icmp_ne (tgt := 175) (pc' := 171) hC dX12_restore_168 (by decide) rfl (fun h130 => ?_) (fun h130 => ?_)
            · have hf := ite_f h130 hf
              refine go_iconst (pc' := 176) hC dX12_restore_175 ki_0 rfl ?_
              exact jk176_121 (0 : Int32) x100 g hf
            · have hf := ite_t h130 hf
              refine go_iconst (pc' := 172) hC dX12_restore_171 ki_1 rfl ?_
              refine go_goto (tgt := 176) hC dX12_restore_172 (by decide) ?_
              exact jk176_121 (1 : Int32) x100 g hf
      refine go_sub [0, 2] rfl ?_
      exact l122_132 fuel (0 : Int32) o14.2 ((x_S X).2.2.1 8) ((x_S X).2.2.1 9) ((x_S X).2.2.1 10) ((x_S X).2.2.1 11) ((x_S X).2.2.1 12) ((x_S X).2.2.1 13) g hf
    · have hf := ite_t h133 hf
      refine go_iconst (pc' := 22) hC dX12_restore_21 ki_m1 rfl ?_
      obtain rfl := Option.some.inj hf
      exact go_iret hC hQ dX12_restore_22 rfl rfl rfl rfl rfl rfl
theorem dX12_count_0 : decode cX12_count 0 = .ok (.iload_n 1, 1) := by decide +kernel
theorem dX12_count_1 : decode cX12_count 1 = .ok (.tableswitch 87 0 7 #[47, 52, 57, 62, 67, 72, 77, 82], 47) := by decide +kernel
theorem dX12_count_48 : decode cX12_count 48 = .ok (.aload_n 0, 1) := by decide +kernel
theorem dX12_count_49 : decode cX12_count 49 = .ok (.getfield 276, 3) := by decide +kernel
theorem dX12_count_52 : decode cX12_count 52 = .ok (.ireturn, 1) := by decide +kernel
theorem dX12_count_53 : decode cX12_count 53 = .ok (.aload_n 0, 1) := by decide +kernel
theorem dX12_count_54 : decode cX12_count 54 = .ok (.getfield 279, 3) := by decide +kernel
theorem dX12_count_57 : decode cX12_count 57 = .ok (.ireturn, 1) := by decide +kernel
theorem dX12_count_58 : decode cX12_count 58 = .ok (.aload_n 0, 1) := by decide +kernel
theorem dX12_count_59 : decode cX12_count 59 = .ok (.getfield 282, 3) := by decide +kernel
theorem dX12_count_62 : decode cX12_count 62 = .ok (.ireturn, 1) := by decide +kernel
theorem dX12_count_63 : decode cX12_count 63 = .ok (.aload_n 0, 1) := by decide +kernel
theorem dX12_count_64 : decode cX12_count 64 = .ok (.getfield 285, 3) := by decide +kernel
theorem dX12_count_67 : decode cX12_count 67 = .ok (.ireturn, 1) := by decide +kernel
theorem dX12_count_68 : decode cX12_count 68 = .ok (.aload_n 0, 1) := by decide +kernel
theorem dX12_count_69 : decode cX12_count 69 = .ok (.getfield 303, 3) := by decide +kernel
theorem dX12_count_72 : decode cX12_count 72 = .ok (.ireturn, 1) := by decide +kernel
theorem dX12_count_73 : decode cX12_count 73 = .ok (.aload_n 0, 1) := by decide +kernel
theorem dX12_count_74 : decode cX12_count 74 = .ok (.getfield 306, 3) := by decide +kernel
theorem dX12_count_77 : decode cX12_count 77 = .ok (.ireturn, 1) := by decide +kernel
theorem dX12_count_78 : decode cX12_count 78 = .ok (.aload_n 0, 1) := by decide +kernel
theorem dX12_count_79 : decode cX12_count 79 = .ok (.getfield 291, 3) := by decide +kernel
theorem dX12_count_82 : decode cX12_count 82 = .ok (.ireturn, 1) := by decide +kernel
theorem dX12_count_83 : decode cX12_count 83 = .ok (.aload_n 0, 1) := by decide +kernel
theorem dX12_count_84 : decode cX12_count 84 = .ok (.getfield 161, 3) := by decide +kernel
theorem dX12_count_87 : decode cX12_count 87 = .ok (.ireturn, 1) := by decide +kernel
theorem dX12_count_88 : decode cX12_count 88 = .ok (.iconst (-1), 1) := by decide +kernel
theorem dX12_count_89 : decode cX12_count 89 = .ok (.ireturn, 1) := by decide +kernel
abbrev o_X12_count : Type := Int32
def f_X12_count (S : wd_W) (p1 : Int32) : Option o_X12_count :=
if p1 = (0 : Int32) then (
some (S.1 20)) else (
if p1 = (1 : Int32) then (
some (S.1 21)) else (
if p1 = (2 : Int32) then (
some (S.1 30)) else (
if p1 = (3 : Int32) then (
some (S.1 31)) else (
if p1 = (4 : Int32) then (
some (S.1 51)) else (
if p1 = (5 : Int32) then (
some (S.1 60)) else (
if p1 = (6 : Int32) then (
some (S.1 34)) else (
if p1 = (7 : Int32) then (
some (S.1 1)) else (
some (-1 : Int32)))))))))
set_option maxRecDepth 100000 in
set_option maxHeartbeats 4000000 in
theorem c_X12_count (l : Launch) (D : va_G) (q g : Nat → Nat) (cy : Nat → ClassId) (z : (Nat → Nat) × (Nat → Nat) × Nat) (S : wd_W) (p1 : Int32) (o : o_X12_count) (hf : f_X12_count S p1 = some o) : MX layM l yX12_count cX12_count 2 (some .int) ({ frames := 0, cells := 0, slots := 0, locals := 0 } : Room) D q g cy z [.ref (q 0), .int p1] S (some (.int o)) (wd_o S [] [] [] [] []) 0 0 := by
  refine mx_of (own := RX12) (lc := [(0, .ref (q 0)), (1, .int p1)]) (by decide +kernel) rfl layM_ok (Nat.le_of_ble_eq_true rfl) rfl ?_
  intro X hXl hXq hXS hC hQ
  subst hXl; subst hXq; subst hXS
  unfold f_X12_count at hf
  refine go_iload_n (pc' := 1) hC dX12_count_0 rfl rfl ?_
  by_cases h1 : p1 = (0 : Int32)
  · have hf := ite_t h1 hf
    refine go_tabIn' (v := (0 : Int32)) (tgt := 48) hC dX12_count_1 h1 kt_0 (by decide) (by decide) rfl (by decide) ?_
    refine go_aload_n (pc' := 49) hC dX12_count_48 rfl rfl ?_
    refine go_geti (v := ((x_S X).1 20)) (pc' := 52) hC 0 20 layM_0 rfl rfl inlX12 (Nat.le_of_ble_eq_true rfl) mw_246 rfl dX12_count_49 rfl rfl ?_
    obtain rfl := Option.some.inj hf
    exact go_iret hC hQ dX12_count_52 rfl rfl rfl rfl rfl rfl
  · have hf := ite_f h1 hf
    by_cases h2 : p1 = (1 : Int32)
    · have hf := ite_t h2 hf
      refine go_tabIn' (v := (1 : Int32)) (tgt := 53) hC dX12_count_1 h2 kt_1 (by decide) (by decide) rfl (by decide) ?_
      refine go_aload_n (pc' := 54) hC dX12_count_53 rfl rfl ?_
      refine go_geti (v := ((x_S X).1 21)) (pc' := 57) hC 0 21 layM_0 rfl rfl inlX12 (Nat.le_of_ble_eq_true rfl) mw_247 rfl dX12_count_54 rfl rfl ?_
      obtain rfl := Option.some.inj hf
      exact go_iret hC hQ dX12_count_57 rfl rfl rfl rfl rfl rfl
    · have hf := ite_f h2 hf
      by_cases h3 : p1 = (2 : Int32)
      · have hf := ite_t h3 hf
        refine go_tabIn' (v := (2 : Int32)) (tgt := 58) hC dX12_count_1 h3 kt_2 (by decide) (by decide) rfl (by decide) ?_
        refine go_aload_n (pc' := 59) hC dX12_count_58 rfl rfl ?_
        refine go_geti (v := ((x_S X).1 30)) (pc' := 62) hC 0 30 layM_0 rfl rfl inlX12 (Nat.le_of_ble_eq_true rfl) mw_248 rfl dX12_count_59 rfl rfl ?_
        obtain rfl := Option.some.inj hf
        exact go_iret hC hQ dX12_count_62 rfl rfl rfl rfl rfl rfl
      · have hf := ite_f h3 hf
        by_cases h4 : p1 = (3 : Int32)
        · have hf := ite_t h4 hf
          refine go_tabIn' (v := (3 : Int32)) (tgt := 63) hC dX12_count_1 h4 kt_3 (by decide) (by decide) rfl (by decide) ?_
          refine go_aload_n (pc' := 64) hC dX12_count_63 rfl rfl ?_
          refine go_geti (v := ((x_S X).1 31)) (pc' := 67) hC 0 31 layM_0 rfl rfl inlX12 (Nat.le_of_ble_eq_true rfl) mw_249 rfl dX12_count_64 rfl rfl ?_
          obtain rfl := Option.some.inj hf
          exact go_iret hC hQ dX12_count_67 rfl rfl rfl rfl rfl rfl
        · have hf := ite_f h4 hf
          by_cases h5 : p1 = (4 : Int32)
          · have hf := ite_t h5 hf
            refine go_tabIn' (v := (4 : Int32)) (tgt := 68) hC dX12_count_1 h5 kt_4 (by decide) (by decide) rfl (by decide) ?_
            refine go_aload_n (pc' := 69) hC dX12_count_68 rfl rfl ?_
            refine go_geti (v := ((x_S X).1 51)) (pc' := 72) hC 0 51 layM_0 rfl rfl inlX12 (Nat.le_of_ble_eq_true rfl) mw_255 rfl dX12_count_69 rfl rfl ?_
            obtain rfl := Option.some.inj hf
            exact go_iret hC hQ dX12_count_72 rfl rfl rfl rfl rfl rfl
          · have hf := ite_f h5 hf
            by_cases h6 : p1 = (5 : Int32)
            · have hf := ite_t h6 hf
              refine go_tabIn' (v := (5 : Int32)) (tgt := 73) hC dX12_count_1 h6 kt_5 (by decide) (by decide) rfl (by decide) ?_
              refine go_aload_n (pc' := 74) hC dX12_count_73 rfl rfl ?_
              refine go_geti (v := ((x_S X).1 60)) (pc' := 77) hC 0 60 layM_0 rfl rfl inlX12 (Nat.le_of_ble_eq_true rfl) mw_256 rfl dX12_count_74 rfl rfl ?_
              obtain rfl := Option.some.inj hf
              exact go_iret hC hQ dX12_count_77 rfl rfl rfl rfl rfl rfl
            · have hf := ite_f h6 hf
              by_cases h7 : p1 = (6 : Int32)
              · have hf := ite_t h7 hf
                refine go_tabIn' (v := (6 : Int32)) (tgt := 78) hC dX12_count_1 h7 kt_6 (by decide) (by decide) rfl (by decide) ?_
                refine go_aload_n (pc' := 79) hC dX12_count_78 rfl rfl ?_
                refine go_geti (v := ((x_S X).1 34)) (pc' := 82) hC 0 34 layM_0 rfl rfl inlX12 (Nat.le_of_ble_eq_true rfl) mw_251 rfl dX12_count_79 rfl rfl ?_
                obtain rfl := Option.some.inj hf
                exact go_iret hC hQ dX12_count_82 rfl rfl rfl rfl rfl rfl
              · have hf := ite_f h7 hf
                by_cases h8 : p1 = (7 : Int32)
                · have hf := ite_t h8 hf
                  refine go_tabIn' (v := (7 : Int32)) (tgt := 83) hC dX12_count_1 h8 kt_7 (by decide) (by decide) rfl (by decide) ?_
                  refine go_aload_n (pc' := 84) hC dX12_count_83 rfl rfl ?_
                  refine go_geti (v := ((x_S X).1 1)) (pc' := 87) hC 0 1 layM_0 rfl rfl inlX12 (Nat.le_of_ble_eq_true rfl) mw_281 rfl dX12_count_84 rfl rfl ?_
                  obtain rfl := Option.some.inj hf
                  exact go_iret hC hQ dX12_count_87 rfl rfl rfl rfl rfl rfl
                · have hf := ite_f h8 hf
                  refine go_tabOut (tgt := 88) hC dX12_count_1 ?_ (by decide) ?_
                  · have e0 := lv_neT h1 kt_0; have e1 := lv_neT h2 kt_1; have e2 := lv_neT h3 kt_2; have e3 := lv_neT h4 kt_3; have e4 := lv_neT h5 kt_4; have e5 := lv_neT h6 kt_5; have e6 := lv_neT h7 kt_6; have e7 := lv_neT h8 kt_7; omega
                  · refine go_iconst (pc' := 89) hC dX12_count_88 ki_m1 rfl ?_
                    obtain rfl := Option.some.inj hf
                    exact go_iret hC hQ dX12_count_89 rfl rfl rfl rfl rfl rfl
