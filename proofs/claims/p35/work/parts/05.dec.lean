theorem dL_cell_0 : decode cL_cell 0 = .ok (.iload_n 1, 1) := by decide +kernel
theorem dL_cell_1 : decode cL_cell 1 = .ok (.aload_n 0, 1) := by decide +kernel
theorem dL_cell_2 : decode cL_cell 2 = .ok (.arraylength, 1) := by decide +kernel
theorem dL_cell_3 : decode cL_cell 3 = .ok (.if_icmp .ge 9, 3) := by decide +kernel
theorem dL_cell_6 : decode cL_cell 6 = .ok (.aload_n 0, 1) := by decide +kernel
theorem dL_cell_7 : decode cL_cell 7 = .ok (.iload_n 1, 1) := by decide +kernel
theorem dL_cell_8 : decode cL_cell 8 = .ok (.iaload, 1) := by decide +kernel
theorem dL_cell_9 : decode cL_cell 9 = .ok (.goto 11, 3) := by decide +kernel
theorem dL_cell_12 : decode cL_cell 12 = .ok (.ldc 7, 2) := by decide +kernel
theorem dL_cell_14 : decode cL_cell 14 = .ok (.iload_n 1, 1) := by decide +kernel
theorem dL_cell_15 : decode cL_cell 15 = .ok (.imul, 1) := by decide +kernel
theorem dL_cell_16 : decode cL_cell 16 = .ok (.sipush 10069, 3) := by decide +kernel
theorem dL_cell_19 : decode cL_cell 19 = .ok (.iadd, 1) := by decide +kernel
theorem dL_cell_20 : decode cL_cell 20 = .ok (.ldc 8, 2) := by decide +kernel
theorem dL_cell_22 : decode cL_cell 22 = .ok (.iand, 1) := by decide +kernel
theorem dL_cell_23 : decode cL_cell 23 = .ok (.ireturn, 1) := by decide +kernel
theorem dL_vertices_0 : decode cL_vertices 0 = .ok (.iconst 0, 1) := by decide +kernel
theorem dL_vertices_1 : decode cL_vertices 1 = .ok (.istore_n 1, 1) := by decide +kernel
theorem dL_vertices_2 : decode cL_vertices 2 = .ok (.aload_n 0, 1) := by decide +kernel
theorem dL_vertices_3 : decode cL_vertices 3 = .ok (.iload_n 1, 1) := by decide +kernel
theorem dL_vertices_4 : decode cL_vertices 4 = .ok (.invokevirtual 9, 3) := by decide +kernel
theorem dL_vertices_7 : decode cL_vertices 7 = .ok (.ifCond .lt 9, 3) := by decide +kernel
theorem dL_vertices_10 : decode cL_vertices 10 = .ok (.iinc 1 1, 3) := by decide +kernel
theorem dL_vertices_13 : decode cL_vertices 13 = .ok (.goto (-11), 3) := by decide +kernel
theorem dL_vertices_16 : decode cL_vertices 16 = .ok (.iload_n 1, 1) := by decide +kernel
theorem dL_vertices_17 : decode cL_vertices 17 = .ok (.ireturn, 1) := by decide +kernel
theorem dL_errors_0 : decode cL_errors 0 = .ok (.aload_n 0, 1) := by decide +kernel
theorem dL_errors_1 : decode cL_errors 1 = .ok (.invokestatic 15, 3) := by decide +kernel
theorem dL_errors_4 : decode cL_errors 4 = .ok (.istore_n 1, 1) := by decide +kernel
theorem dL_errors_5 : decode cL_errors 5 = .ok (.aload_n 0, 1) := by decide +kernel
theorem dL_errors_6 : decode cL_errors 6 = .ok (.sipush 256, 3) := by decide +kernel
theorem dL_errors_9 : decode cL_errors 9 = .ok (.invokevirtual 21, 3) := by decide +kernel
theorem dL_errors_12 : decode cL_errors 12 = .ok (.bipush (-2), 2) := by decide +kernel
theorem dL_errors_14 : decode cL_errors 14 = .ok (.if_icmp .ne 362, 3) := by decide +kernel
theorem dL_errors_17 : decode cL_errors 17 = .ok (.aload_n 0, 1) := by decide +kernel
theorem dL_errors_18 : decode cL_errors 18 = .ok (.iconst (-1), 1) := by decide +kernel
theorem dL_errors_19 : decode cL_errors 19 = .ok (.invokevirtual 21, 3) := by decide +kernel
theorem dL_errors_22 : decode cL_errors 22 = .ok (.bipush (-2), 2) := by decide +kernel
theorem dL_errors_24 : decode cL_errors 24 = .ok (.if_icmp .ne 352, 3) := by decide +kernel
theorem dL_errors_27 : decode cL_errors 27 = .ok (.aload_n 0, 1) := by decide +kernel
theorem dL_errors_28 : decode cL_errors 28 = .ok (.iconst (-1), 1) := by decide +kernel
theorem dL_errors_29 : decode cL_errors 29 = .ok (.invokevirtual 9, 3) := by decide +kernel
theorem dL_errors_32 : decode cL_errors 32 = .ok (.iconst (-1), 1) := by decide +kernel
theorem dL_errors_33 : decode cL_errors 33 = .ok (.if_icmp .ne 343, 3) := by decide +kernel
theorem dL_errors_36 : decode cL_errors 36 = .ok (.aload_n 0, 1) := by decide +kernel
theorem dL_errors_37 : decode cL_errors 37 = .ok (.iload_n 1, 1) := by decide +kernel
theorem dL_errors_38 : decode cL_errors 38 = .ok (.iconst 0, 1) := by decide +kernel
theorem dL_errors_39 : decode cL_errors 39 = .ok (.invokevirtual 24, 3) := by decide +kernel
theorem dL_errors_42 : decode cL_errors 42 = .ok (.iconst (-1), 1) := by decide +kernel
theorem dL_errors_43 : decode cL_errors 43 = .ok (.if_icmp .ne 333, 3) := by decide +kernel
theorem dL_errors_46 : decode cL_errors 46 = .ok (.aload_n 0, 1) := by decide +kernel
theorem dL_errors_47 : decode cL_errors 47 = .ok (.iconst 0, 1) := by decide +kernel
theorem dL_errors_48 : decode cL_errors 48 = .ok (.iconst (-1), 1) := by decide +kernel
theorem dL_errors_49 : decode cL_errors 49 = .ok (.invokevirtual 24, 3) := by decide +kernel
theorem dL_errors_52 : decode cL_errors 52 = .ok (.iconst (-1), 1) := by decide +kernel
theorem dL_errors_53 : decode cL_errors 53 = .ok (.if_icmp .ne 323, 3) := by decide +kernel
theorem dL_errors_56 : decode cL_errors 56 = .ok (.aload_n 0, 1) := by decide +kernel
theorem dL_errors_57 : decode cL_errors 57 = .ok (.iconst 0, 1) := by decide +kernel
theorem dL_errors_58 : decode cL_errors 58 = .ok (.iconst 0, 1) := by decide +kernel
theorem dL_errors_59 : decode cL_errors 59 = .ok (.invokevirtual 24, 3) := by decide +kernel
theorem dL_errors_62 : decode cL_errors 62 = .ok (.bipush (-9), 2) := by decide +kernel
theorem dL_errors_64 : decode cL_errors 64 = .ok (.if_icmp .ne 312, 3) := by decide +kernel
theorem dL_errors_67 : decode cL_errors 67 = .ok (.aload_n 0, 1) := by decide +kernel
theorem dL_errors_68 : decode cL_errors 68 = .ok (.iload_n 1, 1) := by decide +kernel
theorem dL_errors_69 : decode cL_errors 69 = .ok (.invokevirtual 28, 3) := by decide +kernel
theorem dL_errors_72 : decode cL_errors 72 = .ok (.iconst (-1), 1) := by decide +kernel
theorem dL_errors_73 : decode cL_errors 73 = .ok (.if_icmp .ne 303, 3) := by decide +kernel
theorem dL_errors_76 : decode cL_errors 76 = .ok (.aload_n 0, 1) := by decide +kernel
theorem dL_errors_77 : decode cL_errors 77 = .ok (.iload_n 1, 1) := by decide +kernel
theorem dL_errors_78 : decode cL_errors 78 = .ok (.iconst 0, 1) := by decide +kernel
theorem dL_errors_79 : decode cL_errors 79 = .ok (.iconst 0, 1) := by decide +kernel
theorem dL_errors_80 : decode cL_errors 80 = .ok (.invokevirtual 31, 3) := by decide +kernel
theorem dL_errors_83 : decode cL_errors 83 = .ok (.iconst (-1), 1) := by decide +kernel
theorem dL_errors_84 : decode cL_errors 84 = .ok (.if_icmp .ne 292, 3) := by decide +kernel
theorem dL_errors_87 : decode cL_errors 87 = .ok (.aload_n 0, 1) := by decide +kernel
theorem dL_errors_88 : decode cL_errors 88 = .ok (.iconst 0, 1) := by decide +kernel
theorem dL_errors_89 : decode cL_errors 89 = .ok (.iconst 0, 1) := by decide +kernel
theorem dL_errors_90 : decode cL_errors 90 = .ok (.iconst 0, 1) := by decide +kernel
theorem dL_errors_91 : decode cL_errors 91 = .ok (.invokevirtual 31, 3) := by decide +kernel
theorem dL_errors_94 : decode cL_errors 94 = .ok (.bipush (-2), 2) := by decide +kernel
theorem dL_errors_96 : decode cL_errors 96 = .ok (.if_icmp .ne 280, 3) := by decide +kernel
theorem dL_errors_99 : decode cL_errors 99 = .ok (.aload_n 0, 1) := by decide +kernel
theorem dL_errors_100 : decode cL_errors 100 = .ok (.iconst 0, 1) := by decide +kernel
theorem dL_errors_101 : decode cL_errors 101 = .ok (.iconst 0, 1) := by decide +kernel
theorem dL_errors_102 : decode cL_errors 102 = .ok (.bipush 100, 2) := by decide +kernel
theorem dL_errors_104 : decode cL_errors 104 = .ok (.invokevirtual 31, 3) := by decide +kernel
theorem dL_errors_107 : decode cL_errors 107 = .ok (.bipush (-2), 2) := by decide +kernel
theorem dL_errors_109 : decode cL_errors 109 = .ok (.if_icmp .ne 267, 3) := by decide +kernel
theorem dL_errors_112 : decode cL_errors 112 = .ok (.aload_n 0, 1) := by decide +kernel
theorem dL_errors_113 : decode cL_errors 113 = .ok (.iconst 0, 1) := by decide +kernel
theorem dL_errors_114 : decode cL_errors 114 = .ok (.iconst 0, 1) := by decide +kernel
theorem dL_errors_115 : decode cL_errors 115 = .ok (.iconst 1, 1) := by decide +kernel
theorem dL_errors_116 : decode cL_errors 116 = .ok (.invokevirtual 31, 3) := by decide +kernel
theorem dL_errors_119 : decode cL_errors 119 = .ok (.bipush (-3), 2) := by decide +kernel
theorem dL_errors_121 : decode cL_errors 121 = .ok (.if_icmp .ne 255, 3) := by decide +kernel
theorem dL_errors_124 : decode cL_errors 124 = .ok (.aload_n 0, 1) := by decide +kernel
theorem dL_errors_125 : decode cL_errors 125 = .ok (.iconst 0, 1) := by decide +kernel
theorem dL_errors_126 : decode cL_errors 126 = .ok (.iload_n 1, 1) := by decide +kernel
theorem dL_errors_127 : decode cL_errors 127 = .ok (.invokevirtual 35, 3) := by decide +kernel
theorem dL_errors_130 : decode cL_errors 130 = .ok (.iconst (-1), 1) := by decide +kernel
theorem dL_errors_131 : decode cL_errors 131 = .ok (.if_icmp .ne 245, 3) := by decide +kernel
theorem dL_errors_134 : decode cL_errors 134 = .ok (.aload_n 0, 1) := by decide +kernel
theorem dL_errors_135 : decode cL_errors 135 = .ok (.iconst 0, 1) := by decide +kernel
theorem dL_errors_136 : decode cL_errors 136 = .ok (.iconst 0, 1) := by decide +kernel
theorem dL_errors_137 : decode cL_errors 137 = .ok (.invokevirtual 35, 3) := by decide +kernel
theorem dL_errors_140 : decode cL_errors 140 = .ok (.bipush (-3), 2) := by decide +kernel
theorem dL_errors_142 : decode cL_errors 142 = .ok (.if_icmp .ne 234, 3) := by decide +kernel
theorem dL_errors_145 : decode cL_errors 145 = .ok (.aload_n 0, 1) := by decide +kernel
theorem dL_errors_146 : decode cL_errors 146 = .ok (.iload_n 1, 1) := by decide +kernel
theorem dL_errors_147 : decode cL_errors 147 = .ok (.iconst 0, 1) := by decide +kernel
theorem dL_errors_148 : decode cL_errors 148 = .ok (.iconst 0, 1) := by decide +kernel
theorem dL_errors_149 : decode cL_errors 149 = .ok (.invokevirtual 38, 3) := by decide +kernel
theorem dL_errors_152 : decode cL_errors 152 = .ok (.iconst (-1), 1) := by decide +kernel
theorem dL_errors_153 : decode cL_errors 153 = .ok (.if_icmp .ne 223, 3) := by decide +kernel
theorem dL_errors_156 : decode cL_errors 156 = .ok (.aload_n 0, 1) := by decide +kernel
theorem dL_errors_157 : decode cL_errors 157 = .ok (.iconst 0, 1) := by decide +kernel
theorem dL_errors_158 : decode cL_errors 158 = .ok (.iconst 0, 1) := by decide +kernel
theorem dL_errors_159 : decode cL_errors 159 = .ok (.iconst 0, 1) := by decide +kernel
theorem dL_errors_160 : decode cL_errors 160 = .ok (.invokevirtual 38, 3) := by decide +kernel
theorem dL_errors_163 : decode cL_errors 163 = .ok (.bipush (-2), 2) := by decide +kernel
theorem dL_errors_165 : decode cL_errors 165 = .ok (.if_icmp .ne 211, 3) := by decide +kernel
theorem dL_errors_168 : decode cL_errors 168 = .ok (.aload_n 0, 1) := by decide +kernel
theorem dL_errors_169 : decode cL_errors 169 = .ok (.iconst 0, 1) := by decide +kernel
theorem dL_errors_170 : decode cL_errors 170 = .ok (.iconst 0, 1) := by decide +kernel
theorem dL_errors_171 : decode cL_errors 171 = .ok (.iconst 1, 1) := by decide +kernel
theorem dL_errors_172 : decode cL_errors 172 = .ok (.invokevirtual 38, 3) := by decide +kernel
theorem dL_errors_175 : decode cL_errors 175 = .ok (.bipush (-3), 2) := by decide +kernel
theorem dL_errors_177 : decode cL_errors 177 = .ok (.if_icmp .ne 199, 3) := by decide +kernel
theorem dL_errors_180 : decode cL_errors 180 = .ok (.aload_n 0, 1) := by decide +kernel
theorem dL_errors_181 : decode cL_errors 181 = .ok (.iload_n 1, 1) := by decide +kernel
theorem dL_errors_182 : decode cL_errors 182 = .ok (.bipush 100, 2) := by decide +kernel
theorem dL_errors_184 : decode cL_errors 184 = .ok (.invokevirtual 41, 3) := by decide +kernel
theorem dL_errors_187 : decode cL_errors 187 = .ok (.iconst (-1), 1) := by decide +kernel
theorem dL_errors_188 : decode cL_errors 188 = .ok (.if_icmp .ne 188, 3) := by decide +kernel
theorem dL_errors_191 : decode cL_errors 191 = .ok (.aload_n 0, 1) := by decide +kernel
theorem dL_errors_192 : decode cL_errors 192 = .ok (.iconst 0, 1) := by decide +kernel
theorem dL_errors_193 : decode cL_errors 193 = .ok (.bipush 100, 2) := by decide +kernel
theorem dL_errors_195 : decode cL_errors 195 = .ok (.invokevirtual 41, 3) := by decide +kernel
theorem dL_errors_198 : decode cL_errors 198 = .ok (.bipush (-2), 2) := by decide +kernel
theorem dL_errors_200 : decode cL_errors 200 = .ok (.if_icmp .ne 176, 3) := by decide +kernel
theorem dL_errors_203 : decode cL_errors 203 = .ok (.aload_n 0, 1) := by decide +kernel
theorem dL_errors_204 : decode cL_errors 204 = .ok (.iconst 0, 1) := by decide +kernel
theorem dL_errors_205 : decode cL_errors 205 = .ok (.iconst (-1), 1) := by decide +kernel
theorem dL_errors_206 : decode cL_errors 206 = .ok (.invokevirtual 41, 3) := by decide +kernel
theorem dL_errors_209 : decode cL_errors 209 = .ok (.bipush (-2), 2) := by decide +kernel
theorem dL_errors_211 : decode cL_errors 211 = .ok (.if_icmp .ne 165, 3) := by decide +kernel
theorem dL_errors_214 : decode cL_errors 214 = .ok (.aload_n 0, 1) := by decide +kernel
theorem dL_errors_215 : decode cL_errors 215 = .ok (.iconst 0, 1) := by decide +kernel
theorem dL_errors_216 : decode cL_errors 216 = .ok (.iload_n 1, 1) := by decide +kernel
theorem dL_errors_217 : decode cL_errors 217 = .ok (.invokevirtual 44, 3) := by decide +kernel
theorem dL_errors_220 : decode cL_errors 220 = .ok (.iconst (-1), 1) := by decide +kernel
theorem dL_errors_221 : decode cL_errors 221 = .ok (.if_icmp .ne 155, 3) := by decide +kernel
theorem dL_errors_224 : decode cL_errors 224 = .ok (.aload_n 0, 1) := by decide +kernel
theorem dL_errors_225 : decode cL_errors 225 = .ok (.iload_n 1, 1) := by decide +kernel
theorem dL_errors_226 : decode cL_errors 226 = .ok (.iconst 0, 1) := by decide +kernel
theorem dL_errors_227 : decode cL_errors 227 = .ok (.iconst (-1), 1) := by decide +kernel
theorem dL_errors_228 : decode cL_errors 228 = .ok (.invokevirtual 47, 3) := by decide +kernel
theorem dL_errors_231 : decode cL_errors 231 = .ok (.iconst (-1), 1) := by decide +kernel
theorem dL_errors_232 : decode cL_errors 232 = .ok (.if_icmp .ne 144, 3) := by decide +kernel
theorem dL_errors_235 : decode cL_errors 235 = .ok (.aload_n 0, 1) := by decide +kernel
theorem dL_errors_236 : decode cL_errors 236 = .ok (.iconst 0, 1) := by decide +kernel
theorem dL_errors_237 : decode cL_errors 237 = .ok (.iconst 0, 1) := by decide +kernel
theorem dL_errors_238 : decode cL_errors 238 = .ok (.iconst (-1), 1) := by decide +kernel
theorem dL_errors_239 : decode cL_errors 239 = .ok (.invokevirtual 47, 3) := by decide +kernel
theorem dL_errors_242 : decode cL_errors 242 = .ok (.bipush (-2), 2) := by decide +kernel
theorem dL_errors_244 : decode cL_errors 244 = .ok (.if_icmp .ne 132, 3) := by decide +kernel
theorem dL_errors_247 : decode cL_errors 247 = .ok (.aload_n 0, 1) := by decide +kernel
theorem dL_errors_248 : decode cL_errors 248 = .ok (.iconst 0, 1) := by decide +kernel
theorem dL_errors_249 : decode cL_errors 249 = .ok (.iconst 0, 1) := by decide +kernel
theorem dL_errors_250 : decode cL_errors 250 = .ok (.iconst 1, 1) := by decide +kernel
theorem dL_errors_251 : decode cL_errors 251 = .ok (.invokevirtual 47, 3) := by decide +kernel
theorem dL_errors_254 : decode cL_errors 254 = .ok (.bipush (-9), 2) := by decide +kernel
theorem dL_errors_256 : decode cL_errors 256 = .ok (.if_icmp .ne 120, 3) := by decide +kernel
theorem dL_errors_259 : decode cL_errors 259 = .ok (.aload_n 0, 1) := by decide +kernel
theorem dL_errors_260 : decode cL_errors 260 = .ok (.iload_n 1, 1) := by decide +kernel
theorem dL_errors_261 : decode cL_errors 261 = .ok (.invokevirtual 50, 3) := by decide +kernel
theorem dL_errors_264 : decode cL_errors 264 = .ok (.iconst (-1), 1) := by decide +kernel
theorem dL_errors_265 : decode cL_errors 265 = .ok (.if_icmp .ne 111, 3) := by decide +kernel
theorem dL_errors_268 : decode cL_errors 268 = .ok (.aload_n 0, 1) := by decide +kernel
theorem dL_errors_269 : decode cL_errors 269 = .ok (.iconst (-1), 1) := by decide +kernel
theorem dL_errors_270 : decode cL_errors 270 = .ok (.invokevirtual 53, 3) := by decide +kernel
theorem dL_errors_273 : decode cL_errors 273 = .ok (.iconst (-1), 1) := by decide +kernel
theorem dL_errors_274 : decode cL_errors 274 = .ok (.if_icmp .ne 102, 3) := by decide +kernel
theorem dL_errors_277 : decode cL_errors 277 = .ok (.aload_n 0, 1) := by decide +kernel
theorem dL_errors_278 : decode cL_errors 278 = .ok (.iload_n 1, 1) := by decide +kernel
theorem dL_errors_279 : decode cL_errors 279 = .ok (.iconst 2, 1) := by decide +kernel
theorem dL_errors_280 : decode cL_errors 280 = .ok (.invokevirtual 56, 3) := by decide +kernel
theorem dL_errors_283 : decode cL_errors 283 = .ok (.iconst (-1), 1) := by decide +kernel
theorem dL_errors_284 : decode cL_errors 284 = .ok (.if_icmp .ne 92, 3) := by decide +kernel
theorem dL_errors_287 : decode cL_errors 287 = .ok (.aload_n 0, 1) := by decide +kernel
theorem dL_errors_288 : decode cL_errors 288 = .ok (.iconst 0, 1) := by decide +kernel
theorem dL_errors_289 : decode cL_errors 289 = .ok (.iconst 2, 1) := by decide +kernel
theorem dL_errors_290 : decode cL_errors 290 = .ok (.invokevirtual 56, 3) := by decide +kernel
theorem dL_errors_293 : decode cL_errors 293 = .ok (.bipush (-2), 2) := by decide +kernel
theorem dL_errors_295 : decode cL_errors 295 = .ok (.if_icmp .ne 81, 3) := by decide +kernel
theorem dL_errors_298 : decode cL_errors 298 = .ok (.aload_n 0, 1) := by decide +kernel
theorem dL_errors_299 : decode cL_errors 299 = .ok (.iload_n 1, 1) := by decide +kernel
theorem dL_errors_300 : decode cL_errors 300 = .ok (.invokevirtual 59, 3) := by decide +kernel
theorem dL_errors_303 : decode cL_errors 303 = .ok (.iconst (-1), 1) := by decide +kernel
theorem dL_errors_304 : decode cL_errors 304 = .ok (.if_icmp .ne 72, 3) := by decide +kernel
theorem dL_errors_307 : decode cL_errors 307 = .ok (.aload_n 0, 1) := by decide +kernel
theorem dL_errors_308 : decode cL_errors 308 = .ok (.iload_n 1, 1) := by decide +kernel
theorem dL_errors_309 : decode cL_errors 309 = .ok (.invokevirtual 62, 3) := by decide +kernel
theorem dL_errors_312 : decode cL_errors 312 = .ok (.iconst (-1), 1) := by decide +kernel
theorem dL_errors_313 : decode cL_errors 313 = .ok (.if_icmp .ne 63, 3) := by decide +kernel
theorem dL_errors_316 : decode cL_errors 316 = .ok (.aload_n 0, 1) := by decide +kernel
theorem dL_errors_317 : decode cL_errors 317 = .ok (.iload_n 1, 1) := by decide +kernel
theorem dL_errors_318 : decode cL_errors 318 = .ok (.invokevirtual 65, 3) := by decide +kernel
theorem dL_errors_321 : decode cL_errors 321 = .ok (.iconst (-1), 1) := by decide +kernel
theorem dL_errors_322 : decode cL_errors 322 = .ok (.if_icmp .ne 54, 3) := by decide +kernel
theorem dL_errors_325 : decode cL_errors 325 = .ok (.aload_n 0, 1) := by decide +kernel
theorem dL_errors_326 : decode cL_errors 326 = .ok (.iconst 0, 1) := by decide +kernel
theorem dL_errors_327 : decode cL_errors 327 = .ok (.iconst 0, 1) := by decide +kernel
theorem dL_errors_328 : decode cL_errors 328 = .ok (.iload_n 1, 1) := by decide +kernel
theorem dL_errors_329 : decode cL_errors 329 = .ok (.invokevirtual 68, 3) := by decide +kernel
theorem dL_errors_332 : decode cL_errors 332 = .ok (.iconst (-1), 1) := by decide +kernel
theorem dL_errors_333 : decode cL_errors 333 = .ok (.if_icmp .ne 43, 3) := by decide +kernel
theorem dL_errors_336 : decode cL_errors 336 = .ok (.aload_n 0, 1) := by decide +kernel
theorem dL_errors_337 : decode cL_errors 337 = .ok (.iload_n 1, 1) := by decide +kernel
theorem dL_errors_338 : decode cL_errors 338 = .ok (.invokevirtual 71, 3) := by decide +kernel
theorem dL_errors_341 : decode cL_errors 341 = .ok (.iconst (-1), 1) := by decide +kernel
theorem dL_errors_342 : decode cL_errors 342 = .ok (.if_icmp .ne 34, 3) := by decide +kernel
theorem dL_errors_345 : decode cL_errors 345 = .ok (.aload_n 0, 1) := by decide +kernel
theorem dL_errors_346 : decode cL_errors 346 = .ok (.iload_n 1, 1) := by decide +kernel
theorem dL_errors_347 : decode cL_errors 347 = .ok (.invokevirtual 74, 3) := by decide +kernel
theorem dL_errors_350 : decode cL_errors 350 = .ok (.iconst (-1), 1) := by decide +kernel
theorem dL_errors_351 : decode cL_errors 351 = .ok (.if_icmp .ne 25, 3) := by decide +kernel
theorem dL_errors_354 : decode cL_errors 354 = .ok (.aload_n 0, 1) := by decide +kernel
theorem dL_errors_355 : decode cL_errors 355 = .ok (.iload_n 1, 1) := by decide +kernel
theorem dL_errors_356 : decode cL_errors 356 = .ok (.invokevirtual 77, 3) := by decide +kernel
theorem dL_errors_359 : decode cL_errors 359 = .ok (.iconst (-1), 1) := by decide +kernel
theorem dL_errors_360 : decode cL_errors 360 = .ok (.if_icmp .ne 16, 3) := by decide +kernel
theorem dL_errors_363 : decode cL_errors 363 = .ok (.aload_n 0, 1) := by decide +kernel
theorem dL_errors_364 : decode cL_errors 364 = .ok (.iload_n 1, 1) := by decide +kernel
theorem dL_errors_365 : decode cL_errors 365 = .ok (.invokevirtual 80, 3) := by decide +kernel
theorem dL_errors_368 : decode cL_errors 368 = .ok (.iconst (-1), 1) := by decide +kernel
theorem dL_errors_369 : decode cL_errors 369 = .ok (.if_icmp .ne 7, 3) := by decide +kernel
theorem dL_errors_372 : decode cL_errors 372 = .ok (.iconst 1, 1) := by decide +kernel
theorem dL_errors_373 : decode cL_errors 373 = .ok (.goto 4, 3) := by decide +kernel
theorem dL_errors_376 : decode cL_errors 376 = .ok (.iconst 0, 1) := by decide +kernel
theorem dL_errors_377 : decode cL_errors 377 = .ok (.istore_n 2, 1) := by decide +kernel
theorem dL_errors_378 : decode cL_errors 378 = .ok (.iload_n 2, 1) := by decide +kernel
theorem dL_errors_379 : decode cL_errors 379 = .ok (.ifCond .eq 197, 3) := by decide +kernel
theorem dL_errors_382 : decode cL_errors 382 = .ok (.aload_n 0, 1) := by decide +kernel
theorem dL_errors_383 : decode cL_errors 383 = .ok (.iload_n 1, 1) := by decide +kernel
theorem dL_errors_384 : decode cL_errors 384 = .ok (.bipush 11, 2) := by decide +kernel
theorem dL_errors_386 : decode cL_errors 386 = .ok (.invokevirtual 83, 3) := by decide +kernel
theorem dL_errors_389 : decode cL_errors 389 = .ok (.ldc2_w 87, 3) := by decide +kernel
theorem dL_errors_392 : decode cL_errors 392 = .ok (.lcmp, 1) := by decide +kernel
theorem dL_errors_393 : decode cL_errors 393 = .ok (.ifCond .ne 183, 3) := by decide +kernel
theorem dL_errors_396 : decode cL_errors 396 = .ok (.aload_n 0, 1) := by decide +kernel
theorem dL_errors_397 : decode cL_errors 397 = .ok (.iconst 0, 1) := by decide +kernel
theorem dL_errors_398 : decode cL_errors 398 = .ok (.bipush 11, 2) := by decide +kernel
theorem dL_errors_400 : decode cL_errors 400 = .ok (.invokevirtual 83, 3) := by decide +kernel
theorem dL_errors_403 : decode cL_errors 403 = .ok (.ldc2_w 89, 3) := by decide +kernel
theorem dL_errors_406 : decode cL_errors 406 = .ok (.lcmp, 1) := by decide +kernel
theorem dL_errors_407 : decode cL_errors 407 = .ok (.ifCond .ne 169, 3) := by decide +kernel
theorem dL_errors_410 : decode cL_errors 410 = .ok (.aload_n 0, 1) := by decide +kernel
theorem dL_errors_411 : decode cL_errors 411 = .ok (.iconst 0, 1) := by decide +kernel
theorem dL_errors_412 : decode cL_errors 412 = .ok (.iconst (-1), 1) := by decide +kernel
theorem dL_errors_413 : decode cL_errors 413 = .ok (.invokevirtual 83, 3) := by decide +kernel
theorem dL_errors_416 : decode cL_errors 416 = .ok (.ldc2_w 89, 3) := by decide +kernel
theorem dL_errors_419 : decode cL_errors 419 = .ok (.lcmp, 1) := by decide +kernel
theorem dL_errors_420 : decode cL_errors 420 = .ok (.ifCond .ne 156, 3) := by decide +kernel
theorem dL_errors_423 : decode cL_errors 423 = .ok (.aload_n 0, 1) := by decide +kernel
theorem dL_errors_424 : decode cL_errors 424 = .ok (.bipush 12, 2) := by decide +kernel
theorem dL_errors_426 : decode cL_errors 426 = .ok (.iconst 0, 1) := by decide +kernel
theorem dL_errors_427 : decode cL_errors 427 = .ok (.iconst 0, 1) := by decide +kernel
theorem dL_errors_428 : decode cL_errors 428 = .ok (.invokevirtual 91, 3) := by decide +kernel
theorem dL_errors_431 : decode cL_errors 431 = .ok (.bipush (-2), 2) := by decide +kernel
theorem dL_errors_433 : decode cL_errors 433 = .ok (.if_icmp .ne 143, 3) := by decide +kernel
theorem dL_errors_436 : decode cL_errors 436 = .ok (.aload_n 0, 1) := by decide +kernel
theorem dL_errors_437 : decode cL_errors 437 = .ok (.iconst 0, 1) := by decide +kernel
theorem dL_errors_438 : decode cL_errors 438 = .ok (.iconst (-1), 1) := by decide +kernel
theorem dL_errors_439 : decode cL_errors 439 = .ok (.iconst 0, 1) := by decide +kernel
theorem dL_errors_440 : decode cL_errors 440 = .ok (.invokevirtual 91, 3) := by decide +kernel
theorem dL_errors_443 : decode cL_errors 443 = .ok (.bipush (-2), 2) := by decide +kernel
theorem dL_errors_445 : decode cL_errors 445 = .ok (.if_icmp .ne 131, 3) := by decide +kernel
theorem dL_errors_448 : decode cL_errors 448 = .ok (.aload_n 0, 1) := by decide +kernel
theorem dL_errors_449 : decode cL_errors 449 = .ok (.iconst 0, 1) := by decide +kernel
theorem dL_errors_450 : decode cL_errors 450 = .ok (.iconst 0, 1) := by decide +kernel
theorem dL_errors_451 : decode cL_errors 451 = .ok (.sipush 1000, 3) := by decide +kernel
theorem dL_errors_454 : decode cL_errors 454 = .ok (.invokevirtual 91, 3) := by decide +kernel
theorem dL_errors_457 : decode cL_errors 457 = .ok (.bipush (-2), 2) := by decide +kernel
theorem dL_errors_459 : decode cL_errors 459 = .ok (.if_icmp .ne 117, 3) := by decide +kernel
theorem dL_errors_462 : decode cL_errors 462 = .ok (.aload_n 0, 1) := by decide +kernel
theorem dL_errors_463 : decode cL_errors 463 = .ok (.iload_n 1, 1) := by decide +kernel
theorem dL_errors_464 : decode cL_errors 464 = .ok (.iconst 0, 1) := by decide +kernel
theorem dL_errors_465 : decode cL_errors 465 = .ok (.invokevirtual 94, 3) := by decide +kernel
theorem dL_errors_468 : decode cL_errors 468 = .ok (.iconst (-1), 1) := by decide +kernel
theorem dL_errors_469 : decode cL_errors 469 = .ok (.if_icmp .ne 107, 3) := by decide +kernel
theorem dL_errors_472 : decode cL_errors 472 = .ok (.aload_n 0, 1) := by decide +kernel
theorem dL_errors_473 : decode cL_errors 473 = .ok (.iconst 0, 1) := by decide +kernel
theorem dL_errors_474 : decode cL_errors 474 = .ok (.iconst 0, 1) := by decide +kernel
theorem dL_errors_475 : decode cL_errors 475 = .ok (.invokevirtual 94, 3) := by decide +kernel
theorem dL_errors_478 : decode cL_errors 478 = .ok (.bipush (-3), 2) := by decide +kernel
theorem dL_errors_480 : decode cL_errors 480 = .ok (.if_icmp .ne 96, 3) := by decide +kernel
theorem dL_errors_483 : decode cL_errors 483 = .ok (.aload_n 0, 1) := by decide +kernel
theorem dL_errors_484 : decode cL_errors 484 = .ok (.iconst 0, 1) := by decide +kernel
theorem dL_errors_485 : decode cL_errors 485 = .ok (.lconst 0, 1) := by decide +kernel
theorem dL_errors_486 : decode cL_errors 486 = .ok (.invokevirtual 97, 3) := by decide +kernel
theorem dL_errors_489 : decode cL_errors 489 = .ok (.bipush (-2), 2) := by decide +kernel
theorem dL_errors_491 : decode cL_errors 491 = .ok (.if_icmp .ne 85, 3) := by decide +kernel
theorem dL_errors_494 : decode cL_errors 494 = .ok (.aload_n 0, 1) := by decide +kernel
theorem dL_errors_495 : decode cL_errors 495 = .ok (.iconst 4, 1) := by decide +kernel
theorem dL_errors_496 : decode cL_errors 496 = .ok (.lconst 0, 1) := by decide +kernel
theorem dL_errors_497 : decode cL_errors 497 = .ok (.invokevirtual 97, 3) := by decide +kernel
theorem dL_errors_500 : decode cL_errors 500 = .ok (.bipush (-2), 2) := by decide +kernel
theorem dL_errors_502 : decode cL_errors 502 = .ok (.if_icmp .ne 74, 3) := by decide +kernel
theorem dL_errors_505 : decode cL_errors 505 = .ok (.aload_n 0, 1) := by decide +kernel
theorem dL_errors_506 : decode cL_errors 506 = .ok (.iconst 1, 1) := by decide +kernel
theorem dL_errors_507 : decode cL_errors 507 = .ok (.ldc2_w 101, 3) := by decide +kernel
theorem dL_errors_510 : decode cL_errors 510 = .ok (.invokevirtual 97, 3) := by decide +kernel
theorem dL_errors_513 : decode cL_errors 513 = .ok (.bipush (-2), 2) := by decide +kernel
theorem dL_errors_515 : decode cL_errors 515 = .ok (.if_icmp .ne 61, 3) := by decide +kernel
theorem dL_errors_518 : decode cL_errors 518 = .ok (.aload_n 0, 1) := by decide +kernel
theorem dL_errors_519 : decode cL_errors 519 = .ok (.iconst 1, 1) := by decide +kernel
theorem dL_errors_520 : decode cL_errors 520 = .ok (.ldc2_w 87, 3) := by decide +kernel
theorem dL_errors_523 : decode cL_errors 523 = .ok (.invokevirtual 97, 3) := by decide +kernel
theorem dL_errors_526 : decode cL_errors 526 = .ok (.bipush (-2), 2) := by decide +kernel
theorem dL_errors_528 : decode cL_errors 528 = .ok (.if_icmp .ne 48, 3) := by decide +kernel
theorem dL_errors_531 : decode cL_errors 531 = .ok (.aload_n 0, 1) := by decide +kernel
theorem dL_errors_532 : decode cL_errors 532 = .ok (.lconst 1, 1) := by decide +kernel
theorem dL_errors_533 : decode cL_errors 533 = .ok (.iconst 0, 1) := by decide +kernel
theorem dL_errors_534 : decode cL_errors 534 = .ok (.invokevirtual 103, 3) := by decide +kernel
theorem dL_errors_537 : decode cL_errors 537 = .ok (.bipush (-2), 2) := by decide +kernel
theorem dL_errors_539 : decode cL_errors 539 = .ok (.if_icmp .ne 37, 3) := by decide +kernel
theorem dL_errors_542 : decode cL_errors 542 = .ok (.aload_n 0, 1) := by decide +kernel
theorem dL_errors_543 : decode cL_errors 543 = .ok (.lconst 1, 1) := by decide +kernel
theorem dL_errors_544 : decode cL_errors 544 = .ok (.bipush 61, 2) := by decide +kernel
theorem dL_errors_546 : decode cL_errors 546 = .ok (.invokevirtual 103, 3) := by decide +kernel
theorem dL_errors_549 : decode cL_errors 549 = .ok (.bipush (-2), 2) := by decide +kernel
theorem dL_errors_551 : decode cL_errors 551 = .ok (.if_icmp .ne 25, 3) := by decide +kernel
theorem dL_errors_554 : decode cL_errors 554 = .ok (.aload_n 0, 1) := by decide +kernel
theorem dL_errors_555 : decode cL_errors 555 = .ok (.iconst 2, 1) := by decide +kernel
theorem dL_errors_556 : decode cL_errors 556 = .ok (.invokevirtual 107, 3) := by decide +kernel
theorem dL_errors_559 : decode cL_errors 559 = .ok (.iconst (-1), 1) := by decide +kernel
theorem dL_errors_560 : decode cL_errors 560 = .ok (.if_icmp .ne 16, 3) := by decide +kernel
theorem dL_errors_563 : decode cL_errors 563 = .ok (.aload_n 0, 1) := by decide +kernel
theorem dL_errors_564 : decode cL_errors 564 = .ok (.iconst (-1), 1) := by decide +kernel
theorem dL_errors_565 : decode cL_errors 565 = .ok (.invokevirtual 110, 3) := by decide +kernel
theorem dL_errors_568 : decode cL_errors 568 = .ok (.iconst (-1), 1) := by decide +kernel
theorem dL_errors_569 : decode cL_errors 569 = .ok (.if_icmp .ne 7, 3) := by decide +kernel
theorem dL_errors_572 : decode cL_errors 572 = .ok (.iconst 1, 1) := by decide +kernel
theorem dL_errors_573 : decode cL_errors 573 = .ok (.goto 4, 3) := by decide +kernel
theorem dL_errors_576 : decode cL_errors 576 = .ok (.iconst 0, 1) := by decide +kernel
theorem dL_errors_577 : decode cL_errors 577 = .ok (.ireturn, 1) := by decide +kernel
theorem dL_two_0 : decode cL_two 0 = .ok (.aload_n 0, 1) := by decide +kernel
theorem dL_two_1 : decode cL_two 1 = .ok (.bipush 48, 2) := by decide +kernel
theorem dL_two_3 : decode cL_two 3 = .ok (.iload_n 1, 1) := by decide +kernel
theorem dL_two_4 : decode cL_two 4 = .ok (.bipush 10, 2) := by decide +kernel
theorem dL_two_6 : decode cL_two 6 = .ok (.idiv, 1) := by decide +kernel
theorem dL_two_7 : decode cL_two 7 = .ok (.iadd, 1) := by decide +kernel
theorem dL_two_8 : decode cL_two 8 = .ok (.invokevirtual 21, 3) := by decide +kernel
theorem dL_two_11 : decode cL_two 11 = .ok (.aload_n 0, 1) := by decide +kernel
theorem dL_two_12 : decode cL_two 12 = .ok (.bipush 48, 2) := by decide +kernel
theorem dL_two_14 : decode cL_two 14 = .ok (.iload_n 1, 1) := by decide +kernel
theorem dL_two_15 : decode cL_two 15 = .ok (.bipush 10, 2) := by decide +kernel
theorem dL_two_17 : decode cL_two 17 = .ok (.irem, 1) := by decide +kernel
theorem dL_two_18 : decode cL_two 18 = .ok (.iadd, 1) := by decide +kernel
theorem dL_two_19 : decode cL_two 19 = .ok (.invokevirtual 21, 3) := by decide +kernel
theorem dL_two_22 : decode cL_two 22 = .ok (.iadd, 1) := by decide +kernel
theorem dL_two_23 : decode cL_two 23 = .ok (.ireturn, 1) := by decide +kernel
theorem dL_load_0 : decode cL_load 0 = .ok (.iconst 1, 1) := by decide +kernel
theorem dL_load_1 : decode cL_load 1 = .ok (.iload_n 1, 1) := by decide +kernel
theorem dL_load_2 : decode cL_load 2 = .ok (.bipush 12, 2) := by decide +kernel
theorem dL_load_4 : decode cL_load 4 = .ok (.irem, 1) := by decide +kernel
theorem dL_load_5 : decode cL_load 5 = .ok (.iadd, 1) := by decide +kernel
theorem dL_load_6 : decode cL_load 6 = .ok (.istore_n 3, 1) := by decide +kernel
theorem dL_load_7 : decode cL_load 7 = .ok (.aload_n 0, 1) := by decide +kernel
theorem dL_load_8 : decode cL_load 8 = .ok (.invokevirtual 113, 3) := by decide +kernel
theorem dL_load_11 : decode cL_load 11 = .ok (.aload_n 0, 1) := by decide +kernel
theorem dL_load_12 : decode cL_load 12 = .ok (.bipush 70, 2) := by decide +kernel
theorem dL_load_14 : decode cL_load 14 = .ok (.invokevirtual 21, 3) := by decide +kernel
theorem dL_load_17 : decode cL_load 17 = .ok (.iadd, 1) := by decide +kernel
theorem dL_load_18 : decode cL_load 18 = .ok (.aload_n 0, 1) := by decide +kernel
theorem dL_load_19 : decode cL_load 19 = .ok (.iload_n 3, 1) := by decide +kernel
theorem dL_load_20 : decode cL_load 20 = .ok (.invokestatic 117, 3) := by decide +kernel
theorem dL_load_23 : decode cL_load 23 = .ok (.iadd, 1) := by decide +kernel
theorem dL_load_24 : decode cL_load 24 = .ok (.istore 4, 2) := by decide +kernel
theorem dL_load_26 : decode cL_load 26 = .ok (.iload_n 2, 1) := by decide +kernel
theorem dL_load_27 : decode cL_load 27 = .ok (.istore 5, 2) := by decide +kernel
theorem dL_load_29 : decode cL_load 29 = .ok (.iconst 0, 1) := by decide +kernel
theorem dL_load_30 : decode cL_load 30 = .ok (.istore 6, 2) := by decide +kernel
theorem dL_load_32 : decode cL_load 32 = .ok (.iload 6, 2) := by decide +kernel
theorem dL_load_34 : decode cL_load 34 = .ok (.iload_n 3, 1) := by decide +kernel
theorem dL_load_35 : decode cL_load 35 = .ok (.if_icmp .ge 49, 3) := by decide +kernel
theorem dL_load_38 : decode cL_load 38 = .ok (.iload 4, 2) := by decide +kernel
theorem dL_load_40 : decode cL_load 40 = .ok (.aload_n 0, 1) := by decide +kernel
theorem dL_load_41 : decode cL_load 41 = .ok (.iload 5, 2) := by decide +kernel
theorem dL_load_43 : decode cL_load 43 = .ok (.iconst 3, 1) := by decide +kernel
theorem dL_load_44 : decode cL_load 44 = .ok (.irem, 1) := by decide +kernel
theorem dL_load_45 : decode cL_load 45 = .ok (.ifCond .ne 7, 3) := by decide +kernel
theorem dL_load_48 : decode cL_load 48 = .ok (.iconst 0, 1) := by decide +kernel
theorem dL_load_49 : decode cL_load 49 = .ok (.goto 8, 3) := by decide +kernel
theorem dL_load_52 : decode cL_load 52 = .ok (.iload 5, 2) := by decide +kernel
theorem dL_load_54 : decode cL_load 54 = .ok (.bipush 100, 2) := by decide +kernel
theorem dL_load_56 : decode cL_load 56 = .ok (.irem, 1) := by decide +kernel
theorem dL_load_57 : decode cL_load 57 = .ok (.invokestatic 117, 3) := by decide +kernel
theorem dL_load_60 : decode cL_load 60 = .ok (.iadd, 1) := by decide +kernel
theorem dL_load_61 : decode cL_load 61 = .ok (.istore 4, 2) := by decide +kernel
theorem dL_load_63 : decode cL_load 63 = .ok (.iload 5, 2) := by decide +kernel
theorem dL_load_65 : decode cL_load 65 = .ok (.iconst 3, 1) := by decide +kernel
theorem dL_load_66 : decode cL_load 66 = .ok (.idiv, 1) := by decide +kernel
theorem dL_load_67 : decode cL_load 67 = .ok (.sipush 7919, 3) := by decide +kernel
theorem dL_load_70 : decode cL_load 70 = .ok (.iload 6, 2) := by decide +kernel
theorem dL_load_72 : decode cL_load 72 = .ok (.iconst 1, 1) := by decide +kernel
theorem dL_load_73 : decode cL_load 73 = .ok (.iadd, 1) := by decide +kernel
theorem dL_load_74 : decode cL_load 74 = .ok (.imul, 1) := by decide +kernel
theorem dL_load_75 : decode cL_load 75 = .ok (.iadd, 1) := by decide +kernel
theorem dL_load_76 : decode cL_load 76 = .ok (.istore 5, 2) := by decide +kernel
theorem dL_load_78 : decode cL_load 78 = .ok (.iinc 6 1, 3) := by decide +kernel
theorem dL_load_81 : decode cL_load 81 = .ok (.goto (-49), 3) := by decide +kernel
theorem dL_load_84 : decode cL_load 84 = .ok (.iconst 1, 1) := by decide +kernel
theorem dL_load_85 : decode cL_load 85 = .ok (.istore 6, 2) := by decide +kernel
theorem dL_load_87 : decode cL_load 87 = .ok (.iload 6, 2) := by decide +kernel
theorem dL_load_89 : decode cL_load 89 = .ok (.iload_n 3, 1) := by decide +kernel
theorem dL_load_90 : decode cL_load 90 = .ok (.if_icmp .ge 130, 3) := by decide +kernel
theorem dL_load_93 : decode cL_load 93 = .ok (.iload 5, 2) := by decide +kernel
theorem dL_load_95 : decode cL_load 95 = .ok (.bipush 6, 2) := by decide +kernel
theorem dL_load_97 : decode cL_load 97 = .ok (.irem, 1) := by decide +kernel
theorem dL_load_98 : decode cL_load 98 = .ok (.ifCond .le 102, 3) := by decide +kernel
theorem dL_load_101 : decode cL_load 101 = .ok (.iload 5, 2) := by decide +kernel
theorem dL_load_103 : decode cL_load 103 = .ok (.bipush 6, 2) := by decide +kernel
theorem dL_load_105 : decode cL_load 105 = .ok (.idiv, 1) := by decide +kernel
theorem dL_load_106 : decode cL_load 106 = .ok (.iconst 4, 1) := by decide +kernel
theorem dL_load_107 : decode cL_load 107 = .ok (.irem, 1) := by decide +kernel
theorem dL_load_108 : decode cL_load 108 = .ok (.ifCond .ne 10, 3) := by decide +kernel
theorem dL_load_111 : decode cL_load 111 = .ok (.iload 6, 2) := by decide +kernel
theorem dL_load_113 : decode cL_load 113 = .ok (.iconst 1, 1) := by decide +kernel
theorem dL_load_114 : decode cL_load 114 = .ok (.isub, 1) := by decide +kernel
theorem dL_load_115 : decode cL_load 115 = .ok (.goto 11, 3) := by decide +kernel
theorem dL_load_118 : decode cL_load 118 = .ok (.iload 5, 2) := by decide +kernel
theorem dL_load_120 : decode cL_load 120 = .ok (.bipush 24, 2) := by decide +kernel
theorem dL_load_122 : decode cL_load 122 = .ok (.idiv, 1) := by decide +kernel
theorem dL_load_123 : decode cL_load 123 = .ok (.iload 6, 2) := by decide +kernel
theorem dL_load_125 : decode cL_load 125 = .ok (.irem, 1) := by decide +kernel
theorem dL_load_126 : decode cL_load 126 = .ok (.istore 7, 2) := by decide +kernel
theorem dL_load_128 : decode cL_load 128 = .ok (.iload 4, 2) := by decide +kernel
theorem dL_load_130 : decode cL_load 130 = .ok (.iload 5, 2) := by decide +kernel
theorem dL_load_132 : decode cL_load 132 = .ok (.iconst 2, 1) := by decide +kernel
theorem dL_load_133 : decode cL_load 133 = .ok (.irem, 1) := by decide +kernel
theorem dL_load_134 : decode cL_load 134 = .ok (.ifCond .ne 25, 3) := by decide +kernel
theorem dL_load_137 : decode cL_load 137 = .ok (.aload_n 0, 1) := by decide +kernel
theorem dL_load_138 : decode cL_load 138 = .ok (.bipush 97, 2) := by decide +kernel
theorem dL_load_140 : decode cL_load 140 = .ok (.iload 6, 2) := by decide +kernel
theorem dL_load_142 : decode cL_load 142 = .ok (.iadd, 1) := by decide +kernel
theorem dL_load_143 : decode cL_load 143 = .ok (.invokevirtual 21, 3) := by decide +kernel
theorem dL_load_146 : decode cL_load 146 = .ok (.aload_n 0, 1) := by decide +kernel
theorem dL_load_147 : decode cL_load 147 = .ok (.bipush 97, 2) := by decide +kernel
theorem dL_load_149 : decode cL_load 149 = .ok (.iload 7, 2) := by decide +kernel
theorem dL_load_151 : decode cL_load 151 = .ok (.iadd, 1) := by decide +kernel
theorem dL_load_152 : decode cL_load 152 = .ok (.invokevirtual 21, 3) := by decide +kernel
theorem dL_load_155 : decode cL_load 155 = .ok (.iadd, 1) := by decide +kernel
theorem dL_load_156 : decode cL_load 156 = .ok (.goto 22, 3) := by decide +kernel
theorem dL_load_159 : decode cL_load 159 = .ok (.aload_n 0, 1) := by decide +kernel
theorem dL_load_160 : decode cL_load 160 = .ok (.bipush 97, 2) := by decide +kernel
theorem dL_load_162 : decode cL_load 162 = .ok (.iload 7, 2) := by decide +kernel
theorem dL_load_164 : decode cL_load 164 = .ok (.iadd, 1) := by decide +kernel
theorem dL_load_165 : decode cL_load 165 = .ok (.invokevirtual 21, 3) := by decide +kernel
theorem dL_load_168 : decode cL_load 168 = .ok (.aload_n 0, 1) := by decide +kernel
theorem dL_load_169 : decode cL_load 169 = .ok (.bipush 97, 2) := by decide +kernel
theorem dL_load_171 : decode cL_load 171 = .ok (.iload 6, 2) := by decide +kernel
theorem dL_load_173 : decode cL_load 173 = .ok (.iadd, 1) := by decide +kernel
theorem dL_load_174 : decode cL_load 174 = .ok (.invokevirtual 21, 3) := by decide +kernel
theorem dL_load_177 : decode cL_load 177 = .ok (.iadd, 1) := by decide +kernel
theorem dL_load_178 : decode cL_load 178 = .ok (.iadd, 1) := by decide +kernel
theorem dL_load_179 : decode cL_load 179 = .ok (.istore 4, 2) := by decide +kernel
theorem dL_load_181 : decode cL_load 181 = .ok (.iload 4, 2) := by decide +kernel
theorem dL_load_183 : decode cL_load 183 = .ok (.aload_n 0, 1) := by decide +kernel
theorem dL_load_184 : decode cL_load 184 = .ok (.iconst 1, 1) := by decide +kernel
theorem dL_load_185 : decode cL_load 185 = .ok (.iload 5, 2) := by decide +kernel
theorem dL_load_187 : decode cL_load 187 = .ok (.bipush 11, 2) := by decide +kernel
theorem dL_load_189 : decode cL_load 189 = .ok (.idiv, 1) := by decide +kernel
theorem dL_load_190 : decode cL_load 190 = .ok (.bipush 99, 2) := by decide +kernel
theorem dL_load_192 : decode cL_load 192 = .ok (.irem, 1) := by decide +kernel
theorem dL_load_193 : decode cL_load 193 = .ok (.iadd, 1) := by decide +kernel
theorem dL_load_194 : decode cL_load 194 = .ok (.invokestatic 117, 3) := by decide +kernel
theorem dL_load_197 : decode cL_load 197 = .ok (.iadd, 1) := by decide +kernel
theorem dL_load_198 : decode cL_load 198 = .ok (.istore 4, 2) := by decide +kernel
theorem dL_load_200 : decode cL_load 200 = .ok (.iload 5, 2) := by decide +kernel
theorem dL_load_202 : decode cL_load 202 = .ok (.iconst 5, 1) := by decide +kernel
theorem dL_load_203 : decode cL_load 203 = .ok (.idiv, 1) := by decide +kernel
theorem dL_load_204 : decode cL_load 204 = .ok (.ldc 121, 2) := by decide +kernel
theorem dL_load_206 : decode cL_load 206 = .ok (.iload 6, 2) := by decide +kernel
theorem dL_load_208 : decode cL_load 208 = .ok (.iconst 2, 1) := by decide +kernel
theorem dL_load_209 : decode cL_load 209 = .ok (.iadd, 1) := by decide +kernel
theorem dL_load_210 : decode cL_load 210 = .ok (.imul, 1) := by decide +kernel
theorem dL_load_211 : decode cL_load 211 = .ok (.iadd, 1) := by decide +kernel
theorem dL_load_212 : decode cL_load 212 = .ok (.istore 5, 2) := by decide +kernel
theorem dL_load_214 : decode cL_load 214 = .ok (.iinc 6 1, 3) := by decide +kernel
theorem dL_load_217 : decode cL_load 217 = .ok (.goto (-130), 3) := by decide +kernel
theorem dL_load_220 : decode cL_load 220 = .ok (.iload 4, 2) := by decide +kernel
theorem dL_load_222 : decode cL_load 222 = .ok (.iload_n 1, 1) := by decide +kernel
theorem dL_load_223 : decode cL_load 223 = .ok (.bipush 41, 2) := by decide +kernel
theorem dL_load_225 : decode cL_load 225 = .ok (.irem, 1) := by decide +kernel
theorem dL_load_226 : decode cL_load 226 = .ok (.ifCond .ne 18, 3) := by decide +kernel
theorem dL_load_229 : decode cL_load 229 = .ok (.aload_n 0, 1) := by decide +kernel
theorem dL_load_230 : decode cL_load 230 = .ok (.ldc 122, 2) := by decide +kernel
theorem dL_load_232 : decode cL_load 232 = .ok (.iload_n 2, 1) := by decide +kernel
theorem dL_load_233 : decode cL_load 233 = .ok (.iconst 4, 1) := by decide +kernel
theorem dL_load_234 : decode cL_load 234 = .ok (.irem, 1) := by decide +kernel
theorem dL_load_235 : decode cL_load 235 = .ok (.invokevirtual 124, 3) := by decide +kernel
theorem dL_load_238 : decode cL_load 238 = .ok (.invokevirtual 21, 3) := by decide +kernel
theorem dL_load_241 : decode cL_load 241 = .ok (.goto 4, 3) := by decide +kernel
theorem dL_load_244 : decode cL_load 244 = .ok (.iconst 0, 1) := by decide +kernel
theorem dL_load_245 : decode cL_load 245 = .ok (.iadd, 1) := by decide +kernel
theorem dL_load_246 : decode cL_load 246 = .ok (.istore 4, 2) := by decide +kernel
theorem dL_load_248 : decode cL_load 248 = .ok (.bipush 53, 2) := by decide +kernel
theorem dL_load_250 : decode cL_load 250 = .ok (.iload 4, 2) := by decide +kernel
theorem dL_load_252 : decode cL_load 252 = .ok (.imul, 1) := by decide +kernel
theorem dL_load_253 : decode cL_load 253 = .ok (.aload_n 0, 1) := by decide +kernel
theorem dL_load_254 : decode cL_load 254 = .ok (.invokevirtual 130, 3) := by decide +kernel
theorem dL_load_257 : decode cL_load 257 = .ok (.iadd, 1) := by decide +kernel
theorem dL_load_258 : decode cL_load 258 = .ok (.ireturn, 1) := by decide +kernel
theorem dL_act_0 : decode cL_act 0 = .ok (.iload_n 1, 1) := by decide +kernel
theorem dL_act_1 : decode cL_act 1 = .ok (.bipush 15, 2) := by decide +kernel
theorem dL_act_3 : decode cL_act 3 = .ok (.iand, 1) := by decide +kernel
theorem dL_act_4 : decode cL_act 4 = .ok (.tableswitch 207 0 14 #[76, 76, 76, 76, 85, 85, 85, 85, 111, 111, 127, 153, 169, 174, 199], 76) := by decide +kernel
theorem dL_act_80 : decode cL_act 80 = .ok (.aload_n 0, 1) := by decide +kernel
theorem dL_act_81 : decode cL_act 81 = .ok (.iload_n 1, 1) := by decide +kernel
theorem dL_act_82 : decode cL_act 82 = .ok (.iconst 4, 1) := by decide +kernel
theorem dL_act_83 : decode cL_act 83 = .ok (.ishr, 1) := by decide +kernel
theorem dL_act_84 : decode cL_act 84 = .ok (.iload_n 2, 1) := by decide +kernel
theorem dL_act_85 : decode cL_act 85 = .ok (.invokestatic 133, 3) := by decide +kernel
theorem dL_act_88 : decode cL_act 88 = .ok (.ireturn, 1) := by decide +kernel
theorem dL_act_89 : decode cL_act 89 = .ok (.aload_n 0, 1) := by decide +kernel
theorem dL_act_90 : decode cL_act 90 = .ok (.iload_n 2, 1) := by decide +kernel
theorem dL_act_91 : decode cL_act 91 = .ok (.bipush 12, 2) := by decide +kernel
theorem dL_act_93 : decode cL_act 93 = .ok (.irem, 1) := by decide +kernel
theorem dL_act_94 : decode cL_act 94 = .ok (.iload_n 2, 1) := by decide +kernel
theorem dL_act_95 : decode cL_act 95 = .ok (.bipush 12, 2) := by decide +kernel
theorem dL_act_97 : decode cL_act 97 = .ok (.idiv, 1) := by decide +kernel
theorem dL_act_98 : decode cL_act 98 = .ok (.bipush 12, 2) := by decide +kernel
theorem dL_act_100 : decode cL_act 100 = .ok (.irem, 1) := by decide +kernel
theorem dL_act_101 : decode cL_act 101 = .ok (.iconst 1, 1) := by decide +kernel
theorem dL_act_102 : decode cL_act 102 = .ok (.iload_n 2, 1) := by decide +kernel
theorem dL_act_103 : decode cL_act 103 = .ok (.sipush 144, 3) := by decide +kernel
theorem dL_act_106 : decode cL_act 106 = .ok (.idiv, 1) := by decide +kernel
theorem dL_act_107 : decode cL_act 107 = .ok (.bipush 99, 2) := by decide +kernel
theorem dL_act_109 : decode cL_act 109 = .ok (.irem, 1) := by decide +kernel
theorem dL_act_110 : decode cL_act 110 = .ok (.iadd, 1) := by decide +kernel
theorem dL_act_111 : decode cL_act 111 = .ok (.invokevirtual 31, 3) := by decide +kernel
theorem dL_act_114 : decode cL_act 114 = .ok (.ireturn, 1) := by decide +kernel
theorem dL_act_115 : decode cL_act 115 = .ok (.aload_n 0, 1) := by decide +kernel
theorem dL_act_116 : decode cL_act 116 = .ok (.iload_n 2, 1) := by decide +kernel
theorem dL_act_117 : decode cL_act 117 = .ok (.bipush 12, 2) := by decide +kernel
theorem dL_act_119 : decode cL_act 119 = .ok (.irem, 1) := by decide +kernel
theorem dL_act_120 : decode cL_act 120 = .ok (.iload_n 2, 1) := by decide +kernel
theorem dL_act_121 : decode cL_act 121 = .ok (.bipush 12, 2) := by decide +kernel
theorem dL_act_123 : decode cL_act 123 = .ok (.idiv, 1) := by decide +kernel
theorem dL_act_124 : decode cL_act 124 = .ok (.bipush 12, 2) := by decide +kernel
theorem dL_act_126 : decode cL_act 126 = .ok (.irem, 1) := by decide +kernel
theorem dL_act_127 : decode cL_act 127 = .ok (.invokevirtual 35, 3) := by decide +kernel
theorem dL_act_130 : decode cL_act 130 = .ok (.ireturn, 1) := by decide +kernel
theorem dL_act_131 : decode cL_act 131 = .ok (.aload_n 0, 1) := by decide +kernel
theorem dL_act_132 : decode cL_act 132 = .ok (.iload_n 2, 1) := by decide +kernel
theorem dL_act_133 : decode cL_act 133 = .ok (.bipush 12, 2) := by decide +kernel
theorem dL_act_135 : decode cL_act 135 = .ok (.irem, 1) := by decide +kernel
theorem dL_act_136 : decode cL_act 136 = .ok (.iload_n 2, 1) := by decide +kernel
theorem dL_act_137 : decode cL_act 137 = .ok (.bipush 12, 2) := by decide +kernel
theorem dL_act_139 : decode cL_act 139 = .ok (.idiv, 1) := by decide +kernel
theorem dL_act_140 : decode cL_act 140 = .ok (.bipush 12, 2) := by decide +kernel
theorem dL_act_142 : decode cL_act 142 = .ok (.irem, 1) := by decide +kernel
theorem dL_act_143 : decode cL_act 143 = .ok (.iconst 1, 1) := by decide +kernel
theorem dL_act_144 : decode cL_act 144 = .ok (.iload_n 2, 1) := by decide +kernel
theorem dL_act_145 : decode cL_act 145 = .ok (.sipush 144, 3) := by decide +kernel
theorem dL_act_148 : decode cL_act 148 = .ok (.idiv, 1) := by decide +kernel
theorem dL_act_149 : decode cL_act 149 = .ok (.bipush 99, 2) := by decide +kernel
theorem dL_act_151 : decode cL_act 151 = .ok (.irem, 1) := by decide +kernel
theorem dL_act_152 : decode cL_act 152 = .ok (.iadd, 1) := by decide +kernel
theorem dL_act_153 : decode cL_act 153 = .ok (.invokevirtual 38, 3) := by decide +kernel
theorem dL_act_156 : decode cL_act 156 = .ok (.ireturn, 1) := by decide +kernel
theorem dL_act_157 : decode cL_act 157 = .ok (.aload_n 0, 1) := by decide +kernel
theorem dL_act_158 : decode cL_act 158 = .ok (.iload_n 2, 1) := by decide +kernel
theorem dL_act_159 : decode cL_act 159 = .ok (.bipush 12, 2) := by decide +kernel
theorem dL_act_161 : decode cL_act 161 = .ok (.irem, 1) := by decide +kernel
theorem dL_act_162 : decode cL_act 162 = .ok (.iload_n 2, 1) := by decide +kernel
theorem dL_act_163 : decode cL_act 163 = .ok (.bipush 12, 2) := by decide +kernel
theorem dL_act_165 : decode cL_act 165 = .ok (.idiv, 1) := by decide +kernel
theorem dL_act_166 : decode cL_act 166 = .ok (.bipush 100, 2) := by decide +kernel
theorem dL_act_168 : decode cL_act 168 = .ok (.irem, 1) := by decide +kernel
theorem dL_act_169 : decode cL_act 169 = .ok (.invokevirtual 41, 3) := by decide +kernel
theorem dL_act_172 : decode cL_act 172 = .ok (.ireturn, 1) := by decide +kernel
theorem dL_act_173 : decode cL_act 173 = .ok (.aload_n 0, 1) := by decide +kernel
theorem dL_act_174 : decode cL_act 174 = .ok (.invokevirtual 136, 3) := by decide +kernel
theorem dL_act_177 : decode cL_act 177 = .ok (.ireturn, 1) := by decide +kernel
theorem dL_act_178 : decode cL_act 178 = .ok (.aload_n 0, 1) := by decide +kernel
theorem dL_act_179 : decode cL_act 179 = .ok (.iload_n 2, 1) := by decide +kernel
theorem dL_act_180 : decode cL_act 180 = .ok (.bipush 12, 2) := by decide +kernel
theorem dL_act_182 : decode cL_act 182 = .ok (.irem, 1) := by decide +kernel
theorem dL_act_183 : decode cL_act 183 = .ok (.iload_n 2, 1) := by decide +kernel
theorem dL_act_184 : decode cL_act 184 = .ok (.bipush 12, 2) := by decide +kernel
theorem dL_act_186 : decode cL_act 186 = .ok (.idiv, 1) := by decide +kernel
theorem dL_act_187 : decode cL_act 187 = .ok (.bipush 12, 2) := by decide +kernel
theorem dL_act_189 : decode cL_act 189 = .ok (.irem, 1) := by decide +kernel
theorem dL_act_190 : decode cL_act 190 = .ok (.iload_n 2, 1) := by decide +kernel
theorem dL_act_191 : decode cL_act 191 = .ok (.sipush 144, 3) := by decide +kernel
theorem dL_act_194 : decode cL_act 194 = .ok (.idiv, 1) := by decide +kernel
theorem dL_act_195 : decode cL_act 195 = .ok (.sipush 300, 3) := by decide +kernel
theorem dL_act_198 : decode cL_act 198 = .ok (.irem, 1) := by decide +kernel
theorem dL_act_199 : decode cL_act 199 = .ok (.invokevirtual 91, 3) := by decide +kernel
theorem dL_act_202 : decode cL_act 202 = .ok (.ireturn, 1) := by decide +kernel
theorem dL_act_203 : decode cL_act 203 = .ok (.aload_n 0, 1) := by decide +kernel
theorem dL_act_204 : decode cL_act 204 = .ok (.iload_n 2, 1) := by decide +kernel
theorem dL_act_205 : decode cL_act 205 = .ok (.iconst 1, 1) := by decide +kernel
theorem dL_act_206 : decode cL_act 206 = .ok (.iand, 1) := by decide +kernel
theorem dL_act_207 : decode cL_act 207 = .ok (.invokevirtual 107, 3) := by decide +kernel
theorem dL_act_210 : decode cL_act 210 = .ok (.ireturn, 1) := by decide +kernel
theorem dL_act_211 : decode cL_act 211 = .ok (.aload_n 0, 1) := by decide +kernel
theorem dL_act_212 : decode cL_act 212 = .ok (.iload_n 2, 1) := by decide +kernel
theorem dL_act_213 : decode cL_act 213 = .ok (.iconst 1, 1) := by decide +kernel
theorem dL_act_214 : decode cL_act 214 = .ok (.iand, 1) := by decide +kernel
theorem dL_act_215 : decode cL_act 215 = .ok (.invokevirtual 110, 3) := by decide +kernel
theorem dL_act_218 : decode cL_act 218 = .ok (.ireturn, 1) := by decide +kernel
theorem dL_now_0 : decode cL_now 0 = .ok (.lconst 1, 1) := by decide +kernel
theorem dL_now_1 : decode cL_now 1 = .ok (.lstore_n 1, 1) := by decide +kernel
theorem dL_now_2 : decode cL_now 2 = .ok (.iconst 0, 1) := by decide +kernel
theorem dL_now_3 : decode cL_now 3 = .ok (.istore_n 3, 1) := by decide +kernel
theorem dL_now_4 : decode cL_now 4 = .ok (.iload_n 3, 1) := by decide +kernel
theorem dL_now_5 : decode cL_now 5 = .ok (.bipush 12, 2) := by decide +kernel
theorem dL_now_7 : decode cL_now 7 = .ok (.if_icmp .ge 60, 3) := by decide +kernel
theorem dL_now_10 : decode cL_now 10 = .ok (.ldc2_w 139, 3) := by decide +kernel
theorem dL_now_13 : decode cL_now 13 = .ok (.lload_n 1, 1) := by decide +kernel
theorem dL_now_14 : decode cL_now 14 = .ok (.lmul, 1) := by decide +kernel
theorem dL_now_15 : decode cL_now 15 = .ok (.ldc2_w 141, 3) := by decide +kernel
theorem dL_now_18 : decode cL_now 18 = .ok (.lrem, 1) := by decide +kernel
theorem dL_now_19 : decode cL_now 19 = .ok (.aload_n 0, 1) := by decide +kernel
theorem dL_now_20 : decode cL_now 20 = .ok (.iload_n 3, 1) := by decide +kernel
theorem dL_now_21 : decode cL_now 21 = .ok (.invokevirtual 9, 3) := by decide +kernel
theorem dL_now_24 : decode cL_now 24 = .ok (.i2l, 1) := by decide +kernel
theorem dL_now_25 : decode cL_now 25 = .ok (.ladd, 1) := by decide +kernel
theorem dL_now_26 : decode cL_now 26 = .ok (.lstore_n 1, 1) := by decide +kernel
theorem dL_now_27 : decode cL_now 27 = .ok (.iconst 0, 1) := by decide +kernel
theorem dL_now_28 : decode cL_now 28 = .ok (.istore 4, 2) := by decide +kernel
theorem dL_now_30 : decode cL_now 30 = .ok (.iload 4, 2) := by decide +kernel
theorem dL_now_32 : decode cL_now 32 = .ok (.iload_n 3, 1) := by decide +kernel
theorem dL_now_33 : decode cL_now 33 = .ok (.if_icmp .ge 28, 3) := by decide +kernel
theorem dL_now_36 : decode cL_now 36 = .ok (.ldc2_w 143, 3) := by decide +kernel
theorem dL_now_39 : decode cL_now 39 = .ok (.lload_n 1, 1) := by decide +kernel
theorem dL_now_40 : decode cL_now 40 = .ok (.lmul, 1) := by decide +kernel
theorem dL_now_41 : decode cL_now 41 = .ok (.ldc2_w 145, 3) := by decide +kernel
theorem dL_now_44 : decode cL_now 44 = .ok (.lrem, 1) := by decide +kernel
theorem dL_now_45 : decode cL_now 45 = .ok (.aload_n 0, 1) := by decide +kernel
theorem dL_now_46 : decode cL_now 46 = .ok (.iload_n 3, 1) := by decide +kernel
theorem dL_now_47 : decode cL_now 47 = .ok (.iload 4, 2) := by decide +kernel
theorem dL_now_49 : decode cL_now 49 = .ok (.invokevirtual 24, 3) := by decide +kernel
theorem dL_now_52 : decode cL_now 52 = .ok (.i2l, 1) := by decide +kernel
theorem dL_now_53 : decode cL_now 53 = .ok (.ladd, 1) := by decide +kernel
theorem dL_now_54 : decode cL_now 54 = .ok (.lstore_n 1, 1) := by decide +kernel
theorem dL_now_55 : decode cL_now 55 = .ok (.iinc 4 1, 3) := by decide +kernel
theorem dL_now_58 : decode cL_now 58 = .ok (.goto (-28), 3) := by decide +kernel
theorem dL_now_61 : decode cL_now 61 = .ok (.iinc 3 1, 3) := by decide +kernel
theorem dL_now_64 : decode cL_now 64 = .ok (.goto (-60), 3) := by decide +kernel
theorem dL_now_67 : decode cL_now 67 = .ok (.lload_n 1, 1) := by decide +kernel
theorem dL_now_68 : decode cL_now 68 = .ok (.lreturn, 1) := by decide +kernel
theorem dL_alike_0 : decode cL_alike 0 = .ok (.aload_n 0, 1) := by decide +kernel
theorem dL_alike_1 : decode cL_alike 1 = .ok (.invokestatic 147, 3) := by decide +kernel
theorem dL_alike_4 : decode cL_alike 4 = .ok (.aload_n 1, 1) := by decide +kernel
theorem dL_alike_5 : decode cL_alike 5 = .ok (.invokestatic 147, 3) := by decide +kernel
theorem dL_alike_8 : decode cL_alike 8 = .ok (.lcmp, 1) := by decide +kernel
theorem dL_alike_9 : decode cL_alike 9 = .ok (.ifCond .ne 39, 3) := by decide +kernel
theorem dL_alike_12 : decode cL_alike 12 = .ok (.aload_n 0, 1) := by decide +kernel
theorem dL_alike_13 : decode cL_alike 13 = .ok (.invokevirtual 151, 3) := by decide +kernel
theorem dL_alike_16 : decode cL_alike 16 = .ok (.aload_n 1, 1) := by decide +kernel
theorem dL_alike_17 : decode cL_alike 17 = .ok (.invokevirtual 151, 3) := by decide +kernel
theorem dL_alike_20 : decode cL_alike 20 = .ok (.if_icmp .ne 28, 3) := by decide +kernel
theorem dL_alike_23 : decode cL_alike 23 = .ok (.aload_n 0, 1) := by decide +kernel
theorem dL_alike_24 : decode cL_alike 24 = .ok (.ldc2_w 154, 3) := by decide +kernel
theorem dL_alike_27 : decode cL_alike 27 = .ok (.bipush 9, 2) := by decide +kernel
theorem dL_alike_29 : decode cL_alike 29 = .ok (.invokevirtual 103, 3) := by decide +kernel
theorem dL_alike_32 : decode cL_alike 32 = .ok (.aload_n 1, 1) := by decide +kernel
theorem dL_alike_33 : decode cL_alike 33 = .ok (.ldc2_w 154, 3) := by decide +kernel
theorem dL_alike_36 : decode cL_alike 36 = .ok (.bipush 9, 2) := by decide +kernel
theorem dL_alike_38 : decode cL_alike 38 = .ok (.invokevirtual 103, 3) := by decide +kernel
theorem dL_alike_41 : decode cL_alike 41 = .ok (.if_icmp .ne 7, 3) := by decide +kernel
theorem dL_alike_44 : decode cL_alike 44 = .ok (.iconst 1, 1) := by decide +kernel
theorem dL_alike_45 : decode cL_alike 45 = .ok (.goto 4, 3) := by decide +kernel
theorem dL_alike_48 : decode cL_alike 48 = .ok (.iconst 0, 1) := by decide +kernel
theorem dL_alike_49 : decode cL_alike 49 = .ok (.istore_n 2, 1) := by decide +kernel
theorem dL_alike_50 : decode cL_alike 50 = .ok (.iconst 0, 1) := by decide +kernel
theorem dL_alike_51 : decode cL_alike 51 = .ok (.istore_n 3, 1) := by decide +kernel
theorem dL_alike_52 : decode cL_alike 52 = .ok (.iload_n 3, 1) := by decide +kernel
theorem dL_alike_53 : decode cL_alike 53 = .ok (.bipush 12, 2) := by decide +kernel
theorem dL_alike_55 : decode cL_alike 55 = .ok (.if_icmp .ge 242, 3) := by decide +kernel
theorem dL_alike_58 : decode cL_alike 58 = .ok (.iload_n 2, 1) := by decide +kernel
theorem dL_alike_59 : decode cL_alike 59 = .ok (.ifCond .eq 230, 3) := by decide +kernel
theorem dL_alike_62 : decode cL_alike 62 = .ok (.aload_n 0, 1) := by decide +kernel
theorem dL_alike_63 : decode cL_alike 63 = .ok (.iload_n 3, 1) := by decide +kernel
theorem dL_alike_64 : decode cL_alike 64 = .ok (.invokevirtual 28, 3) := by decide +kernel
theorem dL_alike_67 : decode cL_alike 67 = .ok (.aload_n 1, 1) := by decide +kernel
theorem dL_alike_68 : decode cL_alike 68 = .ok (.iload_n 3, 1) := by decide +kernel
theorem dL_alike_69 : decode cL_alike 69 = .ok (.invokevirtual 28, 3) := by decide +kernel
theorem dL_alike_72 : decode cL_alike 72 = .ok (.if_icmp .ne 217, 3) := by decide +kernel
theorem dL_alike_75 : decode cL_alike 75 = .ok (.aload_n 0, 1) := by decide +kernel
theorem dL_alike_76 : decode cL_alike 76 = .ok (.iload_n 3, 1) := by decide +kernel
theorem dL_alike_77 : decode cL_alike 77 = .ok (.invokevirtual 50, 3) := by decide +kernel
theorem dL_alike_80 : decode cL_alike 80 = .ok (.aload_n 1, 1) := by decide +kernel
theorem dL_alike_81 : decode cL_alike 81 = .ok (.iload_n 3, 1) := by decide +kernel
theorem dL_alike_82 : decode cL_alike 82 = .ok (.invokevirtual 50, 3) := by decide +kernel
theorem dL_alike_85 : decode cL_alike 85 = .ok (.if_icmp .ne 204, 3) := by decide +kernel
theorem dL_alike_88 : decode cL_alike 88 = .ok (.aload_n 0, 1) := by decide +kernel
theorem dL_alike_89 : decode cL_alike 89 = .ok (.iload_n 3, 1) := by decide +kernel
theorem dL_alike_90 : decode cL_alike 90 = .ok (.invokevirtual 53, 3) := by decide +kernel
theorem dL_alike_93 : decode cL_alike 93 = .ok (.aload_n 1, 1) := by decide +kernel
theorem dL_alike_94 : decode cL_alike 94 = .ok (.iload_n 3, 1) := by decide +kernel
theorem dL_alike_95 : decode cL_alike 95 = .ok (.invokevirtual 53, 3) := by decide +kernel
theorem dL_alike_98 : decode cL_alike 98 = .ok (.if_icmp .ne 191, 3) := by decide +kernel
theorem dL_alike_101 : decode cL_alike 101 = .ok (.aload_n 0, 1) := by decide +kernel
theorem dL_alike_102 : decode cL_alike 102 = .ok (.iload_n 3, 1) := by decide +kernel
theorem dL_alike_103 : decode cL_alike 103 = .ok (.iload_n 3, 1) := by decide +kernel
theorem dL_alike_104 : decode cL_alike 104 = .ok (.iconst 2, 1) := by decide +kernel
theorem dL_alike_105 : decode cL_alike 105 = .ok (.irem, 1) := by decide +kernel
theorem dL_alike_106 : decode cL_alike 106 = .ok (.invokevirtual 56, 3) := by decide +kernel
theorem dL_alike_109 : decode cL_alike 109 = .ok (.aload_n 1, 1) := by decide +kernel
theorem dL_alike_110 : decode cL_alike 110 = .ok (.iload_n 3, 1) := by decide +kernel
theorem dL_alike_111 : decode cL_alike 111 = .ok (.iload_n 3, 1) := by decide +kernel
theorem dL_alike_112 : decode cL_alike 112 = .ok (.iconst 2, 1) := by decide +kernel
theorem dL_alike_113 : decode cL_alike 113 = .ok (.irem, 1) := by decide +kernel
theorem dL_alike_114 : decode cL_alike 114 = .ok (.invokevirtual 56, 3) := by decide +kernel
theorem dL_alike_117 : decode cL_alike 117 = .ok (.if_icmp .ne 172, 3) := by decide +kernel
theorem dL_alike_120 : decode cL_alike 120 = .ok (.aload_n 0, 1) := by decide +kernel
theorem dL_alike_121 : decode cL_alike 121 = .ok (.iload_n 3, 1) := by decide +kernel
theorem dL_alike_122 : decode cL_alike 122 = .ok (.invokevirtual 59, 3) := by decide +kernel
theorem dL_alike_125 : decode cL_alike 125 = .ok (.aload_n 1, 1) := by decide +kernel
theorem dL_alike_126 : decode cL_alike 126 = .ok (.iload_n 3, 1) := by decide +kernel
theorem dL_alike_127 : decode cL_alike 127 = .ok (.invokevirtual 59, 3) := by decide +kernel
theorem dL_alike_130 : decode cL_alike 130 = .ok (.if_icmp .ne 159, 3) := by decide +kernel
theorem dL_alike_133 : decode cL_alike 133 = .ok (.aload_n 0, 1) := by decide +kernel
theorem dL_alike_134 : decode cL_alike 134 = .ok (.iload_n 3, 1) := by decide +kernel
theorem dL_alike_135 : decode cL_alike 135 = .ok (.invokevirtual 62, 3) := by decide +kernel
theorem dL_alike_138 : decode cL_alike 138 = .ok (.aload_n 1, 1) := by decide +kernel
theorem dL_alike_139 : decode cL_alike 139 = .ok (.iload_n 3, 1) := by decide +kernel
theorem dL_alike_140 : decode cL_alike 140 = .ok (.invokevirtual 62, 3) := by decide +kernel
theorem dL_alike_143 : decode cL_alike 143 = .ok (.if_icmp .ne 146, 3) := by decide +kernel
theorem dL_alike_146 : decode cL_alike 146 = .ok (.aload_n 0, 1) := by decide +kernel
theorem dL_alike_147 : decode cL_alike 147 = .ok (.iload_n 3, 1) := by decide +kernel
theorem dL_alike_148 : decode cL_alike 148 = .ok (.invokevirtual 65, 3) := by decide +kernel
theorem dL_alike_151 : decode cL_alike 151 = .ok (.aload_n 1, 1) := by decide +kernel
theorem dL_alike_152 : decode cL_alike 152 = .ok (.iload_n 3, 1) := by decide +kernel
theorem dL_alike_153 : decode cL_alike 153 = .ok (.invokevirtual 65, 3) := by decide +kernel
theorem dL_alike_156 : decode cL_alike 156 = .ok (.if_icmp .ne 133, 3) := by decide +kernel
theorem dL_alike_159 : decode cL_alike 159 = .ok (.aload_n 0, 1) := by decide +kernel
theorem dL_alike_160 : decode cL_alike 160 = .ok (.iload_n 3, 1) := by decide +kernel
theorem dL_alike_161 : decode cL_alike 161 = .ok (.invokevirtual 71, 3) := by decide +kernel
theorem dL_alike_164 : decode cL_alike 164 = .ok (.aload_n 1, 1) := by decide +kernel
theorem dL_alike_165 : decode cL_alike 165 = .ok (.iload_n 3, 1) := by decide +kernel
theorem dL_alike_166 : decode cL_alike 166 = .ok (.invokevirtual 71, 3) := by decide +kernel
theorem dL_alike_169 : decode cL_alike 169 = .ok (.if_icmp .ne 120, 3) := by decide +kernel
theorem dL_alike_172 : decode cL_alike 172 = .ok (.aload_n 0, 1) := by decide +kernel
theorem dL_alike_173 : decode cL_alike 173 = .ok (.iload_n 3, 1) := by decide +kernel
theorem dL_alike_174 : decode cL_alike 174 = .ok (.invokevirtual 74, 3) := by decide +kernel
theorem dL_alike_177 : decode cL_alike 177 = .ok (.aload_n 1, 1) := by decide +kernel
theorem dL_alike_178 : decode cL_alike 178 = .ok (.iload_n 3, 1) := by decide +kernel
theorem dL_alike_179 : decode cL_alike 179 = .ok (.invokevirtual 74, 3) := by decide +kernel
theorem dL_alike_182 : decode cL_alike 182 = .ok (.if_icmp .ne 107, 3) := by decide +kernel
theorem dL_alike_185 : decode cL_alike 185 = .ok (.aload_n 0, 1) := by decide +kernel
theorem dL_alike_186 : decode cL_alike 186 = .ok (.iload_n 3, 1) := by decide +kernel
theorem dL_alike_187 : decode cL_alike 187 = .ok (.invokevirtual 77, 3) := by decide +kernel
theorem dL_alike_190 : decode cL_alike 190 = .ok (.aload_n 1, 1) := by decide +kernel
theorem dL_alike_191 : decode cL_alike 191 = .ok (.iload_n 3, 1) := by decide +kernel
theorem dL_alike_192 : decode cL_alike 192 = .ok (.invokevirtual 77, 3) := by decide +kernel
theorem dL_alike_195 : decode cL_alike 195 = .ok (.if_icmp .ne 94, 3) := by decide +kernel
theorem dL_alike_198 : decode cL_alike 198 = .ok (.aload_n 0, 1) := by decide +kernel
theorem dL_alike_199 : decode cL_alike 199 = .ok (.iload_n 3, 1) := by decide +kernel
theorem dL_alike_200 : decode cL_alike 200 = .ok (.invokevirtual 80, 3) := by decide +kernel
theorem dL_alike_203 : decode cL_alike 203 = .ok (.aload_n 1, 1) := by decide +kernel
theorem dL_alike_204 : decode cL_alike 204 = .ok (.iload_n 3, 1) := by decide +kernel
theorem dL_alike_205 : decode cL_alike 205 = .ok (.invokevirtual 80, 3) := by decide +kernel
theorem dL_alike_208 : decode cL_alike 208 = .ok (.if_icmp .ne 81, 3) := by decide +kernel
theorem dL_alike_211 : decode cL_alike 211 = .ok (.aload_n 0, 1) := by decide +kernel
theorem dL_alike_212 : decode cL_alike 212 = .ok (.iload_n 3, 1) := by decide +kernel
theorem dL_alike_213 : decode cL_alike 213 = .ok (.iload_n 3, 1) := by decide +kernel
theorem dL_alike_214 : decode cL_alike 214 = .ok (.bipush 11, 2) := by decide +kernel
theorem dL_alike_216 : decode cL_alike 216 = .ok (.irem, 1) := by decide +kernel
theorem dL_alike_217 : decode cL_alike 217 = .ok (.invokevirtual 83, 3) := by decide +kernel
theorem dL_alike_220 : decode cL_alike 220 = .ok (.aload_n 1, 1) := by decide +kernel
theorem dL_alike_221 : decode cL_alike 221 = .ok (.iload_n 3, 1) := by decide +kernel
theorem dL_alike_222 : decode cL_alike 222 = .ok (.iload_n 3, 1) := by decide +kernel
theorem dL_alike_223 : decode cL_alike 223 = .ok (.bipush 11, 2) := by decide +kernel
theorem dL_alike_225 : decode cL_alike 225 = .ok (.irem, 1) := by decide +kernel
theorem dL_alike_226 : decode cL_alike 226 = .ok (.invokevirtual 83, 3) := by decide +kernel
theorem dL_alike_229 : decode cL_alike 229 = .ok (.lcmp, 1) := by decide +kernel
theorem dL_alike_230 : decode cL_alike 230 = .ok (.ifCond .ne 59, 3) := by decide +kernel
theorem dL_alike_233 : decode cL_alike 233 = .ok (.aload_n 0, 1) := by decide +kernel
theorem dL_alike_234 : decode cL_alike 234 = .ok (.iload_n 3, 1) := by decide +kernel
theorem dL_alike_235 : decode cL_alike 235 = .ok (.iconst 5, 1) := by decide +kernel
theorem dL_alike_236 : decode cL_alike 236 = .ok (.iload_n 3, 1) := by decide +kernel
theorem dL_alike_237 : decode cL_alike 237 = .ok (.iconst 3, 1) := by decide +kernel
theorem dL_alike_238 : decode cL_alike 238 = .ok (.iadd, 1) := by decide +kernel
theorem dL_alike_239 : decode cL_alike 239 = .ok (.bipush 12, 2) := by decide +kernel
theorem dL_alike_241 : decode cL_alike 241 = .ok (.irem, 1) := by decide +kernel
theorem dL_alike_242 : decode cL_alike 242 = .ok (.invokevirtual 68, 3) := by decide +kernel
theorem dL_alike_245 : decode cL_alike 245 = .ok (.aload_n 1, 1) := by decide +kernel
theorem dL_alike_246 : decode cL_alike 246 = .ok (.iload_n 3, 1) := by decide +kernel
theorem dL_alike_247 : decode cL_alike 247 = .ok (.iconst 5, 1) := by decide +kernel
theorem dL_alike_248 : decode cL_alike 248 = .ok (.iload_n 3, 1) := by decide +kernel
theorem dL_alike_249 : decode cL_alike 249 = .ok (.iconst 3, 1) := by decide +kernel
theorem dL_alike_250 : decode cL_alike 250 = .ok (.iadd, 1) := by decide +kernel
theorem dL_alike_251 : decode cL_alike 251 = .ok (.bipush 12, 2) := by decide +kernel
theorem dL_alike_253 : decode cL_alike 253 = .ok (.irem, 1) := by decide +kernel
theorem dL_alike_254 : decode cL_alike 254 = .ok (.invokevirtual 68, 3) := by decide +kernel
theorem dL_alike_257 : decode cL_alike 257 = .ok (.if_icmp .ne 32, 3) := by decide +kernel
theorem dL_alike_260 : decode cL_alike 260 = .ok (.aload_n 0, 1) := by decide +kernel
theorem dL_alike_261 : decode cL_alike 261 = .ok (.iload_n 3, 1) := by decide +kernel
theorem dL_alike_262 : decode cL_alike 262 = .ok (.iload_n 3, 1) := by decide +kernel
theorem dL_alike_263 : decode cL_alike 263 = .ok (.iconst 1, 1) := by decide +kernel
theorem dL_alike_264 : decode cL_alike 264 = .ok (.iadd, 1) := by decide +kernel
theorem dL_alike_265 : decode cL_alike 265 = .ok (.bipush 12, 2) := by decide +kernel
theorem dL_alike_267 : decode cL_alike 267 = .ok (.irem, 1) := by decide +kernel
theorem dL_alike_268 : decode cL_alike 268 = .ok (.invokevirtual 94, 3) := by decide +kernel
theorem dL_alike_271 : decode cL_alike 271 = .ok (.aload_n 1, 1) := by decide +kernel
theorem dL_alike_272 : decode cL_alike 272 = .ok (.iload_n 3, 1) := by decide +kernel
theorem dL_alike_273 : decode cL_alike 273 = .ok (.iload_n 3, 1) := by decide +kernel
theorem dL_alike_274 : decode cL_alike 274 = .ok (.iconst 1, 1) := by decide +kernel
theorem dL_alike_275 : decode cL_alike 275 = .ok (.iadd, 1) := by decide +kernel
theorem dL_alike_276 : decode cL_alike 276 = .ok (.bipush 12, 2) := by decide +kernel
theorem dL_alike_278 : decode cL_alike 278 = .ok (.irem, 1) := by decide +kernel
theorem dL_alike_279 : decode cL_alike 279 = .ok (.invokevirtual 94, 3) := by decide +kernel
theorem dL_alike_282 : decode cL_alike 282 = .ok (.if_icmp .ne 7, 3) := by decide +kernel
theorem dL_alike_285 : decode cL_alike 285 = .ok (.iconst 1, 1) := by decide +kernel
theorem dL_alike_286 : decode cL_alike 286 = .ok (.goto 4, 3) := by decide +kernel
theorem dL_alike_289 : decode cL_alike 289 = .ok (.iconst 0, 1) := by decide +kernel
theorem dL_alike_290 : decode cL_alike 290 = .ok (.istore_n 2, 1) := by decide +kernel
theorem dL_alike_291 : decode cL_alike 291 = .ok (.iinc 3 1, 3) := by decide +kernel
theorem dL_alike_294 : decode cL_alike 294 = .ok (.goto (-242), 3) := by decide +kernel
theorem dL_alike_297 : decode cL_alike 297 = .ok (.iload_n 2, 1) := by decide +kernel
theorem dL_alike_298 : decode cL_alike 298 = .ok (.ireturn, 1) := by decide +kernel
theorem dL_built_0 : decode cL_built 0 = .ok (.aload_n 0, 1) := by decide +kernel
theorem dL_built_1 : decode cL_built 1 = .ok (.invokestatic 15, 3) := by decide +kernel
theorem dL_built_4 : decode cL_built 4 = .ok (.istore_n 2, 1) := by decide +kernel
theorem dL_built_5 : decode cL_built 5 = .ok (.iload_n 1, 1) := by decide +kernel
theorem dL_built_6 : decode cL_built 6 = .ok (.iload_n 2, 1) := by decide +kernel
theorem dL_built_7 : decode cL_built 7 = .ok (.irem, 1) := by decide +kernel
theorem dL_built_8 : decode cL_built 8 = .ok (.istore_n 3, 1) := by decide +kernel
theorem dL_built_9 : decode cL_built 9 = .ok (.aload_n 0, 1) := by decide +kernel
theorem dL_built_10 : decode cL_built 10 = .ok (.iload_n 3, 1) := by decide +kernel
theorem dL_built_11 : decode cL_built 11 = .ok (.invokevirtual 77, 3) := by decide +kernel
theorem dL_built_14 : decode cL_built 14 = .ok (.istore 4, 2) := by decide +kernel
theorem dL_built_16 : decode cL_built 16 = .ok (.iconst 0, 1) := by decide +kernel
theorem dL_built_17 : decode cL_built 17 = .ok (.istore 5, 2) := by decide +kernel
theorem dL_built_19 : decode cL_built 19 = .ok (.iconst 0, 1) := by decide +kernel
theorem dL_built_20 : decode cL_built 20 = .ok (.istore 6, 2) := by decide +kernel
theorem dL_built_22 : decode cL_built 22 = .ok (.lconst 0, 1) := by decide +kernel
theorem dL_built_23 : decode cL_built 23 = .ok (.lstore 7, 2) := by decide +kernel
theorem dL_built_25 : decode cL_built 25 = .ok (.iconst 0, 1) := by decide +kernel
theorem dL_built_26 : decode cL_built 26 = .ok (.istore 9, 2) := by decide +kernel
theorem dL_built_28 : decode cL_built 28 = .ok (.iconst 0, 1) := by decide +kernel
theorem dL_built_29 : decode cL_built 29 = .ok (.istore 10, 2) := by decide +kernel
theorem dL_built_31 : decode cL_built 31 = .ok (.aload_n 0, 1) := by decide +kernel
theorem dL_built_32 : decode cL_built 32 = .ok (.iload_n 3, 1) := by decide +kernel
theorem dL_built_33 : decode cL_built 33 = .ok (.invokevirtual 28, 3) := by decide +kernel
theorem dL_built_36 : decode cL_built 36 = .ok (.iload_n 3, 1) := by decide +kernel
theorem dL_built_37 : decode cL_built 37 = .ok (.if_icmp .gt 30, 3) := by decide +kernel
theorem dL_built_40 : decode cL_built 40 = .ok (.aload_n 0, 1) := by decide +kernel
theorem dL_built_41 : decode cL_built 41 = .ok (.iload_n 3, 1) := by decide +kernel
theorem dL_built_42 : decode cL_built 42 = .ok (.iload_n 3, 1) := by decide +kernel
theorem dL_built_43 : decode cL_built 43 = .ok (.invokevirtual 44, 3) := by decide +kernel
theorem dL_built_46 : decode cL_built 46 = .ok (.ifCond .ne 21, 3) := by decide +kernel
theorem dL_built_49 : decode cL_built 49 = .ok (.aload_n 0, 1) := by decide +kernel
theorem dL_built_50 : decode cL_built 50 = .ok (.iload 4, 2) := by decide +kernel
theorem dL_built_52 : decode cL_built 52 = .ok (.invokevirtual 28, 3) := by decide +kernel
theorem dL_built_55 : decode cL_built 55 = .ok (.aload_n 0, 1) := by decide +kernel
theorem dL_built_56 : decode cL_built 56 = .ok (.iload_n 3, 1) := by decide +kernel
theorem dL_built_57 : decode cL_built 57 = .ok (.invokevirtual 28, 3) := by decide +kernel
theorem dL_built_60 : decode cL_built 60 = .ok (.if_icmp .ne 7, 3) := by decide +kernel
theorem dL_built_63 : decode cL_built 63 = .ok (.iconst 1, 1) := by decide +kernel
theorem dL_built_64 : decode cL_built 64 = .ok (.goto 4, 3) := by decide +kernel
theorem dL_built_67 : decode cL_built 67 = .ok (.iconst 0, 1) := by decide +kernel
theorem dL_built_68 : decode cL_built 68 = .ok (.istore 11, 2) := by decide +kernel
theorem dL_built_70 : decode cL_built 70 = .ok (.iconst 0, 1) := by decide +kernel
theorem dL_built_71 : decode cL_built 71 = .ok (.istore 12, 2) := by decide +kernel
theorem dL_built_73 : decode cL_built 73 = .ok (.iload 12, 2) := by decide +kernel
theorem dL_built_75 : decode cL_built 75 = .ok (.iload_n 2, 1) := by decide +kernel
theorem dL_built_76 : decode cL_built 76 = .ok (.if_icmp .ge 670, 3) := by decide +kernel
theorem dL_built_79 : decode cL_built 79 = .ok (.iload 11, 2) := by decide +kernel
theorem dL_built_81 : decode cL_built 81 = .ok (.ifCond .eq 665, 3) := by decide +kernel
theorem dL_built_84 : decode cL_built 84 = .ok (.aload_n 0, 1) := by decide +kernel
theorem dL_built_85 : decode cL_built 85 = .ok (.iload_n 3, 1) := by decide +kernel
theorem dL_built_86 : decode cL_built 86 = .ok (.iload 12, 2) := by decide +kernel
theorem dL_built_88 : decode cL_built 88 = .ok (.invokevirtual 44, 3) := by decide +kernel
theorem dL_built_91 : decode cL_built 91 = .ok (.istore 13, 2) := by decide +kernel
theorem dL_built_93 : decode cL_built 93 = .ok (.aload_n 0, 1) := by decide +kernel
theorem dL_built_94 : decode cL_built 94 = .ok (.iload_n 3, 1) := by decide +kernel
theorem dL_built_95 : decode cL_built 95 = .ok (.invokevirtual 28, 3) := by decide +kernel
theorem dL_built_98 : decode cL_built 98 = .ok (.aload_n 0, 1) := by decide +kernel
theorem dL_built_99 : decode cL_built 99 = .ok (.iload 12, 2) := by decide +kernel
theorem dL_built_101 : decode cL_built 101 = .ok (.invokevirtual 28, 3) := by decide +kernel
theorem dL_built_104 : decode cL_built 104 = .ok (.if_icmp .ne 7, 3) := by decide +kernel
theorem dL_built_107 : decode cL_built 107 = .ok (.iconst 1, 1) := by decide +kernel
theorem dL_built_108 : decode cL_built 108 = .ok (.goto 4, 3) := by decide +kernel
theorem dL_built_111 : decode cL_built 111 = .ok (.iconst 0, 1) := by decide +kernel
theorem dL_built_112 : decode cL_built 112 = .ok (.istore 14, 2) := by decide +kernel
theorem dL_built_114 : decode cL_built 114 = .ok (.iload 14, 2) := by decide +kernel
theorem dL_built_116 : decode cL_built 116 = .ok (.iload 13, 2) := by decide +kernel
theorem dL_built_118 : decode cL_built 118 = .ok (.bipush (-9), 2) := by decide +kernel
theorem dL_built_120 : decode cL_built 120 = .ok (.if_icmp .eq 7, 3) := by decide +kernel
theorem dL_built_123 : decode cL_built 123 = .ok (.iconst 1, 1) := by decide +kernel
theorem dL_built_124 : decode cL_built 124 = .ok (.goto 4, 3) := by decide +kernel
theorem dL_built_127 : decode cL_built 127 = .ok (.iconst 0, 1) := by decide +kernel
theorem dL_built_128 : decode cL_built 128 = .ok (.if_icmp .ne 48, 3) := by decide +kernel
theorem dL_built_131 : decode cL_built 131 = .ok (.iload 13, 2) := by decide +kernel
theorem dL_built_133 : decode cL_built 133 = .ok (.aload_n 0, 1) := by decide +kernel
theorem dL_built_134 : decode cL_built 134 = .ok (.iload 12, 2) := by decide +kernel
theorem dL_built_136 : decode cL_built 136 = .ok (.iload_n 3, 1) := by decide +kernel
theorem dL_built_137 : decode cL_built 137 = .ok (.invokevirtual 44, 3) := by decide +kernel
theorem dL_built_140 : decode cL_built 140 = .ok (.if_icmp .ne 36, 3) := by decide +kernel
theorem dL_built_143 : decode cL_built 143 = .ok (.iload 13, 2) := by decide +kernel
theorem dL_built_145 : decode cL_built 145 = .ok (.ifCond .le 7, 3) := by decide +kernel
theorem dL_built_148 : decode cL_built 148 = .ok (.iconst 1, 1) := by decide +kernel
theorem dL_built_149 : decode cL_built 149 = .ok (.goto 4, 3) := by decide +kernel
theorem dL_built_152 : decode cL_built 152 = .ok (.iconst 0, 1) := by decide +kernel
theorem dL_built_153 : decode cL_built 153 = .ok (.iload 14, 2) := by decide +kernel
theorem dL_built_155 : decode cL_built 155 = .ok (.ifCond .eq 13, 3) := by decide +kernel
theorem dL_built_158 : decode cL_built 158 = .ok (.iload_n 3, 1) := by decide +kernel
theorem dL_built_159 : decode cL_built 159 = .ok (.iload 12, 2) := by decide +kernel
theorem dL_built_161 : decode cL_built 161 = .ok (.if_icmp .eq 7, 3) := by decide +kernel
theorem dL_built_164 : decode cL_built 164 = .ok (.iconst 1, 1) := by decide +kernel
theorem dL_built_165 : decode cL_built 165 = .ok (.goto 4, 3) := by decide +kernel
theorem dL_built_168 : decode cL_built 168 = .ok (.iconst 0, 1) := by decide +kernel
theorem dL_built_169 : decode cL_built 169 = .ok (.if_icmp .ne 7, 3) := by decide +kernel
theorem dL_built_172 : decode cL_built 172 = .ok (.iconst 1, 1) := by decide +kernel
theorem dL_built_173 : decode cL_built 173 = .ok (.goto 4, 3) := by decide +kernel
theorem dL_built_176 : decode cL_built 176 = .ok (.iconst 0, 1) := by decide +kernel
theorem dL_built_177 : decode cL_built 177 = .ok (.istore 11, 2) := by decide +kernel
theorem dL_built_179 : decode cL_built 179 = .ok (.iload 14, 2) := by decide +kernel
theorem dL_built_181 : decode cL_built 181 = .ok (.ifCond .ne 44, 3) := by decide +kernel
theorem dL_built_184 : decode cL_built 184 = .ok (.iload 11, 2) := by decide +kernel
theorem dL_built_186 : decode cL_built 186 = .ok (.ifCond .eq 33, 3) := by decide +kernel
theorem dL_built_189 : decode cL_built 189 = .ok (.aload_n 0, 1) := by decide +kernel
theorem dL_built_190 : decode cL_built 190 = .ok (.iload_n 3, 1) := by decide +kernel
theorem dL_built_191 : decode cL_built 191 = .ok (.iload 12, 2) := by decide +kernel
theorem dL_built_193 : decode cL_built 193 = .ok (.iload_n 3, 1) := by decide +kernel
theorem dL_built_194 : decode cL_built 194 = .ok (.invokevirtual 68, 3) := by decide +kernel
theorem dL_built_197 : decode cL_built 197 = .ok (.bipush (-9), 2) := by decide +kernel
theorem dL_built_199 : decode cL_built 199 = .ok (.if_icmp .ne 20, 3) := by decide +kernel
theorem dL_built_202 : decode cL_built 202 = .ok (.aload_n 0, 1) := by decide +kernel
theorem dL_built_203 : decode cL_built 203 = .ok (.iload_n 3, 1) := by decide +kernel
theorem dL_built_204 : decode cL_built 204 = .ok (.iload 12, 2) := by decide +kernel
theorem dL_built_206 : decode cL_built 206 = .ok (.iconst 0, 1) := by decide +kernel
theorem dL_built_207 : decode cL_built 207 = .ok (.invokevirtual 47, 3) := by decide +kernel
theorem dL_built_210 : decode cL_built 210 = .ok (.bipush (-9), 2) := by decide +kernel
theorem dL_built_212 : decode cL_built 212 = .ok (.if_icmp .ne 7, 3) := by decide +kernel
theorem dL_built_215 : decode cL_built 215 = .ok (.iconst 1, 1) := by decide +kernel
theorem dL_built_216 : decode cL_built 216 = .ok (.goto 4, 3) := by decide +kernel
theorem dL_built_219 : decode cL_built 219 = .ok (.iconst 0, 1) := by decide +kernel
theorem dL_built_220 : decode cL_built 220 = .ok (.istore 11, 2) := by decide +kernel
theorem dL_built_222 : decode cL_built 222 = .ok (.goto 518, 3) := by decide +kernel
theorem dL_built_225 : decode cL_built 225 = .ok (.iload 13, 2) := by decide +kernel
theorem dL_built_227 : decode cL_built 227 = .ok (.iload 10, 2) := by decide +kernel
theorem dL_built_229 : decode cL_built 229 = .ok (.if_icmp .le 8, 3) := by decide +kernel
theorem dL_built_232 : decode cL_built 232 = .ok (.iload 13, 2) := by decide +kernel
theorem dL_built_234 : decode cL_built 234 = .ok (.goto 5, 3) := by decide +kernel
theorem dL_built_237 : decode cL_built 237 = .ok (.iload 10, 2) := by decide +kernel
theorem dL_built_239 : decode cL_built 239 = .ok (.istore 10, 2) := by decide +kernel
theorem dL_built_241 : decode cL_built 241 = .ok (.iload 9, 2) := by decide +kernel
theorem dL_built_243 : decode cL_built 243 = .ok (.iload 13, 2) := by decide +kernel
theorem dL_built_245 : decode cL_built 245 = .ok (.aload_n 0, 1) := by decide +kernel
theorem dL_built_246 : decode cL_built 246 = .ok (.iload 12, 2) := by decide +kernel
theorem dL_built_248 : decode cL_built 248 = .ok (.invokevirtual 9, 3) := by decide +kernel
theorem dL_built_251 : decode cL_built 251 = .ok (.imul, 1) := by decide +kernel
theorem dL_built_252 : decode cL_built 252 = .ok (.iadd, 1) := by decide +kernel
theorem dL_built_253 : decode cL_built 253 = .ok (.istore 9, 2) := by decide +kernel
theorem dL_built_255 : decode cL_built 255 = .ok (.iconst 0, 1) := by decide +kernel
theorem dL_built_256 : decode cL_built 256 = .ok (.istore 15, 2) := by decide +kernel
theorem dL_built_258 : decode cL_built 258 = .ok (.iload_n 3, 1) := by decide +kernel
theorem dL_built_259 : decode cL_built 259 = .ok (.istore 16, 2) := by decide +kernel
theorem dL_built_261 : decode cL_built 261 = .ok (.iconst 0, 1) := by decide +kernel
theorem dL_built_262 : decode cL_built 262 = .ok (.istore 17, 2) := by decide +kernel
theorem dL_built_264 : decode cL_built 264 = .ok (.iload 16, 2) := by decide +kernel
theorem dL_built_266 : decode cL_built 266 = .ok (.iload 12, 2) := by decide +kernel
theorem dL_built_268 : decode cL_built 268 = .ok (.if_icmp .eq 78, 3) := by decide +kernel
theorem dL_built_271 : decode cL_built 271 = .ok (.iload 11, 2) := by decide +kernel
theorem dL_built_273 : decode cL_built 273 = .ok (.ifCond .eq 73, 3) := by decide +kernel
theorem dL_built_276 : decode cL_built 276 = .ok (.iinc 17 1, 3) := by decide +kernel
theorem dL_built_279 : decode cL_built 279 = .ok (.aload_n 0, 1) := by decide +kernel
theorem dL_built_280 : decode cL_built 280 = .ok (.iload_n 3, 1) := by decide +kernel
theorem dL_built_281 : decode cL_built 281 = .ok (.iload 12, 2) := by decide +kernel
theorem dL_built_283 : decode cL_built 283 = .ok (.iload 17, 2) := by decide +kernel
theorem dL_built_285 : decode cL_built 285 = .ok (.invokevirtual 47, 3) := by decide +kernel
theorem dL_built_288 : decode cL_built 288 = .ok (.istore 18, 2) := by decide +kernel
theorem dL_built_290 : decode cL_built 290 = .ok (.iload 18, 2) := by decide +kernel
theorem dL_built_292 : decode cL_built 292 = .ok (.ifCond .lt 31, 3) := by decide +kernel
theorem dL_built_295 : decode cL_built 295 = .ok (.aload_n 0, 1) := by decide +kernel
theorem dL_built_296 : decode cL_built 296 = .ok (.iload 16, 2) := by decide +kernel
theorem dL_built_298 : decode cL_built 298 = .ok (.iload 18, 2) := by decide +kernel
theorem dL_built_300 : decode cL_built 300 = .ok (.invokevirtual 24, 3) := by decide +kernel
theorem dL_built_303 : decode cL_built 303 = .ok (.ifCond .le 20, 3) := by decide +kernel
theorem dL_built_306 : decode cL_built 306 = .ok (.aload_n 0, 1) := by decide +kernel
theorem dL_built_307 : decode cL_built 307 = .ok (.iload 12, 2) := by decide +kernel
theorem dL_built_309 : decode cL_built 309 = .ok (.iload_n 3, 1) := by decide +kernel
theorem dL_built_310 : decode cL_built 310 = .ok (.iconst 0, 1) := by decide +kernel
theorem dL_built_311 : decode cL_built 311 = .ok (.invokevirtual 47, 3) := by decide +kernel
theorem dL_built_314 : decode cL_built 314 = .ok (.iload 12, 2) := by decide +kernel
theorem dL_built_316 : decode cL_built 316 = .ok (.if_icmp .ne 7, 3) := by decide +kernel
theorem dL_built_319 : decode cL_built 319 = .ok (.iconst 1, 1) := by decide +kernel
theorem dL_built_320 : decode cL_built 320 = .ok (.goto 4, 3) := by decide +kernel
theorem dL_built_323 : decode cL_built 323 = .ok (.iconst 0, 1) := by decide +kernel
theorem dL_built_324 : decode cL_built 324 = .ok (.istore 11, 2) := by decide +kernel
theorem dL_built_326 : decode cL_built 326 = .ok (.iload 15, 2) := by decide +kernel
theorem dL_built_328 : decode cL_built 328 = .ok (.aload_n 0, 1) := by decide +kernel
theorem dL_built_329 : decode cL_built 329 = .ok (.iload 16, 2) := by decide +kernel
theorem dL_built_331 : decode cL_built 331 = .ok (.iload 18, 2) := by decide +kernel
theorem dL_built_333 : decode cL_built 333 = .ok (.invokevirtual 24, 3) := by decide +kernel
theorem dL_built_336 : decode cL_built 336 = .ok (.iadd, 1) := by decide +kernel
theorem dL_built_337 : decode cL_built 337 = .ok (.istore 15, 2) := by decide +kernel
theorem dL_built_339 : decode cL_built 339 = .ok (.iload 18, 2) := by decide +kernel
theorem dL_built_341 : decode cL_built 341 = .ok (.istore 16, 2) := by decide +kernel
theorem dL_built_343 : decode cL_built 343 = .ok (.goto (-79), 3) := by decide +kernel
theorem dL_built_346 : decode cL_built 346 = .ok (.aload_n 0, 1) := by decide +kernel
theorem dL_built_347 : decode cL_built 347 = .ok (.iload 12, 2) := by decide +kernel
theorem dL_built_349 : decode cL_built 349 = .ok (.invokevirtual 9, 3) := by decide +kernel
theorem dL_built_352 : decode cL_built 352 = .ok (.i2l, 1) := by decide +kernel
theorem dL_built_353 : decode cL_built 353 = .ok (.lstore 18, 2) := by decide +kernel
theorem dL_built_355 : decode cL_built 355 = .ok (.iconst 0, 1) := by decide +kernel
theorem dL_built_356 : decode cL_built 356 = .ok (.istore 20, 2) := by decide +kernel
theorem dL_built_358 : decode cL_built 358 = .ok (.iload 20, 2) := by decide +kernel
theorem dL_built_360 : decode cL_built 360 = .ok (.bipush 11, 2) := by decide +kernel
theorem dL_built_362 : decode cL_built 362 = .ok (.if_icmp .ge 30, 3) := by decide +kernel
theorem dL_built_365 : decode cL_built 365 = .ok (.lload 18, 2) := by decide +kernel
theorem dL_built_367 : decode cL_built 367 = .ok (.iload 20, 2) := by decide +kernel
theorem dL_built_369 : decode cL_built 369 = .ok (.iload 17, 2) := by decide +kernel
theorem dL_built_371 : decode cL_built 371 = .ok (.if_icmp .ge 9, 3) := by decide +kernel
theorem dL_built_374 : decode cL_built 374 = .ok (.ldc2_w 156, 3) := by decide +kernel
theorem dL_built_377 : decode cL_built 377 = .ok (.goto 6, 3) := by decide +kernel
theorem dL_built_380 : decode cL_built 380 = .ok (.ldc2_w 158, 3) := by decide +kernel
theorem dL_built_383 : decode cL_built 383 = .ok (.lmul, 1) := by decide +kernel
theorem dL_built_384 : decode cL_built 384 = .ok (.lstore 18, 2) := by decide +kernel
theorem dL_built_386 : decode cL_built 386 = .ok (.iinc 20 1, 3) := by decide +kernel
theorem dL_built_389 : decode cL_built 389 = .ok (.goto (-31), 3) := by decide +kernel
theorem dL_built_392 : decode cL_built 392 = .ok (.lload 7, 2) := by decide +kernel
theorem dL_built_394 : decode cL_built 394 = .ok (.lload 18, 2) := by decide +kernel
theorem dL_built_396 : decode cL_built 396 = .ok (.ladd, 1) := by decide +kernel
theorem dL_built_397 : decode cL_built 397 = .ok (.lstore 7, 2) := by decide +kernel
theorem dL_built_399 : decode cL_built 399 = .ok (.iload 11, 2) := by decide +kernel
theorem dL_built_401 : decode cL_built 401 = .ok (.ifCond .eq 147, 3) := by decide +kernel
theorem dL_built_404 : decode cL_built 404 = .ok (.iload 15, 2) := by decide +kernel
theorem dL_built_406 : decode cL_built 406 = .ok (.iload 13, 2) := by decide +kernel
theorem dL_built_408 : decode cL_built 408 = .ok (.if_icmp .ne 140, 3) := by decide +kernel
theorem dL_built_411 : decode cL_built 411 = .ok (.aload_n 0, 1) := by decide +kernel
theorem dL_built_412 : decode cL_built 412 = .ok (.iload_n 3, 1) := by decide +kernel
theorem dL_built_413 : decode cL_built 413 = .ok (.iload 12, 2) := by decide +kernel
theorem dL_built_415 : decode cL_built 415 = .ok (.iload 17, 2) := by decide +kernel
theorem dL_built_417 : decode cL_built 417 = .ok (.iconst 1, 1) := by decide +kernel
theorem dL_built_418 : decode cL_built 418 = .ok (.iadd, 1) := by decide +kernel
theorem dL_built_419 : decode cL_built 419 = .ok (.invokevirtual 47, 3) := by decide +kernel
theorem dL_built_422 : decode cL_built 422 = .ok (.bipush (-9), 2) := by decide +kernel
theorem dL_built_424 : decode cL_built 424 = .ok (.if_icmp .ne 124, 3) := by decide +kernel
theorem dL_built_427 : decode cL_built 427 = .ok (.aload_n 0, 1) := by decide +kernel
theorem dL_built_428 : decode cL_built 428 = .ok (.iload 12, 2) := by decide +kernel
theorem dL_built_430 : decode cL_built 430 = .ok (.invokevirtual 53, 3) := by decide +kernel
theorem dL_built_433 : decode cL_built 433 = .ok (.aload_n 0, 1) := by decide +kernel
theorem dL_built_434 : decode cL_built 434 = .ok (.iload_n 3, 1) := by decide +kernel
theorem dL_built_435 : decode cL_built 435 = .ok (.invokevirtual 53, 3) := by decide +kernel
theorem dL_built_438 : decode cL_built 438 = .ok (.if_icmp .ne 110, 3) := by decide +kernel
theorem dL_built_441 : decode cL_built 441 = .ok (.aload_n 0, 1) := by decide +kernel
theorem dL_built_442 : decode cL_built 442 = .ok (.iload 12, 2) := by decide +kernel
theorem dL_built_444 : decode cL_built 444 = .ok (.invokevirtual 59, 3) := by decide +kernel
theorem dL_built_447 : decode cL_built 447 = .ok (.aload_n 0, 1) := by decide +kernel
theorem dL_built_448 : decode cL_built 448 = .ok (.iload_n 3, 1) := by decide +kernel
theorem dL_built_449 : decode cL_built 449 = .ok (.invokevirtual 59, 3) := by decide +kernel
theorem dL_built_452 : decode cL_built 452 = .ok (.if_icmp .ne 96, 3) := by decide +kernel
theorem dL_built_455 : decode cL_built 455 = .ok (.aload_n 0, 1) := by decide +kernel
theorem dL_built_456 : decode cL_built 456 = .ok (.iload 12, 2) := by decide +kernel
theorem dL_built_458 : decode cL_built 458 = .ok (.invokevirtual 62, 3) := by decide +kernel
theorem dL_built_461 : decode cL_built 461 = .ok (.aload_n 0, 1) := by decide +kernel
theorem dL_built_462 : decode cL_built 462 = .ok (.iload_n 3, 1) := by decide +kernel
theorem dL_built_463 : decode cL_built 463 = .ok (.invokevirtual 62, 3) := by decide +kernel
theorem dL_built_466 : decode cL_built 466 = .ok (.if_icmp .ne 82, 3) := by decide +kernel
theorem dL_built_469 : decode cL_built 469 = .ok (.aload_n 0, 1) := by decide +kernel
theorem dL_built_470 : decode cL_built 470 = .ok (.iload 12, 2) := by decide +kernel
theorem dL_built_472 : decode cL_built 472 = .ok (.invokevirtual 77, 3) := by decide +kernel
theorem dL_built_475 : decode cL_built 475 = .ok (.iload 4, 2) := by decide +kernel
theorem dL_built_477 : decode cL_built 477 = .ok (.if_icmp .ne 71, 3) := by decide +kernel
theorem dL_built_480 : decode cL_built 480 = .ok (.aload_n 0, 1) := by decide +kernel
theorem dL_built_481 : decode cL_built 481 = .ok (.iload 12, 2) := by decide +kernel
theorem dL_built_483 : decode cL_built 483 = .ok (.invokevirtual 71, 3) := by decide +kernel
theorem dL_built_486 : decode cL_built 486 = .ok (.aload_n 0, 1) := by decide +kernel
theorem dL_built_487 : decode cL_built 487 = .ok (.iload_n 3, 1) := by decide +kernel
theorem dL_built_488 : decode cL_built 488 = .ok (.invokevirtual 71, 3) := by decide +kernel
theorem dL_built_491 : decode cL_built 491 = .ok (.if_icmp .ne 57, 3) := by decide +kernel
theorem dL_built_494 : decode cL_built 494 = .ok (.aload_n 0, 1) := by decide +kernel
theorem dL_built_495 : decode cL_built 495 = .ok (.iload 12, 2) := by decide +kernel
theorem dL_built_497 : decode cL_built 497 = .ok (.invokevirtual 50, 3) := by decide +kernel
theorem dL_built_500 : decode cL_built 500 = .ok (.aload_n 0, 1) := by decide +kernel
theorem dL_built_501 : decode cL_built 501 = .ok (.aload_n 0, 1) := by decide +kernel
theorem dL_built_502 : decode cL_built 502 = .ok (.iload_n 3, 1) := by decide +kernel
theorem dL_built_503 : decode cL_built 503 = .ok (.invokevirtual 59, 3) := by decide +kernel
theorem dL_built_506 : decode cL_built 506 = .ok (.invokevirtual 50, 3) := by decide +kernel
theorem dL_built_509 : decode cL_built 509 = .ok (.if_icmp .lt 39, 3) := by decide +kernel
theorem dL_built_512 : decode cL_built 512 = .ok (.aload_n 0, 1) := by decide +kernel
theorem dL_built_513 : decode cL_built 513 = .ok (.iload 12, 2) := by decide +kernel
theorem dL_built_515 : decode cL_built 515 = .ok (.invokevirtual 65, 3) := by decide +kernel
theorem dL_built_518 : decode cL_built 518 = .ok (.aload_n 0, 1) := by decide +kernel
theorem dL_built_519 : decode cL_built 519 = .ok (.aload_n 0, 1) := by decide +kernel
theorem dL_built_520 : decode cL_built 520 = .ok (.iload_n 3, 1) := by decide +kernel
theorem dL_built_521 : decode cL_built 521 = .ok (.invokevirtual 62, 3) := by decide +kernel
theorem dL_built_524 : decode cL_built 524 = .ok (.invokevirtual 65, 3) := by decide +kernel
theorem dL_built_527 : decode cL_built 527 = .ok (.if_icmp .lt 21, 3) := by decide +kernel
theorem dL_built_530 : decode cL_built 530 = .ok (.aload_n 0, 1) := by decide +kernel
theorem dL_built_531 : decode cL_built 531 = .ok (.iload 12, 2) := by decide +kernel
theorem dL_built_533 : decode cL_built 533 = .ok (.invokevirtual 50, 3) := by decide +kernel
theorem dL_built_536 : decode cL_built 536 = .ok (.aload_n 0, 1) := by decide +kernel
theorem dL_built_537 : decode cL_built 537 = .ok (.iload_n 3, 1) := by decide +kernel
theorem dL_built_538 : decode cL_built 538 = .ok (.invokevirtual 53, 3) := by decide +kernel
theorem dL_built_541 : decode cL_built 541 = .ok (.if_icmp .gt 7, 3) := by decide +kernel
theorem dL_built_544 : decode cL_built 544 = .ok (.iconst 1, 1) := by decide +kernel
theorem dL_built_545 : decode cL_built 545 = .ok (.goto 4, 3) := by decide +kernel
theorem dL_built_548 : decode cL_built 548 = .ok (.iconst 0, 1) := by decide +kernel
theorem dL_built_549 : decode cL_built 549 = .ok (.istore 11, 2) := by decide +kernel
theorem dL_built_551 : decode cL_built 551 = .ok (.aload_n 0, 1) := by decide +kernel
theorem dL_built_552 : decode cL_built 552 = .ok (.iload 12, 2) := by decide +kernel
theorem dL_built_554 : decode cL_built 554 = .ok (.invokevirtual 74, 3) := by decide +kernel
theorem dL_built_557 : decode cL_built 557 = .ok (.istore 20, 2) := by decide +kernel
theorem dL_built_559 : decode cL_built 559 = .ok (.iload 11, 2) := by decide +kernel
theorem dL_built_561 : decode cL_built 561 = .ok (.ifCond .eq 44, 3) := by decide +kernel
theorem dL_built_564 : decode cL_built 564 = .ok (.iload 20, 2) := by decide +kernel
theorem dL_built_566 : decode cL_built 566 = .ok (.bipush (-9), 2) := by decide +kernel
theorem dL_built_568 : decode cL_built 568 = .ok (.if_icmp .ne 7, 3) := by decide +kernel
theorem dL_built_571 : decode cL_built 571 = .ok (.iconst 1, 1) := by decide +kernel
theorem dL_built_572 : decode cL_built 572 = .ok (.goto 4, 3) := by decide +kernel
theorem dL_built_575 : decode cL_built 575 = .ok (.iconst 0, 1) := by decide +kernel
theorem dL_built_576 : decode cL_built 576 = .ok (.iload 12, 2) := by decide +kernel
theorem dL_built_578 : decode cL_built 578 = .ok (.iload 4, 2) := by decide +kernel
theorem dL_built_580 : decode cL_built 580 = .ok (.if_icmp .ne 7, 3) := by decide +kernel
theorem dL_built_583 : decode cL_built 583 = .ok (.iconst 1, 1) := by decide +kernel
theorem dL_built_584 : decode cL_built 584 = .ok (.goto 4, 3) := by decide +kernel
theorem dL_built_587 : decode cL_built 587 = .ok (.iconst 0, 1) := by decide +kernel
theorem dL_built_588 : decode cL_built 588 = .ok (.if_icmp .ne 17, 3) := by decide +kernel
theorem dL_built_591 : decode cL_built 591 = .ok (.iload 20, 2) := by decide +kernel
theorem dL_built_593 : decode cL_built 593 = .ok (.aload_n 0, 1) := by decide +kernel
theorem dL_built_594 : decode cL_built 594 = .ok (.iload_n 3, 1) := by decide +kernel
theorem dL_built_595 : decode cL_built 595 = .ok (.invokevirtual 71, 3) := by decide +kernel
theorem dL_built_598 : decode cL_built 598 = .ok (.if_icmp .gt 7, 3) := by decide +kernel
theorem dL_built_601 : decode cL_built 601 = .ok (.iconst 1, 1) := by decide +kernel
theorem dL_built_602 : decode cL_built 602 = .ok (.goto 4, 3) := by decide +kernel
theorem dL_built_605 : decode cL_built 605 = .ok (.iconst 0, 1) := by decide +kernel
theorem dL_built_606 : decode cL_built 606 = .ok (.istore 11, 2) := by decide +kernel
theorem dL_built_608 : decode cL_built 608 = .ok (.iload 20, 2) := by decide +kernel
theorem dL_built_610 : decode cL_built 610 = .ok (.iload 6, 2) := by decide +kernel
theorem dL_built_612 : decode cL_built 612 = .ok (.if_icmp .le 8, 3) := by decide +kernel
theorem dL_built_615 : decode cL_built 615 = .ok (.iload 20, 2) := by decide +kernel
theorem dL_built_617 : decode cL_built 617 = .ok (.goto 5, 3) := by decide +kernel
theorem dL_built_620 : decode cL_built 620 = .ok (.iload 6, 2) := by decide +kernel
theorem dL_built_622 : decode cL_built 622 = .ok (.istore 6, 2) := by decide +kernel
theorem dL_built_624 : decode cL_built 624 = .ok (.iload 5, 2) := by decide +kernel
theorem dL_built_626 : decode cL_built 626 = .ok (.iload 20, 2) := by decide +kernel
theorem dL_built_628 : decode cL_built 628 = .ok (.bipush (-9), 2) := by decide +kernel
theorem dL_built_630 : decode cL_built 630 = .ok (.if_icmp .ne 7, 3) := by decide +kernel
theorem dL_built_633 : decode cL_built 633 = .ok (.iconst 0, 1) := by decide +kernel
theorem dL_built_634 : decode cL_built 634 = .ok (.goto 4, 3) := by decide +kernel
theorem dL_built_637 : decode cL_built 637 = .ok (.iconst 1, 1) := by decide +kernel
theorem dL_built_638 : decode cL_built 638 = .ok (.iadd, 1) := by decide +kernel
theorem dL_built_639 : decode cL_built 639 = .ok (.istore 5, 2) := by decide +kernel
theorem dL_built_641 : decode cL_built 641 = .ok (.iload_n 1, 1) := by decide +kernel
theorem dL_built_642 : decode cL_built 642 = .ok (.bipush 12, 2) := by decide +kernel
theorem dL_built_644 : decode cL_built 644 = .ok (.idiv, 1) := by decide +kernel
theorem dL_built_645 : decode cL_built 645 = .ok (.iload_n 2, 1) := by decide +kernel
theorem dL_built_646 : decode cL_built 646 = .ok (.irem, 1) := by decide +kernel
theorem dL_built_647 : decode cL_built 647 = .ok (.istore 21, 2) := by decide +kernel
theorem dL_built_649 : decode cL_built 649 = .ok (.aload_n 0, 1) := by decide +kernel
theorem dL_built_650 : decode cL_built 650 = .ok (.iload_n 3, 1) := by decide +kernel
theorem dL_built_651 : decode cL_built 651 = .ok (.iload 12, 2) := by decide +kernel
theorem dL_built_653 : decode cL_built 653 = .ok (.iload 21, 2) := by decide +kernel
theorem dL_built_655 : decode cL_built 655 = .ok (.invokevirtual 68, 3) := by decide +kernel
theorem dL_built_658 : decode cL_built 658 = .ok (.istore 22, 2) := by decide +kernel
theorem dL_built_660 : decode cL_built 660 = .ok (.iload 22, 2) := by decide +kernel
theorem dL_built_662 : decode cL_built 662 = .ok (.bipush (-9), 2) := by decide +kernel
theorem dL_built_664 : decode cL_built 664 = .ok (.if_icmp .eq 76, 3) := by decide +kernel
theorem dL_built_667 : decode cL_built 667 = .ok (.iload 11, 2) := by decide +kernel
theorem dL_built_669 : decode cL_built 669 = .ok (.ifCond .eq 71, 3) := by decide +kernel
theorem dL_built_672 : decode cL_built 672 = .ok (.aload_n 0, 1) := by decide +kernel
theorem dL_built_673 : decode cL_built 673 = .ok (.iload_n 3, 1) := by decide +kernel
theorem dL_built_674 : decode cL_built 674 = .ok (.iload 22, 2) := by decide +kernel
theorem dL_built_676 : decode cL_built 676 = .ok (.invokevirtual 44, 3) := by decide +kernel
theorem dL_built_679 : decode cL_built 679 = .ok (.aload_n 0, 1) := by decide +kernel
theorem dL_built_680 : decode cL_built 680 = .ok (.iload 22, 2) := by decide +kernel
theorem dL_built_682 : decode cL_built 682 = .ok (.iload 12, 2) := by decide +kernel
theorem dL_built_684 : decode cL_built 684 = .ok (.invokevirtual 44, 3) := by decide +kernel
theorem dL_built_687 : decode cL_built 687 = .ok (.iadd, 1) := by decide +kernel
theorem dL_built_688 : decode cL_built 688 = .ok (.iload 13, 2) := by decide +kernel
theorem dL_built_690 : decode cL_built 690 = .ok (.if_icmp .ne 47, 3) := by decide +kernel
theorem dL_built_693 : decode cL_built 693 = .ok (.aload_n 0, 1) := by decide +kernel
theorem dL_built_694 : decode cL_built 694 = .ok (.iload_n 3, 1) := by decide +kernel
theorem dL_built_695 : decode cL_built 695 = .ok (.iload 22, 2) := by decide +kernel
theorem dL_built_697 : decode cL_built 697 = .ok (.invokevirtual 44, 3) := by decide +kernel
theorem dL_built_700 : decode cL_built 700 = .ok (.aload_n 0, 1) := by decide +kernel
theorem dL_built_701 : decode cL_built 701 = .ok (.iload 22, 2) := by decide +kernel
theorem dL_built_703 : decode cL_built 703 = .ok (.iload 21, 2) := by decide +kernel
theorem dL_built_705 : decode cL_built 705 = .ok (.invokevirtual 44, 3) := by decide +kernel
theorem dL_built_708 : decode cL_built 708 = .ok (.iadd, 1) := by decide +kernel
theorem dL_built_709 : decode cL_built 709 = .ok (.aload_n 0, 1) := by decide +kernel
theorem dL_built_710 : decode cL_built 710 = .ok (.iload_n 3, 1) := by decide +kernel
theorem dL_built_711 : decode cL_built 711 = .ok (.iload 21, 2) := by decide +kernel
theorem dL_built_713 : decode cL_built 713 = .ok (.invokevirtual 44, 3) := by decide +kernel
theorem dL_built_716 : decode cL_built 716 = .ok (.if_icmp .ne 21, 3) := by decide +kernel
theorem dL_built_719 : decode cL_built 719 = .ok (.aload_n 0, 1) := by decide +kernel
theorem dL_built_720 : decode cL_built 720 = .ok (.iload 21, 2) := by decide +kernel
theorem dL_built_722 : decode cL_built 722 = .ok (.iload 12, 2) := by decide +kernel
theorem dL_built_724 : decode cL_built 724 = .ok (.iload_n 3, 1) := by decide +kernel
theorem dL_built_725 : decode cL_built 725 = .ok (.invokevirtual 68, 3) := by decide +kernel
theorem dL_built_728 : decode cL_built 728 = .ok (.iload 22, 2) := by decide +kernel
theorem dL_built_730 : decode cL_built 730 = .ok (.if_icmp .ne 7, 3) := by decide +kernel
theorem dL_built_733 : decode cL_built 733 = .ok (.iconst 1, 1) := by decide +kernel
theorem dL_built_734 : decode cL_built 734 = .ok (.goto 4, 3) := by decide +kernel
theorem dL_built_737 : decode cL_built 737 = .ok (.iconst 0, 1) := by decide +kernel
theorem dL_built_738 : decode cL_built 738 = .ok (.istore 11, 2) := by decide +kernel
theorem dL_built_740 : decode cL_built 740 = .ok (.iinc 12 1, 3) := by decide +kernel
theorem dL_built_743 : decode cL_built 743 = .ok (.goto (-670), 3) := by decide +kernel
theorem dL_built_746 : decode cL_built 746 = .ok (.aload_n 0, 1) := by decide +kernel
theorem dL_built_747 : decode cL_built 747 = .ok (.iload_n 3, 1) := by decide +kernel
theorem dL_built_748 : decode cL_built 748 = .ok (.iconst 0, 1) := by decide +kernel
theorem dL_built_749 : decode cL_built 749 = .ok (.invokevirtual 56, 3) := by decide +kernel
theorem dL_built_752 : decode cL_built 752 = .ok (.istore 12, 2) := by decide +kernel
theorem dL_built_754 : decode cL_built 754 = .ok (.aload_n 0, 1) := by decide +kernel
theorem dL_built_755 : decode cL_built 755 = .ok (.iload_n 3, 1) := by decide +kernel
theorem dL_built_756 : decode cL_built 756 = .ok (.iconst 1, 1) := by decide +kernel
theorem dL_built_757 : decode cL_built 757 = .ok (.invokevirtual 56, 3) := by decide +kernel
theorem dL_built_760 : decode cL_built 760 = .ok (.istore 13, 2) := by decide +kernel
theorem dL_built_762 : decode cL_built 762 = .ok (.iload 11, 2) := by decide +kernel
theorem dL_built_764 : decode cL_built 764 = .ok (.ifCond .eq 190, 3) := by decide +kernel
theorem dL_built_767 : decode cL_built 767 = .ok (.iload 6, 2) := by decide +kernel
theorem dL_built_769 : decode cL_built 769 = .ok (.aload_n 0, 1) := by decide +kernel
theorem dL_built_770 : decode cL_built 770 = .ok (.iload_n 3, 1) := by decide +kernel
theorem dL_built_771 : decode cL_built 771 = .ok (.invokevirtual 71, 3) := by decide +kernel
theorem dL_built_774 : decode cL_built 774 = .ok (.if_icmp .ne 180, 3) := by decide +kernel
theorem dL_built_777 : decode cL_built 777 = .ok (.iload 10, 2) := by decide +kernel
theorem dL_built_779 : decode cL_built 779 = .ok (.aload_n 0, 1) := by decide +kernel
theorem dL_built_780 : decode cL_built 780 = .ok (.iload_n 3, 1) := by decide +kernel
theorem dL_built_781 : decode cL_built 781 = .ok (.invokevirtual 50, 3) := by decide +kernel
theorem dL_built_784 : decode cL_built 784 = .ok (.if_icmp .ne 170, 3) := by decide +kernel
theorem dL_built_787 : decode cL_built 787 = .ok (.iload 9, 2) := by decide +kernel
theorem dL_built_789 : decode cL_built 789 = .ok (.aload_n 0, 1) := by decide +kernel
theorem dL_built_790 : decode cL_built 790 = .ok (.iload_n 3, 1) := by decide +kernel
theorem dL_built_791 : decode cL_built 791 = .ok (.invokevirtual 65, 3) := by decide +kernel
theorem dL_built_794 : decode cL_built 794 = .ok (.if_icmp .ne 160, 3) := by decide +kernel
theorem dL_built_797 : decode cL_built 797 = .ok (.lload 7, 2) := by decide +kernel
theorem dL_built_799 : decode cL_built 799 = .ok (.aload_n 0, 1) := by decide +kernel
theorem dL_built_800 : decode cL_built 800 = .ok (.iload_n 3, 1) := by decide +kernel
theorem dL_built_801 : decode cL_built 801 = .ok (.iconst 3, 1) := by decide +kernel
theorem dL_built_802 : decode cL_built 802 = .ok (.invokevirtual 83, 3) := by decide +kernel
theorem dL_built_805 : decode cL_built 805 = .ok (.lcmp, 1) := by decide +kernel
theorem dL_built_806 : decode cL_built 806 = .ok (.ifCond .ne 148, 3) := by decide +kernel
theorem dL_built_809 : decode cL_built 809 = .ok (.iload 12, 2) := by decide +kernel
theorem dL_built_811 : decode cL_built 811 = .ok (.iload 13, 2) := by decide +kernel
theorem dL_built_813 : decode cL_built 813 = .ok (.if_icmp .gt 141, 3) := by decide +kernel
theorem dL_built_816 : decode cL_built 816 = .ok (.aload_n 0, 1) := by decide +kernel
theorem dL_built_817 : decode cL_built 817 = .ok (.iload 12, 2) := by decide +kernel
theorem dL_built_819 : decode cL_built 819 = .ok (.iload 13, 2) := by decide +kernel
theorem dL_built_821 : decode cL_built 821 = .ok (.invokevirtual 44, 3) := by decide +kernel
theorem dL_built_824 : decode cL_built 824 = .ok (.aload_n 0, 1) := by decide +kernel
theorem dL_built_825 : decode cL_built 825 = .ok (.iload_n 3, 1) := by decide +kernel
theorem dL_built_826 : decode cL_built 826 = .ok (.invokevirtual 53, 3) := by decide +kernel
theorem dL_built_829 : decode cL_built 829 = .ok (.if_icmp .ne 125, 3) := by decide +kernel
theorem dL_built_832 : decode cL_built 832 = .ok (.aload_n 0, 1) := by decide +kernel
theorem dL_built_833 : decode cL_built 833 = .ok (.iload 12, 2) := by decide +kernel
theorem dL_built_835 : decode cL_built 835 = .ok (.invokevirtual 28, 3) := by decide +kernel
theorem dL_built_838 : decode cL_built 838 = .ok (.aload_n 0, 1) := by decide +kernel
theorem dL_built_839 : decode cL_built 839 = .ok (.iload_n 3, 1) := by decide +kernel
theorem dL_built_840 : decode cL_built 840 = .ok (.invokevirtual 28, 3) := by decide +kernel
theorem dL_built_843 : decode cL_built 843 = .ok (.if_icmp .ne 111, 3) := by decide +kernel
theorem dL_built_846 : decode cL_built 846 = .ok (.iconst 2, 1) := by decide +kernel
theorem dL_built_847 : decode cL_built 847 = .ok (.aload_n 0, 1) := by decide +kernel
theorem dL_built_848 : decode cL_built 848 = .ok (.aload_n 0, 1) := by decide +kernel
theorem dL_built_849 : decode cL_built 849 = .ok (.iload_n 3, 1) := by decide +kernel
theorem dL_built_850 : decode cL_built 850 = .ok (.invokevirtual 59, 3) := by decide +kernel
theorem dL_built_853 : decode cL_built 853 = .ok (.invokevirtual 50, 3) := by decide +kernel
theorem dL_built_856 : decode cL_built 856 = .ok (.imul, 1) := by decide +kernel
theorem dL_built_857 : decode cL_built 857 = .ok (.aload_n 0, 1) := by decide +kernel
theorem dL_built_858 : decode cL_built 858 = .ok (.iload_n 3, 1) := by decide +kernel
theorem dL_built_859 : decode cL_built 859 = .ok (.invokevirtual 53, 3) := by decide +kernel
theorem dL_built_862 : decode cL_built 862 = .ok (.if_icmp .lt 92, 3) := by decide +kernel
theorem dL_built_865 : decode cL_built 865 = .ok (.aload_n 0, 1) := by decide +kernel
theorem dL_built_866 : decode cL_built 866 = .ok (.iconst 1, 1) := by decide +kernel
theorem dL_built_867 : decode cL_built 867 = .ok (.ldc2_w 160, 3) := by decide +kernel
theorem dL_built_870 : decode cL_built 870 = .ok (.bipush 100, 2) := by decide +kernel
theorem dL_built_872 : decode cL_built 872 = .ok (.iload_n 3, 1) := by decide +kernel
theorem dL_built_873 : decode cL_built 873 = .ok (.imul, 1) := by decide +kernel
theorem dL_built_874 : decode cL_built 874 = .ok (.i2l, 1) := by decide +kernel
theorem dL_built_875 : decode cL_built 875 = .ok (.ladd, 1) := by decide +kernel
theorem dL_built_876 : decode cL_built 876 = .ok (.iload 4, 2) := by decide +kernel
theorem dL_built_878 : decode cL_built 878 = .ok (.i2l, 1) := by decide +kernel
theorem dL_built_879 : decode cL_built 879 = .ok (.ladd, 1) := by decide +kernel
theorem dL_built_880 : decode cL_built 880 = .ok (.invokevirtual 97, 3) := by decide +kernel
theorem dL_built_883 : decode cL_built 883 = .ok (.bipush (-9), 2) := by decide +kernel
theorem dL_built_885 : decode cL_built 885 = .ok (.if_icmp .ne 69, 3) := by decide +kernel
theorem dL_built_888 : decode cL_built 888 = .ok (.aload_n 0, 1) := by decide +kernel
theorem dL_built_889 : decode cL_built 889 = .ok (.iconst 1, 1) := by decide +kernel
theorem dL_built_890 : decode cL_built 890 = .ok (.ldc2_w 162, 3) := by decide +kernel
theorem dL_built_893 : decode cL_built 893 = .ok (.bipush 100, 2) := by decide +kernel
theorem dL_built_895 : decode cL_built 895 = .ok (.iload_n 3, 1) := by decide +kernel
theorem dL_built_896 : decode cL_built 896 = .ok (.imul, 1) := by decide +kernel
theorem dL_built_897 : decode cL_built 897 = .ok (.i2l, 1) := by decide +kernel
theorem dL_built_898 : decode cL_built 898 = .ok (.ladd, 1) := by decide +kernel
theorem dL_built_899 : decode cL_built 899 = .ok (.aload_n 0, 1) := by decide +kernel
theorem dL_built_900 : decode cL_built 900 = .ok (.iload_n 3, 1) := by decide +kernel
theorem dL_built_901 : decode cL_built 901 = .ok (.invokevirtual 59, 3) := by decide +kernel
theorem dL_built_904 : decode cL_built 904 = .ok (.i2l, 1) := by decide +kernel
theorem dL_built_905 : decode cL_built 905 = .ok (.ladd, 1) := by decide +kernel
theorem dL_built_906 : decode cL_built 906 = .ok (.invokevirtual 97, 3) := by decide +kernel
theorem dL_built_909 : decode cL_built 909 = .ok (.bipush (-9), 2) := by decide +kernel
theorem dL_built_911 : decode cL_built 911 = .ok (.if_icmp .ne 43, 3) := by decide +kernel
theorem dL_built_914 : decode cL_built 914 = .ok (.iload 5, 2) := by decide +kernel
theorem dL_built_916 : decode cL_built 916 = .ok (.ifCond .eq 11, 3) := by decide +kernel
theorem dL_built_919 : decode cL_built 919 = .ok (.aload_n 0, 1) := by decide +kernel
theorem dL_built_920 : decode cL_built 920 = .ok (.iload_n 3, 1) := by decide +kernel
theorem dL_built_921 : decode cL_built 921 = .ok (.invokevirtual 80, 3) := by decide +kernel
theorem dL_built_924 : decode cL_built 924 = .ok (.ifCond .lt 30, 3) := by decide +kernel
theorem dL_built_927 : decode cL_built 927 = .ok (.iload 5, 2) := by decide +kernel
theorem dL_built_929 : decode cL_built 929 = .ok (.ifCond .gt 21, 3) := by decide +kernel
theorem dL_built_932 : decode cL_built 932 = .ok (.aload_n 0, 1) := by decide +kernel
theorem dL_built_933 : decode cL_built 933 = .ok (.iload_n 3, 1) := by decide +kernel
theorem dL_built_934 : decode cL_built 934 = .ok (.invokevirtual 80, 3) := by decide +kernel
theorem dL_built_937 : decode cL_built 937 = .ok (.bipush (-9), 2) := by decide +kernel
theorem dL_built_939 : decode cL_built 939 = .ok (.if_icmp .ne 15, 3) := by decide +kernel
theorem dL_built_942 : decode cL_built 942 = .ok (.aload_n 0, 1) := by decide +kernel
theorem dL_built_943 : decode cL_built 943 = .ok (.iload_n 3, 1) := by decide +kernel
theorem dL_built_944 : decode cL_built 944 = .ok (.invokevirtual 71, 3) := by decide +kernel
theorem dL_built_947 : decode cL_built 947 = .ok (.ifCond .ne 7, 3) := by decide +kernel
theorem dL_built_950 : decode cL_built 950 = .ok (.iconst 1, 1) := by decide +kernel
theorem dL_built_951 : decode cL_built 951 = .ok (.goto 4, 3) := by decide +kernel
theorem dL_built_954 : decode cL_built 954 = .ok (.iconst 0, 1) := by decide +kernel
theorem dL_built_955 : decode cL_built 955 = .ok (.ireturn, 1) := by decide +kernel
theorem dL_ahead_0 : decode cL_ahead 0 = .ok (.aload_n 0, 1) := by decide +kernel
theorem dL_ahead_1 : decode cL_ahead 1 = .ok (.invokestatic 147, 3) := by decide +kernel
theorem dL_ahead_4 : decode cL_ahead 4 = .ok (.lstore_n 2, 1) := by decide +kernel
theorem dL_ahead_5 : decode cL_ahead 5 = .ok (.aload_n 0, 1) := by decide +kernel
theorem dL_ahead_6 : decode cL_ahead 6 = .ok (.invokestatic 15, 3) := by decide +kernel
theorem dL_ahead_9 : decode cL_ahead 9 = .ok (.istore 4, 2) := by decide +kernel
theorem dL_ahead_11 : decode cL_ahead 11 = .ok (.aload_n 0, 1) := by decide +kernel
theorem dL_ahead_12 : decode cL_ahead 12 = .ok (.iconst 1, 1) := by decide +kernel
theorem dL_ahead_13 : decode cL_ahead 13 = .ok (.invokevirtual 107, 3) := by decide +kernel
theorem dL_ahead_16 : decode cL_ahead 16 = .ok (.istore 5, 2) := by decide +kernel
theorem dL_ahead_18 : decode cL_ahead 18 = .ok (.iload_n 1, 1) := by decide +kernel
theorem dL_ahead_19 : decode cL_ahead 19 = .ok (.iload 4, 2) := by decide +kernel
theorem dL_ahead_21 : decode cL_ahead 21 = .ok (.irem, 1) := by decide +kernel
theorem dL_ahead_22 : decode cL_ahead 22 = .ok (.istore 6, 2) := by decide +kernel
theorem dL_ahead_24 : decode cL_ahead 24 = .ok (.iload_n 1, 1) := by decide +kernel
theorem dL_ahead_25 : decode cL_ahead 25 = .ok (.bipush 12, 2) := by decide +kernel
theorem dL_ahead_27 : decode cL_ahead 27 = .ok (.idiv, 1) := by decide +kernel
theorem dL_ahead_28 : decode cL_ahead 28 = .ok (.iload 4, 2) := by decide +kernel
theorem dL_ahead_30 : decode cL_ahead 30 = .ok (.irem, 1) := by decide +kernel
theorem dL_ahead_31 : decode cL_ahead 31 = .ok (.istore 7, 2) := by decide +kernel
theorem dL_ahead_33 : decode cL_ahead 33 = .ok (.iconst 1, 1) := by decide +kernel
theorem dL_ahead_34 : decode cL_ahead 34 = .ok (.iload_n 1, 1) := by decide +kernel
theorem dL_ahead_35 : decode cL_ahead 35 = .ok (.sipush 144, 3) := by decide +kernel
theorem dL_ahead_38 : decode cL_ahead 38 = .ok (.idiv, 1) := by decide +kernel
theorem dL_ahead_39 : decode cL_ahead 39 = .ok (.bipush 99, 2) := by decide +kernel
theorem dL_ahead_41 : decode cL_ahead 41 = .ok (.irem, 1) := by decide +kernel
theorem dL_ahead_42 : decode cL_ahead 42 = .ok (.iadd, 1) := by decide +kernel
theorem dL_ahead_43 : decode cL_ahead 43 = .ok (.istore 8, 2) := by decide +kernel
theorem dL_ahead_45 : decode cL_ahead 45 = .ok (.iload 5, 2) := by decide +kernel
theorem dL_ahead_47 : decode cL_ahead 47 = .ok (.ifCond .lt 7, 3) := by decide +kernel
theorem dL_ahead_50 : decode cL_ahead 50 = .ok (.iconst 1, 1) := by decide +kernel
theorem dL_ahead_51 : decode cL_ahead 51 = .ok (.goto 4, 3) := by decide +kernel
theorem dL_ahead_54 : decode cL_ahead 54 = .ok (.iconst 0, 1) := by decide +kernel
theorem dL_ahead_55 : decode cL_ahead 55 = .ok (.istore 9, 2) := by decide +kernel
theorem dL_ahead_57 : decode cL_ahead 57 = .ok (.aload_n 0, 1) := by decide +kernel
theorem dL_ahead_58 : decode cL_ahead 58 = .ok (.iload 6, 2) := by decide +kernel
theorem dL_ahead_60 : decode cL_ahead 60 = .ok (.invokevirtual 28, 3) := by decide +kernel
theorem dL_ahead_63 : decode cL_ahead 63 = .ok (.aload_n 0, 1) := by decide +kernel
theorem dL_ahead_64 : decode cL_ahead 64 = .ok (.iload 7, 2) := by decide +kernel
theorem dL_ahead_66 : decode cL_ahead 66 = .ok (.invokevirtual 28, 3) := by decide +kernel
theorem dL_ahead_69 : decode cL_ahead 69 = .ok (.if_icmp .eq 155, 3) := by decide +kernel
theorem dL_ahead_72 : decode cL_ahead 72 = .ok (.iload 9, 2) := by decide +kernel
theorem dL_ahead_74 : decode cL_ahead 74 = .ok (.ifCond .eq 147, 3) := by decide +kernel
theorem dL_ahead_77 : decode cL_ahead 77 = .ok (.aload_n 0, 1) := by decide +kernel
theorem dL_ahead_78 : decode cL_ahead 78 = .ok (.iload 6, 2) := by decide +kernel
theorem dL_ahead_80 : decode cL_ahead 80 = .ok (.iload 7, 2) := by decide +kernel
theorem dL_ahead_82 : decode cL_ahead 82 = .ok (.iload 8, 2) := by decide +kernel
theorem dL_ahead_84 : decode cL_ahead 84 = .ok (.invokevirtual 31, 3) := by decide +kernel
theorem dL_ahead_87 : decode cL_ahead 87 = .ok (.iload 5, 2) := by decide +kernel
theorem dL_ahead_89 : decode cL_ahead 89 = .ok (.iconst 1, 1) := by decide +kernel
theorem dL_ahead_90 : decode cL_ahead 90 = .ok (.iadd, 1) := by decide +kernel
theorem dL_ahead_91 : decode cL_ahead 91 = .ok (.if_icmp .ne 130, 3) := by decide +kernel
theorem dL_ahead_94 : decode cL_ahead 94 = .ok (.aload_n 0, 1) := by decide +kernel
theorem dL_ahead_95 : decode cL_ahead 95 = .ok (.iload 6, 2) := by decide +kernel
theorem dL_ahead_97 : decode cL_ahead 97 = .ok (.iload 7, 2) := by decide +kernel
theorem dL_ahead_99 : decode cL_ahead 99 = .ok (.invokevirtual 44, 3) := by decide +kernel
theorem dL_ahead_102 : decode cL_ahead 102 = .ok (.iload 8, 2) := by decide +kernel
theorem dL_ahead_104 : decode cL_ahead 104 = .ok (.if_icmp .ne 117, 3) := by decide +kernel
theorem dL_ahead_107 : decode cL_ahead 107 = .ok (.aload_n 0, 1) := by decide +kernel
theorem dL_ahead_108 : decode cL_ahead 108 = .ok (.iload 6, 2) := by decide +kernel
theorem dL_ahead_110 : decode cL_ahead 110 = .ok (.invokevirtual 28, 3) := by decide +kernel
theorem dL_ahead_113 : decode cL_ahead 113 = .ok (.aload_n 0, 1) := by decide +kernel
theorem dL_ahead_114 : decode cL_ahead 114 = .ok (.iload 7, 2) := by decide +kernel
theorem dL_ahead_116 : decode cL_ahead 116 = .ok (.invokevirtual 28, 3) := by decide +kernel
theorem dL_ahead_119 : decode cL_ahead 119 = .ok (.if_icmp .ne 102, 3) := by decide +kernel
theorem dL_ahead_122 : decode cL_ahead 122 = .ok (.aload_n 0, 1) := by decide +kernel
theorem dL_ahead_123 : decode cL_ahead 123 = .ok (.iconst 2, 1) := by decide +kernel
theorem dL_ahead_124 : decode cL_ahead 124 = .ok (.ldc2_w 164, 3) := by decide +kernel
theorem dL_ahead_127 : decode cL_ahead 127 = .ok (.ldc2_w 101, 3) := by decide +kernel
theorem dL_ahead_130 : decode cL_ahead 130 = .ok (.bipush 100, 2) := by decide +kernel
theorem dL_ahead_132 : decode cL_ahead 132 = .ok (.iload 6, 2) := by decide +kernel
theorem dL_ahead_134 : decode cL_ahead 134 = .ok (.imul, 1) := by decide +kernel
theorem dL_ahead_135 : decode cL_ahead 135 = .ok (.iload 7, 2) := by decide +kernel
theorem dL_ahead_137 : decode cL_ahead 137 = .ok (.iadd, 1) := by decide +kernel
theorem dL_ahead_138 : decode cL_ahead 138 = .ok (.i2l, 1) := by decide +kernel
theorem dL_ahead_139 : decode cL_ahead 139 = .ok (.lmul, 1) := by decide +kernel
theorem dL_ahead_140 : decode cL_ahead 140 = .ok (.ladd, 1) := by decide +kernel
theorem dL_ahead_141 : decode cL_ahead 141 = .ok (.bipush 100, 2) := by decide +kernel
theorem dL_ahead_143 : decode cL_ahead 143 = .ok (.iload 6, 2) := by decide +kernel
theorem dL_ahead_145 : decode cL_ahead 145 = .ok (.imul, 1) := by decide +kernel
theorem dL_ahead_146 : decode cL_ahead 146 = .ok (.i2l, 1) := by decide +kernel
theorem dL_ahead_147 : decode cL_ahead 147 = .ok (.ladd, 1) := by decide +kernel
theorem dL_ahead_148 : decode cL_ahead 148 = .ok (.iload 7, 2) := by decide +kernel
theorem dL_ahead_150 : decode cL_ahead 150 = .ok (.i2l, 1) := by decide +kernel
theorem dL_ahead_151 : decode cL_ahead 151 = .ok (.ladd, 1) := by decide +kernel
theorem dL_ahead_152 : decode cL_ahead 152 = .ok (.invokevirtual 97, 3) := by decide +kernel
theorem dL_ahead_155 : decode cL_ahead 155 = .ok (.iconst 1, 1) := by decide +kernel
theorem dL_ahead_156 : decode cL_ahead 156 = .ok (.if_icmp .ne 65, 3) := by decide +kernel
theorem dL_ahead_159 : decode cL_ahead 159 = .ok (.aload_n 0, 1) := by decide +kernel
theorem dL_ahead_160 : decode cL_ahead 160 = .ok (.iload 7, 2) := by decide +kernel
theorem dL_ahead_162 : decode cL_ahead 162 = .ok (.iload 6, 2) := by decide +kernel
theorem dL_ahead_164 : decode cL_ahead 164 = .ok (.invokevirtual 35, 3) := by decide +kernel
theorem dL_ahead_167 : decode cL_ahead 167 = .ok (.iload 8, 2) := by decide +kernel
theorem dL_ahead_169 : decode cL_ahead 169 = .ok (.if_icmp .ne 52, 3) := by decide +kernel
theorem dL_ahead_172 : decode cL_ahead 172 = .ok (.aload_n 0, 1) := by decide +kernel
theorem dL_ahead_173 : decode cL_ahead 173 = .ok (.invokestatic 147, 3) := by decide +kernel
theorem dL_ahead_176 : decode cL_ahead 176 = .ok (.lload_n 2, 1) := by decide +kernel
theorem dL_ahead_177 : decode cL_ahead 177 = .ok (.lcmp, 1) := by decide +kernel
theorem dL_ahead_178 : decode cL_ahead 178 = .ok (.ifCond .ne 43, 3) := by decide +kernel
theorem dL_ahead_181 : decode cL_ahead 181 = .ok (.aload_n 0, 1) := by decide +kernel
theorem dL_ahead_182 : decode cL_ahead 182 = .ok (.invokevirtual 136, 3) := by decide +kernel
theorem dL_ahead_185 : decode cL_ahead 185 = .ok (.ifCond .lt 36, 3) := by decide +kernel
theorem dL_ahead_188 : decode cL_ahead 188 = .ok (.aload_n 0, 1) := by decide +kernel
theorem dL_ahead_189 : decode cL_ahead 189 = .ok (.iload 7, 2) := by decide +kernel
theorem dL_ahead_191 : decode cL_ahead 191 = .ok (.iload 6, 2) := by decide +kernel
theorem dL_ahead_193 : decode cL_ahead 193 = .ok (.invokevirtual 24, 3) := by decide +kernel
theorem dL_ahead_196 : decode cL_ahead 196 = .ok (.iload 8, 2) := by decide +kernel
theorem dL_ahead_198 : decode cL_ahead 198 = .ok (.if_icmp .ne 23, 3) := by decide +kernel
theorem dL_ahead_201 : decode cL_ahead 201 = .ok (.aload_n 0, 1) := by decide +kernel
theorem dL_ahead_202 : decode cL_ahead 202 = .ok (.invokevirtual 136, 3) := by decide +kernel
theorem dL_ahead_205 : decode cL_ahead 205 = .ok (.ifCond .lt 16, 3) := by decide +kernel
theorem dL_ahead_208 : decode cL_ahead 208 = .ok (.aload_n 0, 1) := by decide +kernel
theorem dL_ahead_209 : decode cL_ahead 209 = .ok (.invokestatic 147, 3) := by decide +kernel
theorem dL_ahead_212 : decode cL_ahead 212 = .ok (.lload_n 2, 1) := by decide +kernel
theorem dL_ahead_213 : decode cL_ahead 213 = .ok (.lcmp, 1) := by decide +kernel
theorem dL_ahead_214 : decode cL_ahead 214 = .ok (.ifCond .ne 7, 3) := by decide +kernel
theorem dL_ahead_217 : decode cL_ahead 217 = .ok (.iconst 1, 1) := by decide +kernel
theorem dL_ahead_218 : decode cL_ahead 218 = .ok (.goto 4, 3) := by decide +kernel
theorem dL_ahead_221 : decode cL_ahead 221 = .ok (.iconst 0, 1) := by decide +kernel
theorem dL_ahead_222 : decode cL_ahead 222 = .ok (.istore 9, 2) := by decide +kernel
theorem dL_ahead_224 : decode cL_ahead 224 = .ok (.iconst 0, 1) := by decide +kernel
theorem dL_ahead_225 : decode cL_ahead 225 = .ok (.istore 10, 2) := by decide +kernel
theorem dL_ahead_227 : decode cL_ahead 227 = .ok (.iload 10, 2) := by decide +kernel
theorem dL_ahead_229 : decode cL_ahead 229 = .ok (.iload 4, 2) := by decide +kernel
theorem dL_ahead_231 : decode cL_ahead 231 = .ok (.if_icmp .ge 166, 3) := by decide +kernel
theorem dL_ahead_234 : decode cL_ahead 234 = .ok (.iload 9, 2) := by decide +kernel
theorem dL_ahead_236 : decode cL_ahead 236 = .ok (.ifCond .eq 161, 3) := by decide +kernel
theorem dL_ahead_239 : decode cL_ahead 239 = .ok (.iconst 0, 1) := by decide +kernel
theorem dL_ahead_240 : decode cL_ahead 240 = .ok (.istore 11, 2) := by decide +kernel
theorem dL_ahead_242 : decode cL_ahead 242 = .ok (.iload 11, 2) := by decide +kernel
theorem dL_ahead_244 : decode cL_ahead 244 = .ok (.iload 10, 2) := by decide +kernel
theorem dL_ahead_246 : decode cL_ahead 246 = .ok (.if_icmp .ge 145, 3) := by decide +kernel
theorem dL_ahead_249 : decode cL_ahead 249 = .ok (.iload 9, 2) := by decide +kernel
theorem dL_ahead_251 : decode cL_ahead 251 = .ok (.ifCond .eq 140, 3) := by decide +kernel
theorem dL_ahead_254 : decode cL_ahead 254 = .ok (.aload_n 0, 1) := by decide +kernel
theorem dL_ahead_255 : decode cL_ahead 255 = .ok (.iload 10, 2) := by decide +kernel
theorem dL_ahead_257 : decode cL_ahead 257 = .ok (.iload 11, 2) := by decide +kernel
theorem dL_ahead_259 : decode cL_ahead 259 = .ok (.invokevirtual 24, 3) := by decide +kernel
theorem dL_ahead_262 : decode cL_ahead 262 = .ok (.istore 12, 2) := by decide +kernel
theorem dL_ahead_264 : decode cL_ahead 264 = .ok (.iload 12, 2) := by decide +kernel
theorem dL_ahead_266 : decode cL_ahead 266 = .ok (.ifCond .le 119, 3) := by decide +kernel
theorem dL_ahead_269 : decode cL_ahead 269 = .ok (.aload_n 0, 1) := by decide +kernel
theorem dL_ahead_270 : decode cL_ahead 270 = .ok (.iload 6, 2) := by decide +kernel
theorem dL_ahead_272 : decode cL_ahead 272 = .ok (.iload 7, 2) := by decide +kernel
theorem dL_ahead_274 : decode cL_ahead 274 = .ok (.invokevirtual 44, 3) := by decide +kernel
theorem dL_ahead_277 : decode cL_ahead 277 = .ok (.istore 13, 2) := by decide +kernel
theorem dL_ahead_279 : decode cL_ahead 279 = .ok (.aload_n 0, 1) := by decide +kernel
theorem dL_ahead_280 : decode cL_ahead 280 = .ok (.iload 10, 2) := by decide +kernel
theorem dL_ahead_282 : decode cL_ahead 282 = .ok (.iload 11, 2) := by decide +kernel
theorem dL_ahead_284 : decode cL_ahead 284 = .ok (.iload 8, 2) := by decide +kernel
theorem dL_ahead_286 : decode cL_ahead 286 = .ok (.invokevirtual 38, 3) := by decide +kernel
theorem dL_ahead_289 : decode cL_ahead 289 = .ok (.iload 12, 2) := by decide +kernel
theorem dL_ahead_291 : decode cL_ahead 291 = .ok (.if_icmp .ne 33, 3) := by decide +kernel
theorem dL_ahead_294 : decode cL_ahead 294 = .ok (.aload_n 0, 1) := by decide +kernel
theorem dL_ahead_295 : decode cL_ahead 295 = .ok (.iload 11, 2) := by decide +kernel
theorem dL_ahead_297 : decode cL_ahead 297 = .ok (.iload 10, 2) := by decide +kernel
theorem dL_ahead_299 : decode cL_ahead 299 = .ok (.invokevirtual 24, 3) := by decide +kernel
theorem dL_ahead_302 : decode cL_ahead 302 = .ok (.iload 8, 2) := by decide +kernel
theorem dL_ahead_304 : decode cL_ahead 304 = .ok (.if_icmp .ne 20, 3) := by decide +kernel
theorem dL_ahead_307 : decode cL_ahead 307 = .ok (.aload_n 0, 1) := by decide +kernel
theorem dL_ahead_308 : decode cL_ahead 308 = .ok (.iload 10, 2) := by decide +kernel
theorem dL_ahead_310 : decode cL_ahead 310 = .ok (.iload 11, 2) := by decide +kernel
theorem dL_ahead_312 : decode cL_ahead 312 = .ok (.invokevirtual 44, 3) := by decide +kernel
theorem dL_ahead_315 : decode cL_ahead 315 = .ok (.iload 8, 2) := by decide +kernel
theorem dL_ahead_317 : decode cL_ahead 317 = .ok (.if_icmp .ne 7, 3) := by decide +kernel
theorem dL_ahead_320 : decode cL_ahead 320 = .ok (.iconst 1, 1) := by decide +kernel
theorem dL_ahead_321 : decode cL_ahead 321 = .ok (.goto 4, 3) := by decide +kernel
theorem dL_ahead_324 : decode cL_ahead 324 = .ok (.iconst 0, 1) := by decide +kernel
theorem dL_ahead_325 : decode cL_ahead 325 = .ok (.istore 9, 2) := by decide +kernel
theorem dL_ahead_327 : decode cL_ahead 327 = .ok (.aload_n 0, 1) := by decide +kernel
theorem dL_ahead_328 : decode cL_ahead 328 = .ok (.iload 6, 2) := by decide +kernel
theorem dL_ahead_330 : decode cL_ahead 330 = .ok (.iload 7, 2) := by decide +kernel
theorem dL_ahead_332 : decode cL_ahead 332 = .ok (.invokevirtual 44, 3) := by decide +kernel
theorem dL_ahead_335 : decode cL_ahead 335 = .ok (.istore 14, 2) := by decide +kernel
theorem dL_ahead_337 : decode cL_ahead 337 = .ok (.iload 9, 2) := by decide +kernel
theorem dL_ahead_339 : decode cL_ahead 339 = .ok (.ifCond .eq 43, 3) := by decide +kernel
theorem dL_ahead_342 : decode cL_ahead 342 = .ok (.iload 14, 2) := by decide +kernel
theorem dL_ahead_344 : decode cL_ahead 344 = .ok (.iload 13, 2) := by decide +kernel
theorem dL_ahead_346 : decode cL_ahead 346 = .ok (.if_icmp .eq 16, 3) := by decide +kernel
theorem dL_ahead_349 : decode cL_ahead 349 = .ok (.iload 14, 2) := by decide +kernel
theorem dL_ahead_351 : decode cL_ahead 351 = .ok (.iload 13, 2) := by decide +kernel
theorem dL_ahead_353 : decode cL_ahead 353 = .ok (.isub, 1) := by decide +kernel
theorem dL_ahead_354 : decode cL_ahead 354 = .ok (.iload 8, 2) := by decide +kernel
theorem dL_ahead_356 : decode cL_ahead 356 = .ok (.iload 12, 2) := by decide +kernel
theorem dL_ahead_358 : decode cL_ahead 358 = .ok (.isub, 1) := by decide +kernel
theorem dL_ahead_359 : decode cL_ahead 359 = .ok (.if_icmp .ne 23, 3) := by decide +kernel
theorem dL_ahead_362 : decode cL_ahead 362 = .ok (.aload_n 0, 1) := by decide +kernel
theorem dL_ahead_363 : decode cL_ahead 363 = .ok (.invokevirtual 136, 3) := by decide +kernel
theorem dL_ahead_366 : decode cL_ahead 366 = .ok (.ifCond .lt 16, 3) := by decide +kernel
theorem dL_ahead_369 : decode cL_ahead 369 = .ok (.aload_n 0, 1) := by decide +kernel
theorem dL_ahead_370 : decode cL_ahead 370 = .ok (.invokestatic 147, 3) := by decide +kernel
theorem dL_ahead_373 : decode cL_ahead 373 = .ok (.lload_n 2, 1) := by decide +kernel
theorem dL_ahead_374 : decode cL_ahead 374 = .ok (.lcmp, 1) := by decide +kernel
theorem dL_ahead_375 : decode cL_ahead 375 = .ok (.ifCond .ne 7, 3) := by decide +kernel
theorem dL_ahead_378 : decode cL_ahead 378 = .ok (.iconst 1, 1) := by decide +kernel
theorem dL_ahead_379 : decode cL_ahead 379 = .ok (.goto 4, 3) := by decide +kernel
theorem dL_ahead_382 : decode cL_ahead 382 = .ok (.iconst 0, 1) := by decide +kernel
theorem dL_ahead_383 : decode cL_ahead 383 = .ok (.istore 9, 2) := by decide +kernel
theorem dL_ahead_385 : decode cL_ahead 385 = .ok (.iinc 11 1, 3) := by decide +kernel
theorem dL_ahead_388 : decode cL_ahead 388 = .ok (.goto (-146), 3) := by decide +kernel
theorem dL_ahead_391 : decode cL_ahead 391 = .ok (.iinc 10 1, 3) := by decide +kernel
theorem dL_ahead_394 : decode cL_ahead 394 = .ok (.goto (-167), 3) := by decide +kernel
theorem dL_ahead_397 : decode cL_ahead 397 = .ok (.aload_n 0, 1) := by decide +kernel
theorem dL_ahead_398 : decode cL_ahead 398 = .ok (.iload 6, 2) := by decide +kernel
theorem dL_ahead_400 : decode cL_ahead 400 = .ok (.invokevirtual 9, 3) := by decide +kernel
theorem dL_ahead_403 : decode cL_ahead 403 = .ok (.istore 10, 2) := by decide +kernel
theorem dL_ahead_405 : decode cL_ahead 405 = .ok (.iload 9, 2) := by decide +kernel
theorem dL_ahead_407 : decode cL_ahead 407 = .ok (.ifCond .eq 47, 3) := by decide +kernel
theorem dL_ahead_410 : decode cL_ahead 410 = .ok (.aload_n 0, 1) := by decide +kernel
theorem dL_ahead_411 : decode cL_ahead 411 = .ok (.iload 6, 2) := by decide +kernel
theorem dL_ahead_413 : decode cL_ahead 413 = .ok (.iload 8, 2) := by decide +kernel
theorem dL_ahead_415 : decode cL_ahead 415 = .ok (.invokevirtual 41, 3) := by decide +kernel
theorem dL_ahead_418 : decode cL_ahead 418 = .ok (.iload 10, 2) := by decide +kernel
theorem dL_ahead_420 : decode cL_ahead 420 = .ok (.if_icmp .ne 34, 3) := by decide +kernel
theorem dL_ahead_423 : decode cL_ahead 423 = .ok (.aload_n 0, 1) := by decide +kernel
theorem dL_ahead_424 : decode cL_ahead 424 = .ok (.iload 6, 2) := by decide +kernel
theorem dL_ahead_426 : decode cL_ahead 426 = .ok (.invokevirtual 9, 3) := by decide +kernel
theorem dL_ahead_429 : decode cL_ahead 429 = .ok (.iload 8, 2) := by decide +kernel
theorem dL_ahead_431 : decode cL_ahead 431 = .ok (.if_icmp .ne 23, 3) := by decide +kernel
theorem dL_ahead_434 : decode cL_ahead 434 = .ok (.aload_n 0, 1) := by decide +kernel
theorem dL_ahead_435 : decode cL_ahead 435 = .ok (.invokevirtual 136, 3) := by decide +kernel
theorem dL_ahead_438 : decode cL_ahead 438 = .ok (.ifCond .lt 16, 3) := by decide +kernel
theorem dL_ahead_441 : decode cL_ahead 441 = .ok (.aload_n 0, 1) := by decide +kernel
theorem dL_ahead_442 : decode cL_ahead 442 = .ok (.invokestatic 147, 3) := by decide +kernel
theorem dL_ahead_445 : decode cL_ahead 445 = .ok (.lload_n 2, 1) := by decide +kernel
theorem dL_ahead_446 : decode cL_ahead 446 = .ok (.lcmp, 1) := by decide +kernel
theorem dL_ahead_447 : decode cL_ahead 447 = .ok (.ifCond .ne 7, 3) := by decide +kernel
theorem dL_ahead_450 : decode cL_ahead 450 = .ok (.iconst 1, 1) := by decide +kernel
theorem dL_ahead_451 : decode cL_ahead 451 = .ok (.goto 4, 3) := by decide +kernel
theorem dL_ahead_454 : decode cL_ahead 454 = .ok (.iconst 0, 1) := by decide +kernel
theorem dL_ahead_455 : decode cL_ahead 455 = .ok (.istore 9, 2) := by decide +kernel
theorem dL_ahead_457 : decode cL_ahead 457 = .ok (.iload 9, 2) := by decide +kernel
theorem dL_ahead_459 : decode cL_ahead 459 = .ok (.ifCond .eq 35, 3) := by decide +kernel
theorem dL_ahead_462 : decode cL_ahead 462 = .ok (.aload_n 0, 1) := by decide +kernel
theorem dL_ahead_463 : decode cL_ahead 463 = .ok (.iconst 1, 1) := by decide +kernel
theorem dL_ahead_464 : decode cL_ahead 464 = .ok (.invokevirtual 110, 3) := by decide +kernel
theorem dL_ahead_467 : decode cL_ahead 467 = .ok (.iload 5, 2) := by decide +kernel
theorem dL_ahead_469 : decode cL_ahead 469 = .ok (.if_icmp .ne 25, 3) := by decide +kernel
theorem dL_ahead_472 : decode cL_ahead 472 = .ok (.aload_n 0, 1) := by decide +kernel
theorem dL_ahead_473 : decode cL_ahead 473 = .ok (.invokestatic 147, 3) := by decide +kernel
theorem dL_ahead_476 : decode cL_ahead 476 = .ok (.lload_n 2, 1) := by decide +kernel
theorem dL_ahead_477 : decode cL_ahead 477 = .ok (.lcmp, 1) := by decide +kernel
theorem dL_ahead_478 : decode cL_ahead 478 = .ok (.ifCond .ne 16, 3) := by decide +kernel
theorem dL_ahead_481 : decode cL_ahead 481 = .ok (.aload_n 0, 1) := by decide +kernel
theorem dL_ahead_482 : decode cL_ahead 482 = .ok (.invokevirtual 136, 3) := by decide +kernel
theorem dL_ahead_485 : decode cL_ahead 485 = .ok (.bipush (-3), 2) := by decide +kernel
theorem dL_ahead_487 : decode cL_ahead 487 = .ok (.if_icmp .ne 7, 3) := by decide +kernel
theorem dL_ahead_490 : decode cL_ahead 490 = .ok (.iconst 1, 1) := by decide +kernel
theorem dL_ahead_491 : decode cL_ahead 491 = .ok (.goto 4, 3) := by decide +kernel
theorem dL_ahead_494 : decode cL_ahead 494 = .ok (.iconst 0, 1) := by decide +kernel
theorem dL_ahead_495 : decode cL_ahead 495 = .ok (.ireturn, 1) := by decide +kernel
theorem dL_law_0 : decode cL_law 0 = .ok (.new 10, 3) := by decide +kernel
theorem dL_law_3 : decode cL_law 3 = .ok (.dup, 1) := by decide +kernel
theorem dL_law_4 : decode cL_law 4 = .ok (.invokespecial 166, 3) := by decide +kernel
theorem dL_law_7 : decode cL_law 7 = .ok (.astore_n 1, 1) := by decide +kernel
theorem dL_law_8 : decode cL_law 8 = .ok (.new 10, 3) := by decide +kernel
theorem dL_law_11 : decode cL_law 11 = .ok (.dup, 1) := by decide +kernel
theorem dL_law_12 : decode cL_law 12 = .ok (.invokespecial 166, 3) := by decide +kernel
theorem dL_law_15 : decode cL_law 15 = .ok (.astore_n 2, 1) := by decide +kernel
theorem dL_law_16 : decode cL_law 16 = .ok (.aload_n 2, 1) := by decide +kernel
theorem dL_law_17 : decode cL_law 17 = .ok (.invokestatic 167, 3) := by decide +kernel
theorem dL_law_20 : decode cL_law 20 = .ok (.istore_n 3, 1) := by decide +kernel
theorem dL_law_21 : decode cL_law 21 = .ok (.iconst 0, 1) := by decide +kernel
theorem dL_law_22 : decode cL_law 22 = .ok (.istore 4, 2) := by decide +kernel
theorem dL_law_24 : decode cL_law 24 = .ok (.iload 4, 2) := by decide +kernel
theorem dL_law_26 : decode cL_law 26 = .ok (.bipush 7, 2) := by decide +kernel
theorem dL_law_28 : decode cL_law 28 = .ok (.if_icmp .ge 110, 3) := by decide +kernel
theorem dL_law_31 : decode cL_law 31 = .ok (.iload_n 3, 1) := by decide +kernel
theorem dL_law_32 : decode cL_law 32 = .ok (.ifCond .eq 106, 3) := by decide +kernel
theorem dL_law_35 : decode cL_law 35 = .ok (.aload_n 0, 1) := by decide +kernel
theorem dL_law_36 : decode cL_law 36 = .ok (.iconst 2, 1) := by decide +kernel
theorem dL_law_37 : decode cL_law 37 = .ok (.iload 4, 2) := by decide +kernel
theorem dL_law_39 : decode cL_law 39 = .ok (.imul, 1) := by decide +kernel
theorem dL_law_40 : decode cL_law 40 = .ok (.invokestatic 171, 3) := by decide +kernel
theorem dL_law_43 : decode cL_law 43 = .ok (.istore 5, 2) := by decide +kernel
theorem dL_law_45 : decode cL_law 45 = .ok (.aload_n 0, 1) := by decide +kernel
theorem dL_law_46 : decode cL_law 46 = .ok (.iconst 2, 1) := by decide +kernel
theorem dL_law_47 : decode cL_law 47 = .ok (.iload 4, 2) := by decide +kernel
theorem dL_law_49 : decode cL_law 49 = .ok (.imul, 1) := by decide +kernel
theorem dL_law_50 : decode cL_law 50 = .ok (.iconst 1, 1) := by decide +kernel
theorem dL_law_51 : decode cL_law 51 = .ok (.iadd, 1) := by decide +kernel
theorem dL_law_52 : decode cL_law 52 = .ok (.invokestatic 171, 3) := by decide +kernel
theorem dL_law_55 : decode cL_law 55 = .ok (.istore 6, 2) := by decide +kernel
theorem dL_law_57 : decode cL_law 57 = .ok (.aload_n 1, 1) := by decide +kernel
theorem dL_law_58 : decode cL_law 58 = .ok (.iload 5, 2) := by decide +kernel
theorem dL_law_60 : decode cL_law 60 = .ok (.iload 6, 2) := by decide +kernel
theorem dL_law_62 : decode cL_law 62 = .ok (.invokestatic 175, 3) := by decide +kernel
theorem dL_law_65 : decode cL_law 65 = .ok (.aload_n 2, 1) := by decide +kernel
theorem dL_law_66 : decode cL_law 66 = .ok (.iload 5, 2) := by decide +kernel
theorem dL_law_68 : decode cL_law 68 = .ok (.iload 6, 2) := by decide +kernel
theorem dL_law_70 : decode cL_law 70 = .ok (.invokestatic 175, 3) := by decide +kernel
theorem dL_law_73 : decode cL_law 73 = .ok (.if_icmp .ne 57, 3) := by decide +kernel
theorem dL_law_76 : decode cL_law 76 = .ok (.aload_n 2, 1) := by decide +kernel
theorem dL_law_77 : decode cL_law 77 = .ok (.invokestatic 167, 3) := by decide +kernel
theorem dL_law_80 : decode cL_law 80 = .ok (.ifCond .eq 50, 3) := by decide +kernel
theorem dL_law_83 : decode cL_law 83 = .ok (.aload_n 1, 1) := by decide +kernel
theorem dL_law_84 : decode cL_law 84 = .ok (.aload_n 2, 1) := by decide +kernel
theorem dL_law_85 : decode cL_law 85 = .ok (.invokestatic 178, 3) := by decide +kernel
theorem dL_law_88 : decode cL_law 88 = .ok (.ifCond .eq 42, 3) := by decide +kernel
theorem dL_law_91 : decode cL_law 91 = .ok (.aload_n 1, 1) := by decide +kernel
theorem dL_law_92 : decode cL_law 92 = .ok (.iload 6, 2) := by decide +kernel
theorem dL_law_94 : decode cL_law 94 = .ok (.invokestatic 182, 3) := by decide +kernel
theorem dL_law_97 : decode cL_law 97 = .ok (.ifCond .eq 33, 3) := by decide +kernel
theorem dL_law_100 : decode cL_law 100 = .ok (.aload_n 1, 1) := by decide +kernel
theorem dL_law_101 : decode cL_law 101 = .ok (.iload 6, 2) := by decide +kernel
theorem dL_law_103 : decode cL_law 103 = .ok (.invokestatic 186, 3) := by decide +kernel
theorem dL_law_106 : decode cL_law 106 = .ok (.ifCond .eq 24, 3) := by decide +kernel
theorem dL_law_109 : decode cL_law 109 = .ok (.aload_n 2, 1) := by decide +kernel
theorem dL_law_110 : decode cL_law 110 = .ok (.iload 6, 2) := by decide +kernel
theorem dL_law_112 : decode cL_law 112 = .ok (.invokestatic 186, 3) := by decide +kernel
theorem dL_law_115 : decode cL_law 115 = .ok (.ifCond .eq 15, 3) := by decide +kernel
theorem dL_law_118 : decode cL_law 118 = .ok (.aload_n 1, 1) := by decide +kernel
theorem dL_law_119 : decode cL_law 119 = .ok (.aload_n 2, 1) := by decide +kernel
theorem dL_law_120 : decode cL_law 120 = .ok (.invokestatic 178, 3) := by decide +kernel
theorem dL_law_123 : decode cL_law 123 = .ok (.ifCond .eq 7, 3) := by decide +kernel
theorem dL_law_126 : decode cL_law 126 = .ok (.iconst 1, 1) := by decide +kernel
theorem dL_law_127 : decode cL_law 127 = .ok (.goto 4, 3) := by decide +kernel
theorem dL_law_130 : decode cL_law 130 = .ok (.iconst 0, 1) := by decide +kernel
theorem dL_law_131 : decode cL_law 131 = .ok (.istore_n 3, 1) := by decide +kernel
theorem dL_law_132 : decode cL_law 132 = .ok (.iinc 4 1, 3) := by decide +kernel
theorem dL_law_135 : decode cL_law 135 = .ok (.goto (-111), 3) := by decide +kernel
theorem dL_law_138 : decode cL_law 138 = .ok (.iload_n 3, 1) := by decide +kernel
theorem dL_law_139 : decode cL_law 139 = .ok (.ireturn, 1) := by decide +kernel
