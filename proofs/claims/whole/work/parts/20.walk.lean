theorem dX12_solves_0 : decode cX12_solves 0 = .ok (.aload_n 0, 1) := by decide +kernel
theorem dX12_solves_1 : decode cX12_solves 1 = .ok (.iconst 1, 1) := by decide +kernel
theorem dX12_solves_2 : decode cX12_solves 2 = .ok (.putfield 110, 3) := by decide +kernel
theorem dX12_solves_5 : decode cX12_solves 5 = .ok (.aload_n 0, 1) := by decide +kernel
theorem dX12_solves_6 : decode cX12_solves 6 = .ok (.lconst 0, 1) := by decide +kernel
theorem dX12_solves_7 : decode cX12_solves 7 = .ok (.putfield 126, 3) := by decide +kernel
theorem dX12_solves_10 : decode cX12_solves 10 = .ok (.aload_n 0, 1) := by decide +kernel
theorem dX12_solves_11 : decode cX12_solves 11 = .ok (.lconst 0, 1) := by decide +kernel
theorem dX12_solves_12 : decode cX12_solves 12 = .ok (.putfield 114, 3) := by decide +kernel
theorem dX12_solves_15 : decode cX12_solves 15 = .ok (.aload_n 0, 1) := by decide +kernel
theorem dX12_solves_16 : decode cX12_solves 16 = .ok (.iconst 0, 1) := by decide +kernel
theorem dX12_solves_17 : decode cX12_solves 17 = .ok (.putfield 132, 3) := by decide +kernel
theorem dX12_solves_20 : decode cX12_solves 20 = .ok (.aload_n 0, 1) := by decide +kernel
theorem dX12_solves_21 : decode cX12_solves 21 = .ok (.iconst 0, 1) := by decide +kernel
theorem dX12_solves_22 : decode cX12_solves 22 = .ok (.putfield 123, 3) := by decide +kernel
theorem dX12_solves_25 : decode cX12_solves 25 = .ok (.aload_n 0, 1) := by decide +kernel
theorem dX12_solves_26 : decode cX12_solves 26 = .ok (.iload_n 1, 1) := by decide +kernel
theorem dX12_solves_27 : decode cX12_solves 27 = .ok (.iload_n 1, 1) := by decide +kernel
theorem dX12_solves_28 : decode cX12_solves 28 = .ok (.iconst 1, 1) := by decide +kernel
theorem dX12_solves_29 : decode cX12_solves 29 = .ok (.iadd, 1) := by decide +kernel
theorem dX12_solves_30 : decode cX12_solves 30 = .ok (.iconst 3, 1) := by decide +kernel
theorem dX12_solves_31 : decode cX12_solves 31 = .ok (.irem, 1) := by decide +kernel
theorem dX12_solves_32 : decode cX12_solves 32 = .ok (.iload_n 1, 1) := by decide +kernel
theorem dX12_solves_33 : decode cX12_solves 33 = .ok (.iconst 2, 1) := by decide +kernel
theorem dX12_solves_34 : decode cX12_solves 34 = .ok (.iadd, 1) := by decide +kernel
theorem dX12_solves_35 : decode cX12_solves 35 = .ok (.iconst 3, 1) := by decide +kernel
theorem dX12_solves_36 : decode cX12_solves 36 = .ok (.irem, 1) := by decide +kernel
theorem dX12_solves_37 : decode cX12_solves 37 = .ok (.invokevirtual 135, 3) := by decide +kernel
theorem dX12_solves_40 : decode cX12_solves 40 = .ok (.iconst 0, 1) := by decide +kernel
theorem dX12_solves_41 : decode cX12_solves 41 = .ok (.istore_n 2, 1) := by decide +kernel
theorem dX12_solves_42 : decode cX12_solves 42 = .ok (.iload_n 2, 1) := by decide +kernel
theorem dX12_solves_43 : decode cX12_solves 43 = .ok (.aload_n 0, 1) := by decide +kernel
theorem dX12_solves_44 : decode cX12_solves 44 = .ok (.getfield 103, 3) := by decide +kernel
theorem dX12_solves_47 : decode cX12_solves 47 = .ok (.if_icmp .ge 211, 3) := by decide +kernel
theorem dX12_solves_50 : decode cX12_solves 50 = .ok (.iconst 4, 1) := by decide +kernel
theorem dX12_solves_51 : decode cX12_solves 51 = .ok (.iload_n 2, 1) := by decide +kernel
theorem dX12_solves_52 : decode cX12_solves 52 = .ok (.imul, 1) := by decide +kernel
theorem dX12_solves_53 : decode cX12_solves 53 = .ok (.istore_n 3, 1) := by decide +kernel
theorem dX12_solves_54 : decode cX12_solves 54 = .ok (.aload_n 0, 1) := by decide +kernel
theorem dX12_solves_55 : decode cX12_solves 55 = .ok (.getfield 23, 3) := by decide +kernel
theorem dX12_solves_58 : decode cX12_solves 58 = .ok (.iload_n 3, 1) := by decide +kernel
theorem dX12_solves_59 : decode cX12_solves 59 = .ok (.iconst 1, 1) := by decide +kernel
theorem dX12_solves_60 : decode cX12_solves 60 = .ok (.iadd, 1) := by decide +kernel
theorem dX12_solves_61 : decode cX12_solves 61 = .ok (.laload, 1) := by decide +kernel
theorem dX12_solves_62 : decode cX12_solves 62 = .ok (.lconst 0, 1) := by decide +kernel
theorem dX12_solves_63 : decode cX12_solves 63 = .ok (.lcmp, 1) := by decide +kernel
theorem dX12_solves_64 : decode cX12_solves 64 = .ok (.ifCond .ne 39, 3) := by decide +kernel
theorem dX12_solves_67 : decode cX12_solves 67 = .ok (.aload_n 0, 1) := by decide +kernel
theorem dX12_solves_68 : decode cX12_solves 68 = .ok (.aload_n 0, 1) := by decide +kernel
theorem dX12_solves_69 : decode cX12_solves 69 = .ok (.getfield 23, 3) := by decide +kernel
theorem dX12_solves_72 : decode cX12_solves 72 = .ok (.iload_n 3, 1) := by decide +kernel
theorem dX12_solves_73 : decode cX12_solves 73 = .ok (.laload, 1) := by decide +kernel
theorem dX12_solves_74 : decode cX12_solves 74 = .ok (.aload_n 0, 1) := by decide +kernel
theorem dX12_solves_75 : decode cX12_solves 75 = .ok (.getfield 23, 3) := by decide +kernel
theorem dX12_solves_78 : decode cX12_solves 78 = .ok (.iload_n 3, 1) := by decide +kernel
theorem dX12_solves_79 : decode cX12_solves 79 = .ok (.iconst 2, 1) := by decide +kernel
theorem dX12_solves_80 : decode cX12_solves 80 = .ok (.iadd, 1) := by decide +kernel
theorem dX12_solves_81 : decode cX12_solves 81 = .ok (.laload, 1) := by decide +kernel
theorem dX12_solves_82 : decode cX12_solves 82 = .ok (.aload_n 0, 1) := by decide +kernel
theorem dX12_solves_83 : decode cX12_solves 83 = .ok (.getfield 23, 3) := by decide +kernel
theorem dX12_solves_86 : decode cX12_solves 86 = .ok (.iload_n 3, 1) := by decide +kernel
theorem dX12_solves_87 : decode cX12_solves 87 = .ok (.iconst 3, 1) := by decide +kernel
theorem dX12_solves_88 : decode cX12_solves 88 = .ok (.iadd, 1) := by decide +kernel
theorem dX12_solves_89 : decode cX12_solves 89 = .ok (.laload, 1) := by decide +kernel
theorem dX12_solves_90 : decode cX12_solves 90 = .ok (.lconst 1, 1) := by decide +kernel
theorem dX12_solves_91 : decode cX12_solves 91 = .ok (.lcmp, 1) := by decide +kernel
theorem dX12_solves_92 : decode cX12_solves 92 = .ok (.ifCond .ne 7, 3) := by decide +kernel
theorem dX12_solves_95 : decode cX12_solves 95 = .ok (.iconst 1, 1) := by decide +kernel
theorem dX12_solves_96 : decode cX12_solves 96 = .ok (.goto 4, 3) := by decide +kernel
theorem dX12_solves_99 : decode cX12_solves 99 = .ok (.iconst 0, 1) := by decide +kernel
theorem dX12_solves_100 : decode cX12_solves 100 = .ok (.invokevirtual 139, 3) := by decide +kernel
theorem dX12_solves_103 : decode cX12_solves 103 = .ok (.iconst 0, 1) := by decide +kernel
theorem dX12_solves_104 : decode cX12_solves 104 = .ok (.istore 4, 2) := by decide +kernel
theorem dX12_solves_106 : decode cX12_solves 106 = .ok (.iload 4, 2) := by decide +kernel
theorem dX12_solves_108 : decode cX12_solves 108 = .ok (.aload_n 0, 1) := by decide +kernel
theorem dX12_solves_109 : decode cX12_solves 109 = .ok (.getfield 103, 3) := by decide +kernel
theorem dX12_solves_112 : decode cX12_solves 112 = .ok (.if_icmp .ge 140, 3) := by decide +kernel
theorem dX12_solves_115 : decode cX12_solves 115 = .ok (.aload_n 0, 1) := by decide +kernel
theorem dX12_solves_116 : decode cX12_solves 116 = .ok (.getfield 23, 3) := by decide +kernel
theorem dX12_solves_119 : decode cX12_solves 119 = .ok (.iload_n 3, 1) := by decide +kernel
theorem dX12_solves_120 : decode cX12_solves 120 = .ok (.iconst 1, 1) := by decide +kernel
theorem dX12_solves_121 : decode cX12_solves 121 = .ok (.iadd, 1) := by decide +kernel
theorem dX12_solves_122 : decode cX12_solves 122 = .ok (.laload, 1) := by decide +kernel
theorem dX12_solves_123 : decode cX12_solves 123 = .ok (.lconst 0, 1) := by decide +kernel
theorem dX12_solves_124 : decode cX12_solves 124 = .ok (.lcmp, 1) := by decide +kernel
theorem dX12_solves_125 : decode cX12_solves 125 = .ok (.ifCond .le 127, 3) := by decide +kernel
theorem dX12_solves_128 : decode cX12_solves 128 = .ok (.iconst 4, 1) := by decide +kernel
theorem dX12_solves_129 : decode cX12_solves 129 = .ok (.iload 4, 2) := by decide +kernel
theorem dX12_solves_131 : decode cX12_solves 131 = .ok (.imul, 1) := by decide +kernel
theorem dX12_solves_132 : decode cX12_solves 132 = .ok (.istore 5, 2) := by decide +kernel
theorem dX12_solves_134 : decode cX12_solves 134 = .ok (.aload_n 0, 1) := by decide +kernel
theorem dX12_solves_135 : decode cX12_solves 135 = .ok (.getfield 23, 3) := by decide +kernel
theorem dX12_solves_138 : decode cX12_solves 138 = .ok (.iload 5, 2) := by decide +kernel
theorem dX12_solves_140 : decode cX12_solves 140 = .ok (.iconst 1, 1) := by decide +kernel
theorem dX12_solves_141 : decode cX12_solves 141 = .ok (.iadd, 1) := by decide +kernel
theorem dX12_solves_142 : decode cX12_solves 142 = .ok (.laload, 1) := by decide +kernel
theorem dX12_solves_143 : decode cX12_solves 143 = .ok (.lconst 0, 1) := by decide +kernel
theorem dX12_solves_144 : decode cX12_solves 144 = .ok (.lcmp, 1) := by decide +kernel
theorem dX12_solves_145 : decode cX12_solves 145 = .ok (.ifCond .ge 101, 3) := by decide +kernel
theorem dX12_solves_148 : decode cX12_solves 148 = .ok (.aload_n 0, 1) := by decide +kernel
theorem dX12_solves_149 : decode cX12_solves 149 = .ok (.getfield 23, 3) := by decide +kernel
theorem dX12_solves_152 : decode cX12_solves 152 = .ok (.iload 5, 2) := by decide +kernel
theorem dX12_solves_154 : decode cX12_solves 154 = .ok (.iconst 1, 1) := by decide +kernel
theorem dX12_solves_155 : decode cX12_solves 155 = .ok (.iadd, 1) := by decide +kernel
theorem dX12_solves_156 : decode cX12_solves 156 = .ok (.laload, 1) := by decide +kernel
theorem dX12_solves_157 : decode cX12_solves 157 = .ok (.lneg, 1) := by decide +kernel
theorem dX12_solves_158 : decode cX12_solves 158 = .ok (.lstore 6, 2) := by decide +kernel
theorem dX12_solves_160 : decode cX12_solves 160 = .ok (.aload_n 0, 1) := by decide +kernel
theorem dX12_solves_161 : decode cX12_solves 161 = .ok (.getfield 23, 3) := by decide +kernel
theorem dX12_solves_164 : decode cX12_solves 164 = .ok (.iload_n 3, 1) := by decide +kernel
theorem dX12_solves_165 : decode cX12_solves 165 = .ok (.iconst 1, 1) := by decide +kernel
theorem dX12_solves_166 : decode cX12_solves 166 = .ok (.iadd, 1) := by decide +kernel
theorem dX12_solves_167 : decode cX12_solves 167 = .ok (.laload, 1) := by decide +kernel
theorem dX12_solves_168 : decode cX12_solves 168 = .ok (.lstore 8, 2) := by decide +kernel
theorem dX12_solves_170 : decode cX12_solves 170 = .ok (.aload_n 0, 1) := by decide +kernel
theorem dX12_solves_171 : decode cX12_solves 171 = .ok (.lload 6, 2) := by decide +kernel
theorem dX12_solves_173 : decode cX12_solves 173 = .ok (.aload_n 0, 1) := by decide +kernel
theorem dX12_solves_174 : decode cX12_solves 174 = .ok (.getfield 23, 3) := by decide +kernel
theorem dX12_solves_177 : decode cX12_solves 177 = .ok (.iload_n 3, 1) := by decide +kernel
theorem dX12_solves_178 : decode cX12_solves 178 = .ok (.laload, 1) := by decide +kernel
theorem dX12_solves_179 : decode cX12_solves 179 = .ok (.lmul, 1) := by decide +kernel
theorem dX12_solves_180 : decode cX12_solves 180 = .ok (.lload 8, 2) := by decide +kernel
theorem dX12_solves_182 : decode cX12_solves 182 = .ok (.aload_n 0, 1) := by decide +kernel
theorem dX12_solves_183 : decode cX12_solves 183 = .ok (.getfield 23, 3) := by decide +kernel
theorem dX12_solves_186 : decode cX12_solves 186 = .ok (.iload 5, 2) := by decide +kernel
theorem dX12_solves_188 : decode cX12_solves 188 = .ok (.laload, 1) := by decide +kernel
theorem dX12_solves_189 : decode cX12_solves 189 = .ok (.lmul, 1) := by decide +kernel
theorem dX12_solves_190 : decode cX12_solves 190 = .ok (.ladd, 1) := by decide +kernel
theorem dX12_solves_191 : decode cX12_solves 191 = .ok (.lload 6, 2) := by decide +kernel
theorem dX12_solves_193 : decode cX12_solves 193 = .ok (.aload_n 0, 1) := by decide +kernel
theorem dX12_solves_194 : decode cX12_solves 194 = .ok (.getfield 23, 3) := by decide +kernel
theorem dX12_solves_197 : decode cX12_solves 197 = .ok (.iload_n 3, 1) := by decide +kernel
theorem dX12_solves_198 : decode cX12_solves 198 = .ok (.iconst 2, 1) := by decide +kernel
theorem dX12_solves_199 : decode cX12_solves 199 = .ok (.iadd, 1) := by decide +kernel
theorem dX12_solves_200 : decode cX12_solves 200 = .ok (.laload, 1) := by decide +kernel
theorem dX12_solves_201 : decode cX12_solves 201 = .ok (.lmul, 1) := by decide +kernel
theorem dX12_solves_202 : decode cX12_solves 202 = .ok (.lload 8, 2) := by decide +kernel
theorem dX12_solves_204 : decode cX12_solves 204 = .ok (.aload_n 0, 1) := by decide +kernel
theorem dX12_solves_205 : decode cX12_solves 205 = .ok (.getfield 23, 3) := by decide +kernel
theorem dX12_solves_208 : decode cX12_solves 208 = .ok (.iload 5, 2) := by decide +kernel
theorem dX12_solves_210 : decode cX12_solves 210 = .ok (.iconst 2, 1) := by decide +kernel
theorem dX12_solves_211 : decode cX12_solves 211 = .ok (.iadd, 1) := by decide +kernel
theorem dX12_solves_212 : decode cX12_solves 212 = .ok (.laload, 1) := by decide +kernel
theorem dX12_solves_213 : decode cX12_solves 213 = .ok (.lmul, 1) := by decide +kernel
theorem dX12_solves_214 : decode cX12_solves 214 = .ok (.ladd, 1) := by decide +kernel
theorem dX12_solves_215 : decode cX12_solves 215 = .ok (.aload_n 0, 1) := by decide +kernel
theorem dX12_solves_216 : decode cX12_solves 216 = .ok (.getfield 23, 3) := by decide +kernel
theorem dX12_solves_219 : decode cX12_solves 219 = .ok (.iload_n 3, 1) := by decide +kernel
theorem dX12_solves_220 : decode cX12_solves 220 = .ok (.iconst 3, 1) := by decide +kernel
theorem dX12_solves_221 : decode cX12_solves 221 = .ok (.iadd, 1) := by decide +kernel
theorem dX12_solves_222 : decode cX12_solves 222 = .ok (.laload, 1) := by decide +kernel
theorem dX12_solves_223 : decode cX12_solves 223 = .ok (.aload_n 0, 1) := by decide +kernel
theorem dX12_solves_224 : decode cX12_solves 224 = .ok (.getfield 23, 3) := by decide +kernel
theorem dX12_solves_227 : decode cX12_solves 227 = .ok (.iload 5, 2) := by decide +kernel
theorem dX12_solves_229 : decode cX12_solves 229 = .ok (.iconst 3, 1) := by decide +kernel
theorem dX12_solves_230 : decode cX12_solves 230 = .ok (.iadd, 1) := by decide +kernel
theorem dX12_solves_231 : decode cX12_solves 231 = .ok (.laload, 1) := by decide +kernel
theorem dX12_solves_232 : decode cX12_solves 232 = .ok (.ladd, 1) := by decide +kernel
theorem dX12_solves_233 : decode cX12_solves 233 = .ok (.lconst 0, 1) := by decide +kernel
theorem dX12_solves_234 : decode cX12_solves 234 = .ok (.lcmp, 1) := by decide +kernel
theorem dX12_solves_235 : decode cX12_solves 235 = .ok (.ifCond .le 7, 3) := by decide +kernel
theorem dX12_solves_238 : decode cX12_solves 238 = .ok (.iconst 1, 1) := by decide +kernel
theorem dX12_solves_239 : decode cX12_solves 239 = .ok (.goto 4, 3) := by decide +kernel
theorem dX12_solves_242 : decode cX12_solves 242 = .ok (.iconst 0, 1) := by decide +kernel
theorem dX12_solves_243 : decode cX12_solves 243 = .ok (.invokevirtual 139, 3) := by decide +kernel
theorem dX12_solves_246 : decode cX12_solves 246 = .ok (.iinc 4 1, 3) := by decide +kernel
theorem dX12_solves_249 : decode cX12_solves 249 = .ok (.goto (-143), 3) := by decide +kernel
theorem dX12_solves_252 : decode cX12_solves 252 = .ok (.iinc 2 1, 3) := by decide +kernel
theorem dX12_solves_255 : decode cX12_solves 255 = .ok (.goto (-213), 3) := by decide +kernel
theorem dX12_solves_258 : decode cX12_solves 258 = .ok (.aload_n 0, 1) := by decide +kernel
theorem dX12_solves_259 : decode cX12_solves 259 = .ok (.getfield 126, 3) := by decide +kernel
theorem dX12_solves_262 : decode cX12_solves 262 = .ok (.lconst 0, 1) := by decide +kernel
theorem dX12_solves_263 : decode cX12_solves 263 = .ok (.lcmp, 1) := by decide +kernel
theorem dX12_solves_264 : decode cX12_solves 264 = .ok (.ifCond .le 74, 3) := by decide +kernel
theorem dX12_solves_267 : decode cX12_solves 267 = .ok (.aload_n 0, 1) := by decide +kernel
theorem dX12_solves_268 : decode cX12_solves 268 = .ok (.getfield 114, 3) := by decide +kernel
theorem dX12_solves_271 : decode cX12_solves 271 = .ok (.lconst 0, 1) := by decide +kernel
theorem dX12_solves_272 : decode cX12_solves 272 = .ok (.lcmp, 1) := by decide +kernel
theorem dX12_solves_273 : decode cX12_solves 273 = .ok (.ifCond .le 65, 3) := by decide +kernel
theorem dX12_solves_276 : decode cX12_solves 276 = .ok (.aload_n 0, 1) := by decide +kernel
theorem dX12_solves_277 : decode cX12_solves 277 = .ok (.getfield 120, 3) := by decide +kernel
theorem dX12_solves_280 : decode cX12_solves 280 = .ok (.aload_n 0, 1) := by decide +kernel
theorem dX12_solves_281 : decode cX12_solves 281 = .ok (.getfield 126, 3) := by decide +kernel
theorem dX12_solves_284 : decode cX12_solves 284 = .ok (.lmul, 1) := by decide +kernel
theorem dX12_solves_285 : decode cX12_solves 285 = .ok (.aload_n 0, 1) := by decide +kernel
theorem dX12_solves_286 : decode cX12_solves 286 = .ok (.getfield 129, 3) := by decide +kernel
theorem dX12_solves_289 : decode cX12_solves 289 = .ok (.aload_n 0, 1) := by decide +kernel
theorem dX12_solves_290 : decode cX12_solves 290 = .ok (.getfield 114, 3) := by decide +kernel
theorem dX12_solves_293 : decode cX12_solves 293 = .ok (.lmul, 1) := by decide +kernel
theorem dX12_solves_294 : decode cX12_solves 294 = .ok (.lsub, 1) := by decide +kernel
theorem dX12_solves_295 : decode cX12_solves 295 = .ok (.lstore_n 2, 1) := by decide +kernel
theorem dX12_solves_296 : decode cX12_solves 296 = .ok (.aload_n 0, 1) := by decide +kernel
theorem dX12_solves_297 : decode cX12_solves 297 = .ok (.aload_n 0, 1) := by decide +kernel
theorem dX12_solves_298 : decode cX12_solves 298 = .ok (.getfield 110, 3) := by decide +kernel
theorem dX12_solves_301 : decode cX12_solves 301 = .ok (.ifCond .eq 33, 3) := by decide +kernel
theorem dX12_solves_304 : decode cX12_solves 304 = .ok (.lload_n 2, 1) := by decide +kernel
theorem dX12_solves_305 : decode cX12_solves 305 = .ok (.lconst 0, 1) := by decide +kernel
theorem dX12_solves_306 : decode cX12_solves 306 = .ok (.lcmp, 1) := by decide +kernel
theorem dX12_solves_307 : decode cX12_solves 307 = .ok (.ifCond .gt 23, 3) := by decide +kernel
theorem dX12_solves_310 : decode cX12_solves 310 = .ok (.lload_n 2, 1) := by decide +kernel
theorem dX12_solves_311 : decode cX12_solves 311 = .ok (.lconst 0, 1) := by decide +kernel
theorem dX12_solves_312 : decode cX12_solves 312 = .ok (.lcmp, 1) := by decide +kernel
theorem dX12_solves_313 : decode cX12_solves 313 = .ok (.ifCond .ne 21, 3) := by decide +kernel
theorem dX12_solves_316 : decode cX12_solves 316 = .ok (.aload_n 0, 1) := by decide +kernel
theorem dX12_solves_317 : decode cX12_solves 317 = .ok (.getfield 132, 3) := by decide +kernel
theorem dX12_solves_320 : decode cX12_solves 320 = .ok (.ifCond .ne 14, 3) := by decide +kernel
theorem dX12_solves_323 : decode cX12_solves 323 = .ok (.aload_n 0, 1) := by decide +kernel
theorem dX12_solves_324 : decode cX12_solves 324 = .ok (.getfield 123, 3) := by decide +kernel
theorem dX12_solves_327 : decode cX12_solves 327 = .ok (.ifCond .ne 7, 3) := by decide +kernel
theorem dX12_solves_330 : decode cX12_solves 330 = .ok (.iconst 1, 1) := by decide +kernel
theorem dX12_solves_331 : decode cX12_solves 331 = .ok (.goto 4, 3) := by decide +kernel
theorem dX12_solves_334 : decode cX12_solves 334 = .ok (.iconst 0, 1) := by decide +kernel
theorem dX12_solves_335 : decode cX12_solves 335 = .ok (.putfield 110, 3) := by decide +kernel
theorem dX12_solves_338 : decode cX12_solves 338 = .ok (.return_, 1) := by decide +kernel
def rm_fMM_solves : Room := { frames := 3, cells := 0, slots := 0, locals := 119 }
set_option maxHeartbeats 4000000 in
set_option maxRecDepth 100000 in
theorem c_fMM_solves (l : Launch) (X : eX) (sz : Nat) (a1 : Int32) (σ : sT) (σz : sT) (h0 : fMM_solves a1 σ = some σz) : ctV l yX12_solves cX12_solves 10 none rm_fMM_solves [.ref (X.2.1 33), .int a1] (wM X) (tM X) (aM X) X sz σ σz := by
  refine ct_of (by decide +kernel) (Nat.le_of_ble_eq_true rfl) ?_
  intro p e s m args below meth c ls hz B hl Z
  have B : Bd p s m args meth c RX12 cX12_solves 10 none := B
  have hl : lv_has ls 10 [(0, .ref (X.2.1 33)), (1, .int a1)] := hl
  have hx := B.1
  have hb := B.2.1
  unfold fMM_solves at h0
  refine lv_aload_n hx hb dX12_solves_0 rfl (lv_at hl 0 rfl) ?_
  refine lv_iconst (v := (1 : Int32)) hx hb dX12_solves_1 (by decide) ?_
  refine s_33_8 B Z (by decide) kf_RX12_110 dX12_solves_2 (fun H locs Z => ?_)
  obtain ⟨σ1, eσ1, h1⟩ := dlt_s h0
  clear h0
  replace Z := Wd.eq eσ1 Z
  clear eσ1
  refine lv_aload_n hx hb dX12_solves_5 rfl (lv_at hl 0 rfl) ?_
  refine lv_lconst (v := (0 : Int64)) hx hb dX12_solves_6 (by decide) ?_
  refine s_33_10 B Z kf_RX12_126 dX12_solves_7 (fun H locs Z => ?_)
  obtain ⟨σ2, eσ2, h2⟩ := dlt_s h1
  clear h1
  replace Z := Wd.eq eσ2 Z
  clear eσ2
  refine lv_aload_n hx hb dX12_solves_10 rfl (lv_at hl 0 rfl) ?_
  refine lv_lconst (v := (0 : Int64)) hx hb dX12_solves_11 (by decide) ?_
  refine s_33_13 B Z kf_RX12_114 dX12_solves_12 (fun H locs Z => ?_)
  obtain ⟨σ3, eσ3, h3⟩ := dlt_s h2
  clear h2
  replace Z := Wd.eq eσ3 Z
  clear eσ3
  refine lv_aload_n hx hb dX12_solves_15 rfl (lv_at hl 0 rfl) ?_
  refine lv_iconst (v := (0 : Int32)) hx hb dX12_solves_16 (by decide) ?_
  refine s_33_11 B Z (by decide) kf_RX12_132 dX12_solves_17 (fun H locs Z => ?_)
  obtain ⟨σ4, eσ4, h4⟩ := dlt_s h3
  clear h3
  replace Z := Wd.eq eσ4 Z
  clear eσ4
  refine lv_aload_n hx hb dX12_solves_20 rfl (lv_at hl 0 rfl) ?_
  refine lv_iconst (v := (0 : Int32)) hx hb dX12_solves_21 (by decide) ?_
  refine s_33_14 B Z (by decide) kf_RX12_123 dX12_solves_22 (fun H locs Z => ?_)
  obtain ⟨σ5, eσ5, h5⟩ := dlt_s h4
  clear h4
  replace Z := Wd.eq eσ5 Z
  clear eσ5
  refine lv_aload_n hx hb dX12_solves_25 rfl (lv_at hl 0 rfl) ?_
  refine lv_iload_n hx hb dX12_solves_26 rfl (lv_at hl 1 rfl) ?_
  refine lv_iload_n hx hb dX12_solves_27 rfl (lv_at hl 1 rfl) ?_
  refine lv_iconst (v := (1 : Int32)) hx hb dX12_solves_28 (by decide) ?_
  refine lv_iadd hx hb dX12_solves_29 ?_
  refine lv_iconst (v := (3 : Int32)) hx hb dX12_solves_30 (by decide) ?_
  refine lv_irem hx hb dX12_solves_31 (by decide) ?_
  refine lv_iload_n hx hb dX12_solves_32 rfl (lv_at hl 1 rfl) ?_
  refine lv_iconst (v := (2 : Int32)) hx hb dX12_solves_33 (by decide) ?_
  refine lv_iadd hx hb dX12_solves_34 ?_
  refine lv_iconst (v := (3 : Int32)) hx hb dX12_solves_35 (by decide) ?_
  refine lv_irem hx hb dX12_solves_36 (by decide) ?_
  obtain ⟨σ7, hc5, h6⟩ := db1_s h5
  clear h5
  refine cV_V [.int a1, .int ((a1 + (1 : Int32)) - (a1 + (1 : Int32)) / (3 : Int32) * (3 : Int32)), .int ((a1 + (2 : Int32)) - (a1 + (2 : Int32)) / (3 : Int32) * (3 : Int32))] [] B mx_yX12_loses (c_fMM_loses l X _ a1 ((a1 + (1 : Int32)) - (a1 + (1 : Int32)) / (3 : Int32) * (3 : Int32)) ((a1 + (2 : Int32)) - (a1 + (2 : Int32)) / (3 : Int32) * (3 : Int32)) σ5 σ7 hc5) kl_RX12_135 mi_yX12_loses (rv_33 _ _) hcl_12 Z hl rfl rfl ⟨Nat.le_of_ble_eq_true rfl, Nat.le_of_ble_eq_true rfl⟩ rfl rfl (Nat.le_of_ble_eq_true rfl) dX12_solves_37 (fun H locs Z => ?_)
  clear hc5
  refine lv_iconst (v := (0 : Int32)) hx hb dX12_solves_40 (by decide) ?_
  refine lv_istore_n (lv' := [(2, .int (0 : Int32)), (0, .ref (X.2.1 33)), (1, .int a1)]) hx hb dX12_solves_41 rfl hl (by decide) rfl (fun ls hl => ?_)
  obtain ⟨K11, eK11, h31⟩ := dlt_s h6
  clear h6
  have kK11 : ∀ (σ10 : sT) (H : Heap) (locs : List Loc) (ls : Array Slot), Wd (wM X) (tM X) (aM X) X s σ10 H locs → lv_has ls 10 [(0, .ref (X.2.1 33))] → K11 σ10 = some σz → W p l e rm_fMM_solves s m args below meth c H locs 0 0 (MQ below (va_Qv (fun u => u = σz) (poW (wM X) (tM X) (aM X) X sz) (aA (aM X) sz)) args s 0 0 (aA (aM X) sz)) (F0 m 258 ls []) := by
    intro σ10 H locs ls Z hl h7
    rw [eK11] at h7
    refine lv_aload_n hx hb dX12_solves_258 rfl (lv_at hl 0 rfl) ?_
    refine g_33_10 B Z kf_RX12_126 dX12_solves_259 ?_
    refine lv_lconst (v := (0 : Int64)) hx hb dX12_solves_262 (by decide) ?_
    refine W.lcmp hx hb dX12_solves_263 ?_
    refine lv_if_le (tgt := 338) hx hb dX12_solves_264 (by decide) (fun c12 => ?_) (fun c12 => ?_)
    · have h8 := dit h7 c12
      clear h7
      exact reV B Z hz h8 dX12_solves_338
    · have h9 := dif h7 c12
      clear h7
      refine lv_aload_n hx hb dX12_solves_267 rfl (lv_at hl 0 rfl) ?_
      refine g_33_13 B Z kf_RX12_114 dX12_solves_268 ?_
      refine lv_lconst (v := (0 : Int64)) hx hb dX12_solves_271 (by decide) ?_
      refine W.lcmp hx hb dX12_solves_272 ?_
      refine lv_if_le (tgt := 338) hx hb dX12_solves_273 (by decide) (fun c13 => ?_) (fun c13 => ?_)
      · have h10 := dit h9 c13
        clear h9
        exact reV B Z hz h10 dX12_solves_338
      · have h11 := dif h9 c13
        clear h9
        refine lv_aload_n hx hb dX12_solves_276 rfl (lv_at hl 0 rfl) ?_
        refine g_33_12 B Z kf_RX12_120 dX12_solves_277 ?_
        refine lv_aload_n hx hb dX12_solves_280 rfl (lv_at hl 0 rfl) ?_
        refine g_33_10 B Z kf_RX12_126 dX12_solves_281 ?_
        refine lv_lmul hx hb dX12_solves_284 ?_
        refine lv_aload_n hx hb dX12_solves_285 rfl (lv_at hl 0 rfl) ?_
        refine g_33_9 B Z kf_RX12_129 dX12_solves_286 ?_
        refine lv_aload_n hx hb dX12_solves_289 rfl (lv_at hl 0 rfl) ?_
        refine g_33_13 B Z kf_RX12_114 dX12_solves_290 ?_
        refine lv_lmul hx hb dX12_solves_293 ?_
        refine lv_lsub hx hb dX12_solves_294 ?_
        refine lv_topl (fun x14 ex14 => ?_)
        have h12 := dlt_e ex14 h11
        clear ex14 h11
        refine lv_lstore_n (lv' := [(2, .long x14), (0, .ref (X.2.1 33))]) hx hb dX12_solves_295 rfl hl (by decide) rfl (fun ls hl => ?_)
        refine lv_aload_n hx hb dX12_solves_296 rfl (lv_at hl 1 rfl) ?_
        refine lv_aload_n hx hb dX12_solves_297 rfl (lv_at hl 1 rfl) ?_
        refine g_33_8 B Z kf_RX12_110 dX12_solves_298 ?_
        obtain ⟨J16, eJ16, h16⟩ := dlt_s h12
        clear h12
        have kJ16 : ∀ (x15 : Int32) (H : Heap) (locs : List Loc) (ls : Array Slot), Wd (wM X) (tM X) (aM X) X s σ10 H locs → lv_has ls 10 [] → J16 x15 = some σz → W p l e rm_fMM_solves s m args below meth c H locs 0 0 (MQ below (va_Qv (fun u => u = σz) (poW (wM X) (tM X) (aM X) X sz) (aA (aM X) sz)) args s 0 0 (aA (aM X) sz)) (F0 m 335 ls [.int x15, .ref (X.2.1 33)]) := by
          intro x15 H locs ls Z hl h13
          rw [eJ16] at h13
          obtain ⟨z17, h14⟩ := dck_s h13
          clear h13
          refine s_33_8 B Z z17 kf_RX12_110 dX12_solves_335 (fun H locs Z => ?_)
          obtain ⟨σ18, eσ18, h15⟩ := dlt_s h14
          clear h14
          replace Z := Wd.eq eσ18 Z
          clear eσ18
          exact reV B Z hz h15 dX12_solves_338
        clear eJ16
        obtain ⟨J19, eJ19, h18⟩ := dlt_s h16
        clear h16
        have kJ19 : ∀ (H : Heap) (locs : List Loc) (ls : Array Slot), Wd (wM X) (tM X) (aM X) X s σ10 H locs → lv_has ls 10 [] → J19 () = some σz → W p l e rm_fMM_solves s m args below meth c H locs 0 0 (MQ below (va_Qv (fun u => u = σz) (poW (wM X) (tM X) (aM X) X sz) (aA (aM X) sz)) args s 0 0 (aA (aM X) sz)) (F0 m 334 ls [.ref (X.2.1 33)]) := by
          intro  H locs ls Z hl h17
          rw [eJ19] at h17
          refine lv_iconst (v := (0 : Int32)) hx hb dX12_solves_334 (by decide) ?_
          exact kJ16 (0 : Int32) _ _ _ Z (lv_sub hl [] rfl) h17
        clear eJ19
        refine lv_if_eq (tgt := 334) hx hb dX12_solves_301 (by decide) (fun c20 => ?_) (fun c20 => ?_)
        · have h19 := dit h18 c20
          clear h18
          exact kJ19  _ _ _ Z (lv_sub hl [] rfl) h19
        · have h20 := dif h18 c20
          clear h18
          refine lv_lload_n hx hb dX12_solves_304 rfl (lv_at hl 0 rfl) ?_
          refine lv_lconst (v := (0 : Int64)) hx hb dX12_solves_305 (by decide) ?_
          refine W.lcmp hx hb dX12_solves_306 ?_
          obtain ⟨J21, eJ21, h22⟩ := dlt_s h20
          clear h20
          have kJ21 : ∀ (H : Heap) (locs : List Loc) (ls : Array Slot), Wd (wM X) (tM X) (aM X) X s σ10 H locs → lv_has ls 10 [] → J21 () = some σz → W p l e rm_fMM_solves s m args below meth c H locs 0 0 (MQ below (va_Qv (fun u => u = σz) (poW (wM X) (tM X) (aM X) X sz) (aA (aM X) sz)) args s 0 0 (aA (aM X) sz)) (F0 m 330 ls [.ref (X.2.1 33)]) := by
            intro  H locs ls Z hl h21
            rw [eJ21] at h21
            refine lv_iconst (v := (1 : Int32)) hx hb dX12_solves_330 (by decide) ?_
            refine lv_goto (tgt := 335) hx hb dX12_solves_331 (by decide) ?_
            exact kJ16 (1 : Int32) _ _ _ Z (lv_sub hl [] rfl) h21
          clear eJ21
          refine lv_if_gt (tgt := 330) hx hb dX12_solves_307 (by decide) (fun c22 => ?_) (fun c22 => ?_)
          · have h23 := dit h22 c22
            clear h22
            exact kJ21  _ _ _ Z (lv_sub hl [] rfl) h23
          · have h24 := dif h22 c22
            clear h22
            refine lv_lload_n hx hb dX12_solves_310 rfl (lv_at hl 0 rfl) ?_
            refine lv_lconst (v := (0 : Int64)) hx hb dX12_solves_311 (by decide) ?_
            refine W.lcmp hx hb dX12_solves_312 ?_
            refine lv_if_ne (tgt := 334) hx hb dX12_solves_313 (by decide) (fun c23 => ?_) (fun c23 => ?_)
            · have h25 := dif h24 c23
              clear h24
              exact kJ19  _ _ _ Z (lv_sub hl [] rfl) h25
            · have h26 := dit h24 c23
              clear h24
              refine lv_aload_n hx hb dX12_solves_316 rfl (lv_at hl 1 rfl) ?_
              refine g_33_11 B Z kf_RX12_132 dX12_solves_317 ?_
              refine lv_if_ne (tgt := 334) hx hb dX12_solves_320 (by decide) (fun c24 => ?_) (fun c24 => ?_)
              · have h27 := dif h26 c24
                clear h26
                exact kJ19  _ _ _ Z (lv_sub hl [] rfl) h27
              · have h28 := dit h26 c24
                clear h26
                refine lv_aload_n hx hb dX12_solves_323 rfl (lv_at hl 1 rfl) ?_
                refine g_33_14 B Z kf_RX12_123 dX12_solves_324 ?_
                refine lv_if_ne (tgt := 334) hx hb dX12_solves_327 (by decide) (fun c25 => ?_) (fun c25 => ?_)
                · have h29 := dif h28 c25
                  clear h28
                  exact kJ19  _ _ _ Z (lv_sub hl [] rfl) h29
                · have h30 := dit h28 c25
                  clear h28
                  exact kJ21  _ _ _ Z (lv_sub hl [] rfl) h30
  clear eK11
  have lL42 : ∀ (n : Nat), ∀ (x8 : Int32) (σ9 : sT) (H : Heap) (locs : List Loc) (ls : Array Slot), Wd (wM X) (tM X) (aM X) X s σ9 H locs → lv_has ls 10 [(0, .ref (X.2.1 33)), (2, .int x8)] → fMM_solves_L42 K11 n x8 σ9 = some σz → W p l e rm_fMM_solves s m args below meth c H locs 0 0 (MQ below (va_Qv (fun u => u = σz) (poW (wM X) (tM X) (aM X) X sz) (aA (aM X) sz)) args s 0 0 (aA (aM X) sz)) (F0 m 42 ls []) := by
    intro n
    induction n with
    | zero =>
      intro x8 σ9 H locs ls Z hl h
      exact nomatch (show (none : Option (sT)) = some _ from h)
    | succ n26 ih30 =>
      intro x8 σ9 H locs ls Z hl h32
      unfold fMM_solves_L42 at h32
      refine lv_iload_n hx hb dX12_solves_42 rfl (lv_at hl 1 rfl) ?_
      refine lv_aload_n hx hb dX12_solves_43 rfl (lv_at hl 0 rfl) ?_
      refine g_33_7 B Z kf_RX12_103 dX12_solves_44 ?_
      refine lv_icmp_ge (tgt := 258) hx hb dX12_solves_47 (by decide) (fun c27 => ?_) (fun c27 => ?_)
      · have h33 := dit h32 c27
        clear h32
        exact kK11 σ9 _ _ _ Z (lv_sub hl [0] rfl) h33
      · have h34 := dif h32 c27
        clear h32
        refine lv_iconst (v := (4 : Int32)) hx hb dX12_solves_50 (by decide) ?_
        refine lv_iload_n hx hb dX12_solves_51 rfl (lv_at hl 1 rfl) ?_
        refine lv_imul hx hb dX12_solves_52 ?_
        refine lv_topi (fun x28 ex28 => ?_)
        have h35 := dlt_e ex28 h34
        clear ex28 h34
        refine lv_istore_n (lv' := [(3, .int x28), (0, .ref (X.2.1 33)), (2, .int x8)]) hx hb dX12_solves_53 rfl hl (by decide) rfl (fun ls hl => ?_)
        refine lv_aload_n hx hb dX12_solves_54 rfl (lv_at hl 1 rfl) ?_
        refine g_33_6 B Z kf_RX12_23 dX12_solves_55 ?_
        refine lv_iload_n hx hb dX12_solves_58 rfl (lv_at hl 0 rfl) ?_
        refine lv_iconst (v := (1 : Int32)) hx hb dX12_solves_59 (by decide) ?_
        refine lv_iadd hx hb dX12_solves_60 ?_
        obtain ⟨z29, h36⟩ := dck_s h35
        clear h35
        refine ld_38 B Z z29 dX12_solves_61 ?_
        refine lv_lconst (v := (0 : Int64)) hx hb dX12_solves_62 (by decide) ?_
        refine W.lcmp hx hb dX12_solves_63 ?_
        obtain ⟨J31, eJ31, h65⟩ := dlt_s h36
        clear h36
        have kJ31 : ∀ (σ30 : sT) (H : Heap) (locs : List Loc) (ls : Array Slot), Wd (wM X) (tM X) (aM X) X s σ30 H locs → lv_has ls 10 [(0, .ref (X.2.1 33)), (2, .int x8), (3, .int x28)] → J31 σ30 = some σz → W p l e rm_fMM_solves s m args below meth c H locs 0 0 (MQ below (va_Qv (fun u => u = σz) (poW (wM X) (tM X) (aM X) X sz) (aA (aM X) sz)) args s 0 0 (aA (aM X) sz)) (F0 m 103 ls []) := by
          intro σ30 H locs ls Z hl h37
          rw [eJ31] at h37
          refine lv_iconst (v := (0 : Int32)) hx hb dX12_solves_103 (by decide) ?_
          refine lv_istore (lv' := [(4, .int (0 : Int32)), (0, .ref (X.2.1 33)), (2, .int x8), (3, .int x28)]) hx hb dX12_solves_104 hl (by decide) rfl (fun ls hl => ?_)
          obtain ⟨K35, eK35, h39⟩ := dlt_s h37
          clear h37
          have kK35 : ∀ (σ34 : sT) (H : Heap) (locs : List Loc) (ls : Array Slot), Wd (wM X) (tM X) (aM X) X s σ34 H locs → lv_has ls 10 [(0, .ref (X.2.1 33)), (2, .int x8)] → K35 σ34 = some σz → W p l e rm_fMM_solves s m args below meth c H locs 0 0 (MQ below (va_Qv (fun u => u = σz) (poW (wM X) (tM X) (aM X) X sz) (aA (aM X) sz)) args s 0 0 (aA (aM X) sz)) (F0 m 252 ls []) := by
            intro σ34 H locs ls Z hl h38
            rw [eK35] at h38
            refine lv_iinc (v := x8 + (1 : Int32)) (lv' := [(2, .int (x8 + (1 : Int32))), (0, .ref (X.2.1 33))]) hx hb dX12_solves_252 hl (k := 1) rfl (by rfl) (by decide) rfl (fun ls hl => ?_)
            refine lv_goto (tgt := 42) hx hb dX12_solves_255 (by decide) ?_
            exact ih30 (x8 + (1 : Int32)) σ34 _ _ _ Z (lv_sub hl [1, 0] rfl) h38
          clear eK35
          have lL106 : ∀ (n : Nat), ∀ (x32 : Int32) (σ33 : sT) (H : Heap) (locs : List Loc) (ls : Array Slot), Wd (wM X) (tM X) (aM X) X s σ33 H locs → lv_has ls 10 [(0, .ref (X.2.1 33)), (2, .int x8), (3, .int x28), (4, .int x32)] → fMM_solves_L106 x28 K35 n x32 σ33 = some σz → W p l e rm_fMM_solves s m args below meth c H locs 0 0 (MQ below (va_Qv (fun u => u = σz) (poW (wM X) (tM X) (aM X) X sz) (aA (aM X) sz)) args s 0 0 (aA (aM X) sz)) (F0 m 106 ls []) := by
            intro n
            induction n with
            | zero =>
              intro x32 σ33 H locs ls Z hl h
              exact nomatch (show (none : Option (sT)) = some _ from h)
            | succ n36 ih73 =>
              intro x32 σ33 H locs ls Z hl h40
              unfold fMM_solves_L106 at h40
              refine lv_iload hx hb dX12_solves_106 (lv_at hl 3 rfl) ?_
              refine lv_aload_n hx hb dX12_solves_108 rfl (lv_at hl 0 rfl) ?_
              refine g_33_7 B Z kf_RX12_103 dX12_solves_109 ?_
              refine lv_icmp_ge (tgt := 252) hx hb dX12_solves_112 (by decide) (fun c37 => ?_) (fun c37 => ?_)
              · have h41 := dit h40 c37
                clear h40
                exact kK35 σ33 _ _ _ Z (lv_sub hl [0, 1] rfl) h41
              · have h42 := dif h40 c37
                clear h40
                refine lv_aload_n hx hb dX12_solves_115 rfl (lv_at hl 0 rfl) ?_
                refine g_33_6 B Z kf_RX12_23 dX12_solves_116 ?_
                refine lv_iload_n hx hb dX12_solves_119 rfl (lv_at hl 2 rfl) ?_
                refine lv_iconst (v := (1 : Int32)) hx hb dX12_solves_120 (by decide) ?_
                refine lv_iadd hx hb dX12_solves_121 ?_
                obtain ⟨z38, h43⟩ := dck_s h42
                clear h42
                refine ld_38 B Z z38 dX12_solves_122 ?_
                refine lv_lconst (v := (0 : Int64)) hx hb dX12_solves_123 (by decide) ?_
                refine W.lcmp hx hb dX12_solves_124 ?_
                refine lv_if_le (tgt := 252) hx hb dX12_solves_125 (by decide) (fun c39 => ?_) (fun c39 => ?_)
                · have h44 := dit h43 c39
                  clear h43
                  exact kK35 σ33 _ _ _ Z (lv_sub hl [0, 1] rfl) h44
                · have h45 := dif h43 c39
                  clear h43
                  refine lv_iconst (v := (4 : Int32)) hx hb dX12_solves_128 (by decide) ?_
                  refine lv_iload hx hb dX12_solves_129 (lv_at hl 3 rfl) ?_
                  refine lv_imul hx hb dX12_solves_131 ?_
                  refine lv_topi (fun x40 ex40 => ?_)
                  have h46 := dlt_e ex40 h45
                  clear ex40 h45
                  refine lv_istore (lv' := [(5, .int x40), (0, .ref (X.2.1 33)), (2, .int x8), (3, .int x28), (4, .int x32)]) hx hb dX12_solves_132 hl (by decide) rfl (fun ls hl => ?_)
                  refine lv_aload_n hx hb dX12_solves_134 rfl (lv_at hl 1 rfl) ?_
                  refine g_33_6 B Z kf_RX12_23 dX12_solves_135 ?_
                  refine lv_iload hx hb dX12_solves_138 (lv_at hl 0 rfl) ?_
                  refine lv_iconst (v := (1 : Int32)) hx hb dX12_solves_140 (by decide) ?_
                  refine lv_iadd hx hb dX12_solves_141 ?_
                  obtain ⟨z41, h47⟩ := dck_s h46
                  clear h46
                  refine ld_38 B Z z41 dX12_solves_142 ?_
                  refine lv_lconst (v := (0 : Int64)) hx hb dX12_solves_143 (by decide) ?_
                  refine W.lcmp hx hb dX12_solves_144 ?_
                  refine lv_if_ge (tgt := 246) hx hb dX12_solves_145 (by decide) (fun c42 => ?_) (fun c42 => ?_)
                  · have h48 := dit h47 c42
                    clear h47
                    refine lv_iinc (v := x32 + (1 : Int32)) (lv' := [(4, .int (x32 + (1 : Int32))), (5, .int x40), (0, .ref (X.2.1 33)), (2, .int x8), (3, .int x28)]) hx hb dX12_solves_246 hl (k := 4) rfl (by rfl) (by decide) rfl (fun ls hl => ?_)
                    refine lv_goto (tgt := 106) hx hb dX12_solves_249 (by decide) ?_
                    exact ih73 (x32 + (1 : Int32)) σ33 _ _ _ Z (lv_sub hl [2, 3, 4, 0] rfl) h48
                  · have h49 := dif h47 c42
                    clear h47
                    refine lv_aload_n hx hb dX12_solves_148 rfl (lv_at hl 1 rfl) ?_
                    refine g_33_6 B Z kf_RX12_23 dX12_solves_149 ?_
                    refine lv_iload hx hb dX12_solves_152 (lv_at hl 0 rfl) ?_
                    refine lv_iconst (v := (1 : Int32)) hx hb dX12_solves_154 (by decide) ?_
                    refine lv_iadd hx hb dX12_solves_155 ?_
                    obtain ⟨z43, h50⟩ := dck_s h49
                    clear h49
                    refine ld_38 B Z z43 dX12_solves_156 ?_
                    refine lv_lneg hx hb dX12_solves_157 ?_
                    refine lv_topl (fun x44 ex44 => ?_)
                    have h51 := dlt_e ex44 h50
                    clear ex44 h50
                    refine lv_lstore (lv' := [(6, .long x44), (5, .int x40), (0, .ref (X.2.1 33)), (2, .int x8), (3, .int x28), (4, .int x32)]) hx hb dX12_solves_158 hl (by decide) rfl (fun ls hl => ?_)
                    refine lv_aload_n hx hb dX12_solves_160 rfl (lv_at hl 2 rfl) ?_
                    refine g_33_6 B Z kf_RX12_23 dX12_solves_161 ?_
                    refine lv_iload_n hx hb dX12_solves_164 rfl (lv_at hl 4 rfl) ?_
                    refine lv_iconst (v := (1 : Int32)) hx hb dX12_solves_165 (by decide) ?_
                    refine lv_iadd hx hb dX12_solves_166 ?_
                    obtain ⟨z45, h52⟩ := dck_s h51
                    clear h51
                    refine ld_38 B Z z45 dX12_solves_167 ?_
                    refine lv_topl (fun x46 ex46 => ?_)
                    have h53 := dlt_e ex46 h52
                    clear ex46 h52
                    refine lv_lstore (lv' := [(8, .long x46), (6, .long x44), (5, .int x40), (0, .ref (X.2.1 33)), (2, .int x8), (3, .int x28), (4, .int x32)]) hx hb dX12_solves_168 hl (by decide) rfl (fun ls hl => ?_)
                    refine lv_aload_n hx hb dX12_solves_170 rfl (lv_at hl 3 rfl) ?_
                    refine lv_lload hx hb dX12_solves_171 (lv_at hl 1 rfl) ?_
                    refine lv_aload_n hx hb dX12_solves_173 rfl (lv_at hl 3 rfl) ?_
                    refine g_33_6 B Z kf_RX12_23 dX12_solves_174 ?_
                    refine lv_iload_n hx hb dX12_solves_177 rfl (lv_at hl 5 rfl) ?_
                    obtain ⟨z47, h54⟩ := dck_s h53
                    clear h53
                    refine ld_38 B Z z47 dX12_solves_178 ?_
                    refine lv_lmul hx hb dX12_solves_179 ?_
                    refine lv_lload hx hb dX12_solves_180 (lv_at hl 0 rfl) ?_
                    refine lv_aload_n hx hb dX12_solves_182 rfl (lv_at hl 3 rfl) ?_
                    refine g_33_6 B Z kf_RX12_23 dX12_solves_183 ?_
                    refine lv_iload hx hb dX12_solves_186 (lv_at hl 2 rfl) ?_
                    obtain ⟨z48, h55⟩ := dck_s h54
                    clear h54
                    refine ld_38 B Z z48 dX12_solves_188 ?_
                    refine lv_lmul hx hb dX12_solves_189 ?_
                    refine lv_ladd hx hb dX12_solves_190 ?_
                    refine lv_lload hx hb dX12_solves_191 (lv_at hl 1 rfl) ?_
                    refine lv_aload_n hx hb dX12_solves_193 rfl (lv_at hl 3 rfl) ?_
                    refine g_33_6 B Z kf_RX12_23 dX12_solves_194 ?_
                    refine lv_iload_n hx hb dX12_solves_197 rfl (lv_at hl 5 rfl) ?_
                    refine lv_iconst (v := (2 : Int32)) hx hb dX12_solves_198 (by decide) ?_
                    refine lv_iadd hx hb dX12_solves_199 ?_
                    obtain ⟨z49, h56⟩ := dck_s h55
                    clear h55
                    refine ld_38 B Z z49 dX12_solves_200 ?_
                    refine lv_lmul hx hb dX12_solves_201 ?_
                    refine lv_lload hx hb dX12_solves_202 (lv_at hl 0 rfl) ?_
                    refine lv_aload_n hx hb dX12_solves_204 rfl (lv_at hl 3 rfl) ?_
                    refine g_33_6 B Z kf_RX12_23 dX12_solves_205 ?_
                    refine lv_iload hx hb dX12_solves_208 (lv_at hl 2 rfl) ?_
                    refine lv_iconst (v := (2 : Int32)) hx hb dX12_solves_210 (by decide) ?_
                    refine lv_iadd hx hb dX12_solves_211 ?_
                    obtain ⟨z50, h57⟩ := dck_s h56
                    clear h56
                    refine ld_38 B Z z50 dX12_solves_212 ?_
                    refine lv_lmul hx hb dX12_solves_213 ?_
                    refine lv_ladd hx hb dX12_solves_214 ?_
                    refine lv_aload_n hx hb dX12_solves_215 rfl (lv_at hl 3 rfl) ?_
                    refine g_33_6 B Z kf_RX12_23 dX12_solves_216 ?_
                    refine lv_iload_n hx hb dX12_solves_219 rfl (lv_at hl 5 rfl) ?_
                    refine lv_iconst (v := (3 : Int32)) hx hb dX12_solves_220 (by decide) ?_
                    refine lv_iadd hx hb dX12_solves_221 ?_
                    obtain ⟨z51, h58⟩ := dck_s h57
                    clear h57
                    refine ld_38 B Z z51 dX12_solves_222 ?_
                    refine lv_aload_n hx hb dX12_solves_223 rfl (lv_at hl 3 rfl) ?_
                    refine g_33_6 B Z kf_RX12_23 dX12_solves_224 ?_
                    refine lv_iload hx hb dX12_solves_227 (lv_at hl 2 rfl) ?_
                    refine lv_iconst (v := (3 : Int32)) hx hb dX12_solves_229 (by decide) ?_
                    refine lv_iadd hx hb dX12_solves_230 ?_
                    obtain ⟨z52, h59⟩ := dck_s h58
                    clear h58
                    refine ld_38 B Z z52 dX12_solves_231 ?_
                    refine lv_ladd hx hb dX12_solves_232 ?_
                    refine lv_lconst (v := (0 : Int64)) hx hb dX12_solves_233 (by decide) ?_
                    refine W.lcmp hx hb dX12_solves_234 ?_
                    obtain ⟨J56, eJ56, h62⟩ := dlt_s h59
                    clear h59
                    have kJ56 : ∀ (x53 : Int64) (x54 : Int64) (x55 : Int32) (H : Heap) (locs : List Loc) (ls : Array Slot), Wd (wM X) (tM X) (aM X) X s σ33 H locs → lv_has ls 10 [(0, .ref (X.2.1 33)), (2, .int x8), (3, .int x28), (4, .int x32)] → J56 x53 x54 x55 = some σz → W p l e rm_fMM_solves s m args below meth c H locs 0 0 (MQ below (va_Qv (fun u => u = σz) (poW (wM X) (tM X) (aM X) X sz) (aA (aM X) sz)) args s 0 0 (aA (aM X) sz)) (F0 m 243 ls [.int x55, .long x54, .long x53, .ref (X.2.1 33)]) := by
                      intro x53 x54 x55 H locs ls Z hl h60
                      rw [eJ56] at h60
                      obtain ⟨σ58, hc56, h61⟩ := db1_s h60
                      clear h60
                      refine cV_V [.long x53, .long x54, .int x55] [] B mx_yX12_takes (c_fMM_takes l X _ x53 x54 x55 σ33 σ58 hc56) kl_RX12_139 mi_yX12_takes (rv_33 _ _) hcl_12 Z hl rfl rfl ⟨Nat.le_of_ble_eq_true rfl, Nat.le_of_ble_eq_true rfl⟩ rfl rfl (Nat.le_of_ble_eq_true rfl) dX12_solves_243 (fun H locs Z => ?_)
                      clear hc56
                      refine lv_iinc (v := x32 + (1 : Int32)) (lv' := [(4, .int (x32 + (1 : Int32))), (0, .ref (X.2.1 33)), (2, .int x8), (3, .int x28)]) hx hb dX12_solves_246 hl (k := 3) rfl (by rfl) (by decide) rfl (fun ls hl => ?_)
                      refine lv_goto (tgt := 106) hx hb dX12_solves_249 (by decide) ?_
                      exact ih73 (x32 + (1 : Int32)) σ58 _ _ _ Z (lv_sub hl [1, 2, 3, 0] rfl) h61
                    clear eJ56
                    refine lv_if_le (tgt := 242) hx hb dX12_solves_235 (by decide) (fun c59 => ?_) (fun c59 => ?_)
                    · have h63 := dit h62 c59
                      clear h62
                      refine lv_iconst (v := (0 : Int32)) hx hb dX12_solves_242 (by decide) ?_
                      exact kJ56 ((x44 * (σ33.2 38 x28.toNatClampNeg)) + (x46 * (σ33.2 38 x40.toNatClampNeg))) ((x44 * (σ33.2 38 (x28 + (2 : Int32)).toNatClampNeg)) + (x46 * (σ33.2 38 (x40 + (2 : Int32)).toNatClampNeg))) (0 : Int32) _ _ _ Z (lv_sub hl [3, 4, 5, 6] rfl) h63
                    · have h64 := dif h62 c59
                      clear h62
                      refine lv_iconst (v := (1 : Int32)) hx hb dX12_solves_238 (by decide) ?_
                      refine lv_goto (tgt := 243) hx hb dX12_solves_239 (by decide) ?_
                      exact kJ56 ((x44 * (σ33.2 38 x28.toNatClampNeg)) + (x46 * (σ33.2 38 x40.toNatClampNeg))) ((x44 * (σ33.2 38 (x28 + (2 : Int32)).toNatClampNeg)) + (x46 * (σ33.2 38 (x40 + (2 : Int32)).toNatClampNeg))) (1 : Int32) _ _ _ Z (lv_sub hl [3, 4, 5, 6] rfl) h64
          exact lL106 FU (0 : Int32) σ30 _ _ _ Z (lv_sub hl [1, 2, 3, 0] rfl) h39
        clear eJ31
        refine lv_if_ne (tgt := 103) hx hb dX12_solves_64 (by decide) (fun c60 => ?_) (fun c60 => ?_)
        · have h66 := dif h65 c60
          clear h65
          exact kJ31 σ9 _ _ _ Z (lv_sub hl [1, 2, 0] rfl) h66
        · have h67 := dit h65 c60
          clear h65
          refine lv_aload_n hx hb dX12_solves_67 rfl (lv_at hl 1 rfl) ?_
          refine lv_aload_n hx hb dX12_solves_68 rfl (lv_at hl 1 rfl) ?_
          refine g_33_6 B Z kf_RX12_23 dX12_solves_69 ?_
          refine lv_iload_n hx hb dX12_solves_72 rfl (lv_at hl 0 rfl) ?_
          obtain ⟨z61, h68⟩ := dck_s h67
          clear h67
          refine ld_38 B Z z61 dX12_solves_73 ?_
          refine lv_aload_n hx hb dX12_solves_74 rfl (lv_at hl 1 rfl) ?_
          refine g_33_6 B Z kf_RX12_23 dX12_solves_75 ?_
          refine lv_iload_n hx hb dX12_solves_78 rfl (lv_at hl 0 rfl) ?_
          refine lv_iconst (v := (2 : Int32)) hx hb dX12_solves_79 (by decide) ?_
          refine lv_iadd hx hb dX12_solves_80 ?_
          obtain ⟨z62, h69⟩ := dck_s h68
          clear h68
          refine ld_38 B Z z62 dX12_solves_81 ?_
          refine lv_aload_n hx hb dX12_solves_82 rfl (lv_at hl 1 rfl) ?_
          refine g_33_6 B Z kf_RX12_23 dX12_solves_83 ?_
          refine lv_iload_n hx hb dX12_solves_86 rfl (lv_at hl 0 rfl) ?_
          refine lv_iconst (v := (3 : Int32)) hx hb dX12_solves_87 (by decide) ?_
          refine lv_iadd hx hb dX12_solves_88 ?_
          obtain ⟨z63, h70⟩ := dck_s h69
          clear h69
          refine ld_38 B Z z63 dX12_solves_89 ?_
          refine lv_lconst (v := (1 : Int64)) hx hb dX12_solves_90 (by decide) ?_
          refine W.lcmp hx hb dX12_solves_91 ?_
          obtain ⟨J67, eJ67, h73⟩ := dlt_s h70
          clear h70
          have kJ67 : ∀ (x64 : Int64) (x65 : Int64) (x66 : Int32) (H : Heap) (locs : List Loc) (ls : Array Slot), Wd (wM X) (tM X) (aM X) X s σ9 H locs → lv_has ls 10 [(0, .ref (X.2.1 33)), (2, .int x8), (3, .int x28)] → J67 x64 x65 x66 = some σz → W p l e rm_fMM_solves s m args below meth c H locs 0 0 (MQ below (va_Qv (fun u => u = σz) (poW (wM X) (tM X) (aM X) X sz) (aA (aM X) sz)) args s 0 0 (aA (aM X) sz)) (F0 m 100 ls [.int x66, .long x65, .long x64, .ref (X.2.1 33)]) := by
            intro x64 x65 x66 H locs ls Z hl h71
            rw [eJ67] at h71
            obtain ⟨σ69, hc67, h72⟩ := db1_s h71
            clear h71
            refine cV_V [.long x64, .long x65, .int x66] [] B mx_yX12_takes (c_fMM_takes l X _ x64 x65 x66 σ9 σ69 hc67) kl_RX12_139 mi_yX12_takes (rv_33 _ _) hcl_12 Z hl rfl rfl ⟨Nat.le_of_ble_eq_true rfl, Nat.le_of_ble_eq_true rfl⟩ rfl rfl (Nat.le_of_ble_eq_true rfl) dX12_solves_100 (fun H locs Z => ?_)
            clear hc67
            exact kJ31 σ69 _ _ _ Z (lv_sub hl [0, 1, 2] rfl) h72
          clear eJ67
          refine lv_if_ne (tgt := 99) hx hb dX12_solves_92 (by decide) (fun c70 => ?_) (fun c70 => ?_)
          · have h74 := dif h73 c70
            clear h73
            refine lv_iconst (v := (0 : Int32)) hx hb dX12_solves_99 (by decide) ?_
            exact kJ67 (σ9.2 38 x28.toNatClampNeg) (σ9.2 38 (x28 + (2 : Int32)).toNatClampNeg) (0 : Int32) _ _ _ Z (lv_sub hl [1, 2, 0] rfl) h74
          · have h75 := dit h73 c70
            clear h73
            refine lv_iconst (v := (1 : Int32)) hx hb dX12_solves_95 (by decide) ?_
            refine lv_goto (tgt := 100) hx hb dX12_solves_96 (by decide) ?_
            exact kJ67 (σ9.2 38 x28.toNatClampNeg) (σ9.2 38 (x28 + (2 : Int32)).toNatClampNeg) (1 : Int32) _ _ _ Z (lv_sub hl [1, 2, 0] rfl) h75
  exact lL42 FU (0 : Int32) σ7 _ _ _ Z (lv_sub hl [1, 0] rfl) h31
theorem dX12_canLaid_0 : decode cX12_canLaid 0 = .ok (.aload_n 0, 1) := by decide +kernel
theorem dX12_canLaid_1 : decode cX12_canLaid 1 = .ok (.iconst 0, 1) := by decide +kernel
theorem dX12_canLaid_2 : decode cX12_canLaid 2 = .ok (.invokevirtual 143, 3) := by decide +kernel
theorem dX12_canLaid_5 : decode cX12_canLaid 5 = .ok (.aload_n 0, 1) := by decide +kernel
theorem dX12_canLaid_6 : decode cX12_canLaid 6 = .ok (.getfield 110, 3) := by decide +kernel
theorem dX12_canLaid_9 : decode cX12_canLaid 9 = .ok (.ireturn, 1) := by decide +kernel
def rm_fMM_canLaid : Room := { frames := 4, cells := 0, slots := 0, locals := 148 }
set_option maxHeartbeats 4000000 in
set_option maxRecDepth 100000 in
theorem c_fMM_canLaid (l : Launch) (X : eX) (sz : Nat)  (σ : sT) (rz : Int32) (σz : sT) (h0 : fMM_canLaid σ = some (rz, σz)) : ctI l yX12_canLaid cX12_canLaid 1 (some .boolean) rm_fMM_canLaid [.ref (X.2.1 33)] (wM X) (tM X) (aM X) X sz σ rz σz := by
  refine ct_of (by decide +kernel) (Nat.le_of_ble_eq_true rfl) ?_
  intro p e s m args below meth c ls hz B hl Z
  have B : Bd p s m args meth c RX12 cX12_canLaid 1 (some .boolean) := B
  have hl : lv_has ls 1 [(0, .ref (X.2.1 33))] := hl
  have hx := B.1
  have hb := B.2.1
  unfold fMM_canLaid at h0
  refine lv_aload_n hx hb dX12_canLaid_0 rfl (lv_at hl 0 rfl) ?_
  refine lv_iconst (v := (0 : Int32)) hx hb dX12_canLaid_1 (by decide) ?_
  obtain ⟨σ2, hc0, h1⟩ := db1_s h0
  clear h0
  refine cV_V [.int (0 : Int32)] [] B mx_yX12_solves (c_fMM_solves l X _ (0 : Int32) σ σ2 hc0) kl_RX12_143 mi_yX12_solves (rv_33 _ _) hcl_12 Z hl rfl rfl ⟨Nat.le_of_ble_eq_true rfl, Nat.le_of_ble_eq_true rfl⟩ rfl rfl (Nat.le_of_ble_eq_true rfl) dX12_canLaid_2 (fun H locs Z => ?_)
  clear hc0
  refine lv_aload_n hx hb dX12_canLaid_5 rfl (lv_at hl 0 rfl) ?_
  refine g_33_8 B Z kf_RX12_110 dX12_canLaid_6 ?_
  obtain ⟨z3, h2⟩ := dck_s h1
  clear h1
  exact reI B Z (okZ_n z3) hz h2 dX12_canLaid_9
theorem dX12_canSet_0 : decode cX12_canSet 0 = .ok (.aload_n 0, 1) := by decide +kernel
theorem dX12_canSet_1 : decode cX12_canSet 1 = .ok (.iload_n 1, 1) := by decide +kernel
theorem dX12_canSet_2 : decode cX12_canSet 2 = .ok (.invokevirtual 147, 3) := by decide +kernel
theorem dX12_canSet_5 : decode cX12_canSet 5 = .ok (.aload_n 0, 1) := by decide +kernel
theorem dX12_canSet_6 : decode cX12_canSet 6 = .ok (.invokevirtual 150, 3) := by decide +kernel
theorem dX12_canSet_9 : decode cX12_canSet 9 = .ok (.ireturn, 1) := by decide +kernel
def rm_fMM_canSet : Room := { frames := 5, cells := 0, slots := 0, locals := 168 }
set_option maxHeartbeats 4000000 in
set_option maxRecDepth 100000 in
theorem c_fMM_canSet (l : Launch) (X : eX) (sz : Nat) (a1 : Int32) (σ : sT) (rz : Int32) (σz : sT) (h0 : fMM_canSet a1 σ = some (rz, σz)) : ctI l yX12_canSet cX12_canSet 2 (some .boolean) rm_fMM_canSet [.ref (X.2.1 33), .int a1] (wM X) (tM X) (aM X) X sz σ rz σz := by
  refine ct_of (by decide +kernel) (Nat.le_of_ble_eq_true rfl) ?_
  intro p e s m args below meth c ls hz B hl Z
  have B : Bd p s m args meth c RX12 cX12_canSet 2 (some .boolean) := B
  have hl : lv_has ls 2 [(0, .ref (X.2.1 33)), (1, .int a1)] := hl
  have hx := B.1
  have hb := B.2.1
  unfold fMM_canSet at h0
  refine lv_aload_n hx hb dX12_canSet_0 rfl (lv_at hl 0 rfl) ?_
  refine lv_iload_n hx hb dX12_canSet_1 rfl (lv_at hl 1 rfl) ?_
  obtain ⟨σ2, hc0, h1⟩ := db1_s h0
  clear h0
  refine cV_V [.int a1] [] B mx_yX12_laysSet (c_fMM_laysSet l X _ a1 σ σ2 hc0) kl_RX12_147 mi_yX12_laysSet (rv_33 _ _) hcl_12 Z hl rfl rfl ⟨Nat.le_of_ble_eq_true rfl, Nat.le_of_ble_eq_true rfl⟩ rfl rfl (Nat.le_of_ble_eq_true rfl) dX12_canSet_2 (fun H locs Z => ?_)
  clear hc0
  refine lv_aload_n hx hb dX12_canSet_5 rfl (lv_at hl 0 rfl) ?_
  obtain ⟨r4, σ5, hc2, h2⟩ := db2_s h1
  clear h1
  refine cV_I [] [] B mx_yX12_canLaid (c_fMM_canLaid l X _ σ2 r4 σ5 hc2) kl_RX12_150 mi_yX12_canLaid (rv_33 _ _) hcl_12 Z hl rfl rfl ⟨Nat.le_of_ble_eq_true rfl, Nat.le_of_ble_eq_true rfl⟩ rfl rfl (Nat.le_of_ble_eq_true rfl) dX12_canSet_6 (fun H locs Z => ?_)
  clear hc2
  obtain ⟨z6, h3⟩ := dck_s h2
  clear h2
  exact reI B Z (okZ_n z6) hz h3 dX12_canSet_9
theorem dX12_can_0 : decode cX12_can 0 = .ok (.aload_n 0, 1) := by decide +kernel
theorem dX12_can_1 : decode cX12_can 1 = .ok (.iload_n 1, 1) := by decide +kernel
theorem dX12_can_2 : decode cX12_can 2 = .ok (.invokevirtual 183, 3) := by decide +kernel
theorem dX12_can_5 : decode cX12_can 5 = .ok (.ifCond .eq 19, 3) := by decide +kernel
theorem dX12_can_8 : decode cX12_can 8 = .ok (.aload_n 0, 1) := by decide +kernel
theorem dX12_can_9 : decode cX12_can 9 = .ok (.iload_n 1, 1) := by decide +kernel
theorem dX12_can_10 : decode cX12_can 10 = .ok (.invokevirtual 186, 3) := by decide +kernel
theorem dX12_can_13 : decode cX12_can 13 = .ok (.ifCond .eq 7, 3) := by decide +kernel
theorem dX12_can_16 : decode cX12_can 16 = .ok (.iconst 1, 1) := by decide +kernel
theorem dX12_can_17 : decode cX12_can 17 = .ok (.goto 13, 3) := by decide +kernel
theorem dX12_can_20 : decode cX12_can 20 = .ok (.iconst 0, 1) := by decide +kernel
theorem dX12_can_21 : decode cX12_can 21 = .ok (.goto 9, 3) := by decide +kernel
theorem dX12_can_24 : decode cX12_can 24 = .ok (.aload_n 0, 1) := by decide +kernel
theorem dX12_can_25 : decode cX12_can 25 = .ok (.ldc 63, 2) := by decide +kernel
theorem dX12_can_27 : decode cX12_can 27 = .ok (.invokevirtual 168, 3) := by decide +kernel
theorem dX12_can_30 : decode cX12_can 30 = .ok (.ireturn, 1) := by decide +kernel
def rm_fMM_can : Room := { frames := 6, cells := 0, slots := 0, locals := 189 }
set_option maxHeartbeats 4000000 in
set_option maxRecDepth 100000 in
theorem c_fMM_can (l : Launch) (X : eX) (sz : Nat) (a1 : Int32) (σ : sT) (rz : Int32) (σz : sT) (h0 : fMM_can a1 σ = some (rz, σz)) : ctI l yX12_can cX12_can 2 (some .int) rm_fMM_can [.ref (X.2.1 33), .int a1] (wM X) (tM X) (aM X) X sz σ rz σz := by
  refine ct_of (by decide +kernel) (Nat.le_of_ble_eq_true rfl) ?_
  intro p e s m args below meth c ls hz B hl Z
  have B : Bd p s m args meth c RX12 cX12_can 2 (some .int) := B
  have hl : lv_has ls 2 [(0, .ref (X.2.1 33)), (1, .int a1)] := hl
  have hx := B.1
  have hb := B.2.1
  unfold fMM_can at h0
  refine lv_aload_n hx hb dX12_can_0 rfl (lv_at hl 0 rfl) ?_
  refine lv_iload_n hx hb dX12_can_1 rfl (lv_at hl 1 rfl) ?_
  obtain ⟨r2, hc0, h1⟩ := db1_s h0
  clear h0
  refine cV_I [.int a1] [] B mx_yX12_isSet (c_fMM_isSet l X _ a1 σ r2 hc0) kl_RX12_183 mi_yX12_isSet (rv_33 _ _) hcl_12 Z hl rfl rfl ⟨Nat.le_of_ble_eq_true rfl, Nat.le_of_ble_eq_true rfl⟩ rfl rfl (Nat.le_of_ble_eq_true rfl) dX12_can_2 (fun H locs Z => ?_)
  clear hc0
  refine lv_if_eq (tgt := 24) hx hb dX12_can_5 (by decide) (fun c3 => ?_) (fun c3 => ?_)
  · have h2 := dit h1 c3
    clear h1
    refine lv_aload_n hx hb dX12_can_24 rfl (lv_at hl 0 rfl) ?_
    refine lv_ldc hx hb B.2.2.2.1 (B.2.2.2.2.1 _ kc_RX12_63) dX12_can_25 ?_
    obtain ⟨r5, σ6, hc3, h3⟩ := db2_s h2
    clear h2
    refine cV_I [.int (-1000002 : Int32)] [] B mx_yX12_refuses (c_fMM_refuses l X _ (-1000002 : Int32) σ r5 σ6 hc3) kl_RX12_168 mi_yX12_refuses (rv_33 _ _) hcl_12 Z hl rfl rfl ⟨Nat.le_of_ble_eq_true rfl, Nat.le_of_ble_eq_true rfl⟩ rfl rfl (Nat.le_of_ble_eq_true rfl) dX12_can_27 (fun H locs Z => ?_)
    clear hc3
    exact reI B Z rfl hz h3 dX12_can_30
  · have h4 := dif h1 c3
    clear h1
    refine lv_aload_n hx hb dX12_can_8 rfl (lv_at hl 0 rfl) ?_
    refine lv_iload_n hx hb dX12_can_9 rfl (lv_at hl 1 rfl) ?_
    obtain ⟨r8, σ9, hc6, h5⟩ := db2_s h4
    clear h4
    refine cV_I [.int a1] [] B mx_yX12_canSet (c_fMM_canSet l X _ a1 σ r8 σ9 hc6) kl_RX12_186 mi_yX12_canSet (rv_33 _ _) hcl_12 Z hl rfl rfl ⟨Nat.le_of_ble_eq_true rfl, Nat.le_of_ble_eq_true rfl⟩ rfl rfl (Nat.le_of_ble_eq_true rfl) dX12_can_10 (fun H locs Z => ?_)
    clear hc6
    refine lv_if_eq (tgt := 20) hx hb dX12_can_13 (by decide) (fun c10 => ?_) (fun c10 => ?_)
    · have h6 := dit h5 c10
      clear h5
      refine lv_iconst (v := (0 : Int32)) hx hb dX12_can_20 (by decide) ?_
      refine lv_goto (tgt := 30) hx hb dX12_can_21 (by decide) ?_
      exact reI B Z rfl hz h6 dX12_can_30
    · have h7 := dif h5 c10
      clear h5
      refine lv_iconst (v := (1 : Int32)) hx hb dX12_can_16 (by decide) ?_
      refine lv_goto (tgt := 30) hx hb dX12_can_17 (by decide) ?_
      exact reI B Z rfl hz h7 dX12_can_30
theorem dX12_fixed_0 : decode cX12_fixed 0 = .ok (.iconst 0, 1) := by decide +kernel
theorem dX12_fixed_1 : decode cX12_fixed 1 = .ok (.istore_n 2, 1) := by decide +kernel
theorem dX12_fixed_2 : decode cX12_fixed 2 = .ok (.iconst 0, 1) := by decide +kernel
theorem dX12_fixed_3 : decode cX12_fixed 3 = .ok (.istore_n 3, 1) := by decide +kernel
theorem dX12_fixed_4 : decode cX12_fixed 4 = .ok (.iload_n 3, 1) := by decide +kernel
theorem dX12_fixed_5 : decode cX12_fixed 5 = .ok (.aload_n 0, 1) := by decide +kernel
theorem dX12_fixed_6 : decode cX12_fixed 6 = .ok (.getfield 7, 3) := by decide +kernel
theorem dX12_fixed_9 : decode cX12_fixed 9 = .ok (.iconst 0, 1) := by decide +kernel
theorem dX12_fixed_10 : decode cX12_fixed 10 = .ok (.iaload, 1) := by decide +kernel
theorem dX12_fixed_11 : decode cX12_fixed 11 = .ok (.if_icmp .ge 64, 3) := by decide +kernel
theorem dX12_fixed_14 : decode cX12_fixed 14 = .ok (.iload_n 1, 1) := by decide +kernel
theorem dX12_fixed_15 : decode cX12_fixed 15 = .ok (.iload_n 3, 1) := by decide +kernel
theorem dX12_fixed_16 : decode cX12_fixed 16 = .ok (.invokestatic 95, 3) := by decide +kernel
theorem dX12_fixed_19 : decode cX12_fixed 19 = .ok (.ifCond .eq 50, 3) := by decide +kernel
theorem dX12_fixed_22 : decode cX12_fixed 22 = .ok (.aload_n 0, 1) := by decide +kernel
theorem dX12_fixed_23 : decode cX12_fixed 23 = .ok (.iload_n 3, 1) := by decide +kernel
theorem dX12_fixed_24 : decode cX12_fixed 24 = .ok (.iconst 3, 1) := by decide +kernel
theorem dX12_fixed_25 : decode cX12_fixed 25 = .ok (.invokevirtual 87, 3) := by decide +kernel
theorem dX12_fixed_28 : decode cX12_fixed 28 = .ok (.ifCond .eq 41, 3) := by decide +kernel
theorem dX12_fixed_31 : decode cX12_fixed 31 = .ok (.aload_n 0, 1) := by decide +kernel
theorem dX12_fixed_32 : decode cX12_fixed 32 = .ok (.iload_n 1, 1) := by decide +kernel
theorem dX12_fixed_33 : decode cX12_fixed 33 = .ok (.invokevirtual 147, 3) := by decide +kernel
theorem dX12_fixed_36 : decode cX12_fixed 36 = .ok (.aload_n 0, 1) := by decide +kernel
theorem dX12_fixed_37 : decode cX12_fixed 37 = .ok (.iload_n 3, 1) := by decide +kernel
theorem dX12_fixed_38 : decode cX12_fixed 38 = .ok (.iconst 0, 1) := by decide +kernel
theorem dX12_fixed_39 : decode cX12_fixed 39 = .ok (.invokevirtual 99, 3) := by decide +kernel
theorem dX12_fixed_42 : decode cX12_fixed 42 = .ok (.iload_n 2, 1) := by decide +kernel
theorem dX12_fixed_43 : decode cX12_fixed 43 = .ok (.aload_n 0, 1) := by decide +kernel
theorem dX12_fixed_44 : decode cX12_fixed 44 = .ok (.iload_n 3, 1) := by decide +kernel
theorem dX12_fixed_45 : decode cX12_fixed 45 = .ok (.iconst 3, 1) := by decide +kernel
theorem dX12_fixed_46 : decode cX12_fixed 46 = .ok (.invokevirtual 87, 3) := by decide +kernel
theorem dX12_fixed_49 : decode cX12_fixed 49 = .ok (.iconst 2, 1) := by decide +kernel
theorem dX12_fixed_50 : decode cX12_fixed 50 = .ok (.if_icmp .eq 10, 3) := by decide +kernel
theorem dX12_fixed_53 : decode cX12_fixed 53 = .ok (.aload_n 0, 1) := by decide +kernel
theorem dX12_fixed_54 : decode cX12_fixed 54 = .ok (.invokevirtual 150, 3) := by decide +kernel
theorem dX12_fixed_57 : decode cX12_fixed 57 = .ok (.ifCond .ne 9, 3) := by decide +kernel
theorem dX12_fixed_60 : decode cX12_fixed 60 = .ok (.iconst 1, 1) := by decide +kernel
theorem dX12_fixed_61 : decode cX12_fixed 61 = .ok (.iload_n 3, 1) := by decide +kernel
theorem dX12_fixed_62 : decode cX12_fixed 62 = .ok (.ishl, 1) := by decide +kernel
theorem dX12_fixed_63 : decode cX12_fixed 63 = .ok (.goto 4, 3) := by decide +kernel
theorem dX12_fixed_66 : decode cX12_fixed 66 = .ok (.iconst 0, 1) := by decide +kernel
theorem dX12_fixed_67 : decode cX12_fixed 67 = .ok (.ior, 1) := by decide +kernel
theorem dX12_fixed_68 : decode cX12_fixed 68 = .ok (.istore_n 2, 1) := by decide +kernel
theorem dX12_fixed_69 : decode cX12_fixed 69 = .ok (.iinc 3 1, 3) := by decide +kernel
theorem dX12_fixed_72 : decode cX12_fixed 72 = .ok (.goto (-68), 3) := by decide +kernel
theorem dX12_fixed_75 : decode cX12_fixed 75 = .ok (.iload_n 2, 1) := by decide +kernel
theorem dX12_fixed_76 : decode cX12_fixed 76 = .ok (.ireturn, 1) := by decide +kernel
def rm_fMM_fixed : Room := { frames := 5, cells := 0, slots := 0, locals := 168 }
set_option maxHeartbeats 4000000 in
set_option maxRecDepth 100000 in
theorem c_fMM_fixed (l : Launch) (X : eX) (sz : Nat) (a1 : Int32) (σ : sT) (rz : Int32) (σz : sT) (h0 : fMM_fixed a1 σ = some (rz, σz)) : ctI l yX12_fixed cX12_fixed 4 (some .int) rm_fMM_fixed [.ref (X.2.1 33), .int a1] (wM X) (tM X) (aM X) X sz σ rz σz := by
  refine ct_of (by decide +kernel) (Nat.le_of_ble_eq_true rfl) ?_
  intro p e s m args below meth c ls hz B hl Z
  have B : Bd p s m args meth c RX12 cX12_fixed 4 (some .int) := B
  have hl : lv_has ls 4 [(0, .ref (X.2.1 33)), (1, .int a1)] := hl
  have hx := B.1
  have hb := B.2.1
  unfold fMM_fixed at h0
  refine lv_iconst (v := (0 : Int32)) hx hb dX12_fixed_0 (by decide) ?_
  refine lv_istore_n (lv' := [(2, .int (0 : Int32)), (0, .ref (X.2.1 33)), (1, .int a1)]) hx hb dX12_fixed_1 rfl hl (by decide) rfl (fun ls hl => ?_)
  refine lv_iconst (v := (0 : Int32)) hx hb dX12_fixed_2 (by decide) ?_
  refine lv_istore_n (lv' := [(3, .int (0 : Int32)), (2, .int (0 : Int32)), (0, .ref (X.2.1 33)), (1, .int a1)]) hx hb dX12_fixed_3 rfl hl (by decide) rfl (fun ls hl => ?_)
  have lL4 : ∀ (n : Nat), ∀ (x1 : Int32) (x2 : Int32) (σ3 : sT) (H : Heap) (locs : List Loc) (ls : Array Slot), Wd (wM X) (tM X) (aM X) X s σ3 H locs → lv_has ls 4 [(0, .ref (X.2.1 33)), (1, .int a1), (2, .int x1), (3, .int x2)] → fMM_fixed_L4 a1 n x1 x2 σ3 = some (rz, σz) → W p l e rm_fMM_fixed s m args below meth c H locs 0 0 (MQ below (va_Qi (fun a u => a = rz ∧ u = σz) (poW (wM X) (tM X) (aM X) X sz) (aA (aM X) sz)) args s 0 0 (aA (aM X) sz)) (F0 m 4 ls []) := by
    intro n
    induction n with
    | zero =>
      intro x1 x2 σ3 H locs ls Z hl h
      exact nomatch (show (none : Option (Int32 × sT)) = some _ from h)
    | succ n4 ih4 =>
      intro x1 x2 σ3 H locs ls Z hl h1
      unfold fMM_fixed_L4 at h1
      refine lv_iload_n hx hb dX12_fixed_4 rfl (lv_at hl 3 rfl) ?_
      refine lv_aload_n hx hb dX12_fixed_5 rfl (lv_at hl 0 rfl) ?_
      refine g_33_0 B Z kf_RX12_7 dX12_fixed_6 ?_
      refine lv_iconst (v := (0 : Int32)) hx hb dX12_fixed_9 (by decide) ?_
      obtain ⟨z5, h2⟩ := dck_s h1
      clear h1
      refine ld_34 B Z z5 dX12_fixed_10 ?_
      refine lv_icmp_ge (tgt := 75) hx hb dX12_fixed_11 (by decide) (fun c6 => ?_) (fun c6 => ?_)
      · have h3 := dit h2 c6
        clear h2
        refine lv_iload_n hx hb dX12_fixed_75 rfl (lv_at hl 2 rfl) ?_
        exact reI B Z rfl hz h3 dX12_fixed_76
      · have h4 := dif h2 c6
        clear h2
        refine lv_iload_n hx hb dX12_fixed_14 rfl (lv_at hl 1 rfl) ?_
        refine lv_iload_n hx hb dX12_fixed_15 rfl (lv_at hl 3 rfl) ?_
        obtain ⟨r8, hc6, h5⟩ := db1_s h4
        clear h4
        refine cS_I [.int a1, .int x2] [] B mx_yX12_has (c_fMM_has l X _ a1 x2 σ3 r8 hc6) kl_RX12_95 ks_yX12_has Z hl rfl rfl ⟨Nat.le_of_ble_eq_true rfl, Nat.le_of_ble_eq_true rfl⟩ rfl rfl (Nat.le_of_ble_eq_true rfl) dX12_fixed_16 (fun H locs Z => ?_)
        clear hc6
        refine lv_if_eq (tgt := 69) hx hb dX12_fixed_19 (by decide) (fun c9 => ?_) (fun c9 => ?_)
        · have h6 := dit h5 c9
          clear h5
          refine lv_iinc (v := x2 + (1 : Int32)) (lv' := [(3, .int (x2 + (1 : Int32))), (0, .ref (X.2.1 33)), (1, .int a1), (2, .int x1)]) hx hb dX12_fixed_69 hl (k := 3) rfl (by rfl) (by decide) rfl (fun ls hl => ?_)
          refine lv_goto (tgt := 4) hx hb dX12_fixed_72 (by decide) ?_
          exact ih4 x1 (x2 + (1 : Int32)) σ3 _ _ _ Z (lv_sub hl [1, 2, 3, 0] rfl) h6
        · have h7 := dif h5 c9
          clear h5
          refine lv_aload_n hx hb dX12_fixed_22 rfl (lv_at hl 0 rfl) ?_
          refine lv_iload_n hx hb dX12_fixed_23 rfl (lv_at hl 3 rfl) ?_
          refine lv_iconst (v := (3 : Int32)) hx hb dX12_fixed_24 (by decide) ?_
          obtain ⟨r11, hc9, h8⟩ := db1_s h7
          clear h7
          refine cV_I [.int x2, .int (3 : Int32)] [] B mx_yX12_at (c_fMM_at l X _ x2 (3 : Int32) σ3 r11 hc9) kl_RX12_87 mi_yX12_at (rv_33 _ _) hcl_12 Z hl rfl rfl ⟨Nat.le_of_ble_eq_true rfl, Nat.le_of_ble_eq_true rfl⟩ rfl rfl (Nat.le_of_ble_eq_true rfl) dX12_fixed_25 (fun H locs Z => ?_)
          clear hc9
          refine lv_if_eq (tgt := 69) hx hb dX12_fixed_28 (by decide) (fun c12 => ?_) (fun c12 => ?_)
          · have h9 := dit h8 c12
            clear h8
            refine lv_iinc (v := x2 + (1 : Int32)) (lv' := [(3, .int (x2 + (1 : Int32))), (0, .ref (X.2.1 33)), (1, .int a1), (2, .int x1)]) hx hb dX12_fixed_69 hl (k := 3) rfl (by rfl) (by decide) rfl (fun ls hl => ?_)
            refine lv_goto (tgt := 4) hx hb dX12_fixed_72 (by decide) ?_
            exact ih4 x1 (x2 + (1 : Int32)) σ3 _ _ _ Z (lv_sub hl [1, 2, 3, 0] rfl) h9
          · have h10 := dif h8 c12
            clear h8
            refine lv_aload_n hx hb dX12_fixed_31 rfl (lv_at hl 0 rfl) ?_
            refine lv_iload_n hx hb dX12_fixed_32 rfl (lv_at hl 1 rfl) ?_
            obtain ⟨σ14, hc12, h11⟩ := db1_s h10
            clear h10
            refine cV_V [.int a1] [] B mx_yX12_laysSet (c_fMM_laysSet l X _ a1 σ3 σ14 hc12) kl_RX12_147 mi_yX12_laysSet (rv_33 _ _) hcl_12 Z hl rfl rfl ⟨Nat.le_of_ble_eq_true rfl, Nat.le_of_ble_eq_true rfl⟩ rfl rfl (Nat.le_of_ble_eq_true rfl) dX12_fixed_33 (fun H locs Z => ?_)
            clear hc12
            refine lv_aload_n hx hb dX12_fixed_36 rfl (lv_at hl 0 rfl) ?_
            refine lv_iload_n hx hb dX12_fixed_37 rfl (lv_at hl 3 rfl) ?_
            refine lv_iconst (v := (0 : Int32)) hx hb dX12_fixed_38 (by decide) ?_
            obtain ⟨σ16, hc14, h12⟩ := db1_s h11
            clear h11
            refine cV_V [.int x2, .int (0 : Int32)] [] B mx_yX12_laysRow (c_fMM_laysRow l X _ x2 (0 : Int32) σ14 σ16 hc14) kl_RX12_99 mi_yX12_laysRow (rv_33 _ _) hcl_12 Z hl rfl rfl ⟨Nat.le_of_ble_eq_true rfl, Nat.le_of_ble_eq_true rfl⟩ rfl rfl (Nat.le_of_ble_eq_true rfl) dX12_fixed_39 (fun H locs Z => ?_)
            clear hc14
            refine lv_iload_n hx hb dX12_fixed_42 rfl (lv_at hl 2 rfl) ?_
            refine lv_aload_n hx hb dX12_fixed_43 rfl (lv_at hl 0 rfl) ?_
            refine lv_iload_n hx hb dX12_fixed_44 rfl (lv_at hl 3 rfl) ?_
            refine lv_iconst (v := (3 : Int32)) hx hb dX12_fixed_45 (by decide) ?_
            obtain ⟨r18, hc16, h13⟩ := db1_s h12
            clear h12
            refine cV_I [.int x2, .int (3 : Int32)] [.int x1] B mx_yX12_at (c_fMM_at l X _ x2 (3 : Int32) σ16 r18 hc16) kl_RX12_87 mi_yX12_at (rv_33 _ _) hcl_12 Z hl rfl rfl ⟨Nat.le_of_ble_eq_true rfl, Nat.le_of_ble_eq_true rfl⟩ rfl rfl (Nat.le_of_ble_eq_true rfl) dX12_fixed_46 (fun H locs Z => ?_)
            clear hc16
            refine lv_iconst (v := (2 : Int32)) hx hb dX12_fixed_49 (by decide) ?_
            obtain ⟨J21, eJ21, h16⟩ := dlt_s h13
            clear h13
            have kJ21 : ∀ (x19 : Int32) (σ20 : sT) (H : Heap) (locs : List Loc) (ls : Array Slot), Wd (wM X) (tM X) (aM X) X s σ20 H locs → lv_has ls 4 [(0, .ref (X.2.1 33)), (1, .int a1), (3, .int x2)] → J21 x19 σ20 = some (rz, σz) → W p l e rm_fMM_fixed s m args below meth c H locs 0 0 (MQ below (va_Qi (fun a u => a = rz ∧ u = σz) (poW (wM X) (tM X) (aM X) X sz) (aA (aM X) sz)) args s 0 0 (aA (aM X) sz)) (F0 m 60 ls [.int x19]) := by
              intro x19 σ20 H locs ls Z hl h14
              rw [eJ21] at h14
              refine lv_iconst (v := (1 : Int32)) hx hb dX12_fixed_60 (by decide) ?_
              refine lv_iload_n hx hb dX12_fixed_61 rfl (lv_at hl 2 rfl) ?_
              refine lv_ishl hx hb dX12_fixed_62 ?_
              refine lv_goto (tgt := 67) hx hb dX12_fixed_63 (by decide) ?_
              refine lv_ior hx hb dX12_fixed_67 ?_
              refine lv_topi (fun x22 ex22 => ?_)
              have h15 := dlt_e ex22 h14
              clear ex22 h14
              refine lv_istore_n (lv' := [(2, .int x22), (0, .ref (X.2.1 33)), (1, .int a1), (3, .int x2)]) hx hb dX12_fixed_68 rfl hl (by decide) rfl (fun ls hl => ?_)
              refine lv_iinc (v := x2 + (1 : Int32)) (lv' := [(3, .int (x2 + (1 : Int32))), (2, .int x22), (0, .ref (X.2.1 33)), (1, .int a1)]) hx hb dX12_fixed_69 hl (k := 3) rfl (by rfl) (by decide) rfl (fun ls hl => ?_)
              refine lv_goto (tgt := 4) hx hb dX12_fixed_72 (by decide) ?_
              exact ih4 x22 (x2 + (1 : Int32)) σ20 _ _ _ Z (lv_sub hl [2, 3, 1, 0] rfl) h15
            clear eJ21
            refine lv_icmp_eq (tgt := 60) hx hb dX12_fixed_50 (by decide) (fun c23 => ?_) (fun c23 => ?_)
            · have h17 := dit h16 c23
              clear h16
              exact kJ21 x1 σ16 _ _ _ Z (lv_sub hl [0, 1, 3] rfl) h17
            · have h18 := dif h16 c23
              clear h16
              refine lv_aload_n hx hb dX12_fixed_53 rfl (lv_at hl 0 rfl) ?_
              obtain ⟨r25, σ26, hc23, h19⟩ := db2_s h18
              clear h18
              refine cV_I [] [.int x1] B mx_yX12_canLaid (c_fMM_canLaid l X _ σ16 r25 σ26 hc23) kl_RX12_150 mi_yX12_canLaid (rv_33 _ _) hcl_12 Z hl rfl rfl ⟨Nat.le_of_ble_eq_true rfl, Nat.le_of_ble_eq_true rfl⟩ rfl rfl (Nat.le_of_ble_eq_true rfl) dX12_fixed_54 (fun H locs Z => ?_)
              clear hc23
              refine lv_if_ne (tgt := 66) hx hb dX12_fixed_57 (by decide) (fun c27 => ?_) (fun c27 => ?_)
              · have h20 := dif h19 c27
                clear h19
                refine lv_iconst (v := (0 : Int32)) hx hb dX12_fixed_66 (by decide) ?_
                refine lv_ior hx hb dX12_fixed_67 ?_
                refine lv_topi (fun x28 ex28 => ?_)
                have h21 := dlt_e ex28 h20
                clear ex28 h20
                refine lv_istore_n (lv' := [(2, .int x28), (0, .ref (X.2.1 33)), (1, .int a1), (3, .int x2)]) hx hb dX12_fixed_68 rfl hl (by decide) rfl (fun ls hl => ?_)
                refine lv_iinc (v := x2 + (1 : Int32)) (lv' := [(3, .int (x2 + (1 : Int32))), (2, .int x28), (0, .ref (X.2.1 33)), (1, .int a1)]) hx hb dX12_fixed_69 hl (k := 3) rfl (by rfl) (by decide) rfl (fun ls hl => ?_)
                refine lv_goto (tgt := 4) hx hb dX12_fixed_72 (by decide) ?_
                exact ih4 x28 (x2 + (1 : Int32)) σ26 _ _ _ Z (lv_sub hl [2, 3, 1, 0] rfl) h21
              · have h22 := dit h19 c27
                clear h19
                exact kJ21 x1 σ26 _ _ _ Z (lv_sub hl [0, 1, 3] rfl) h22
  exact lL4 FU (0 : Int32) (0 : Int32) σ _ _ _ Z (lv_sub hl [2, 3, 1, 0] rfl) h0
