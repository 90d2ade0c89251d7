theorem dX10_isGood_0 : decode cX10_isGood 0 = .ok (.aload_n 0, 1) := by decide +kernel
theorem dX10_isGood_1 : decode cX10_isGood 1 = .ok (.getfield 49, 3) := by decide +kernel
theorem dX10_isGood_4 : decode cX10_isGood 4 = .ok (.iconst 0, 1) := by decide +kernel
theorem dX10_isGood_5 : decode cX10_isGood 5 = .ok (.iaload, 1) := by decide +kernel
theorem dX10_isGood_6 : decode cX10_isGood 6 = .ok (.istore_n 2, 1) := by decide +kernel
theorem dX10_isGood_7 : decode cX10_isGood 7 = .ok (.aload_n 0, 1) := by decide +kernel
theorem dX10_isGood_8 : decode cX10_isGood 8 = .ok (.getfield 49, 3) := by decide +kernel
theorem dX10_isGood_11 : decode cX10_isGood 11 = .ok (.iconst 1, 1) := by decide +kernel
theorem dX10_isGood_12 : decode cX10_isGood 12 = .ok (.iaload, 1) := by decide +kernel
theorem dX10_isGood_13 : decode cX10_isGood 13 = .ok (.istore_n 3, 1) := by decide +kernel
theorem dX10_isGood_14 : decode cX10_isGood 14 = .ok (.iload_n 1, 1) := by decide +kernel
theorem dX10_isGood_15 : decode cX10_isGood 15 = .ok (.lookupswitch 316 #[(97, 257), (104, 172), (110, 109), (114, 49), (119, 214)], 49) := by decide +kernel
theorem dX10_isGood_64 : decode cX10_isGood 64 = .ok (.aload_n 0, 1) := by decide +kernel
theorem dX10_isGood_65 : decode cX10_isGood 65 = .ok (.getfield 13, 3) := by decide +kernel
theorem dX10_isGood_68 : decode cX10_isGood 68 = .ok (.iconst 4, 1) := by decide +kernel
theorem dX10_isGood_69 : decode cX10_isGood 69 = .ok (.iload_n 2, 1) := by decide +kernel
theorem dX10_isGood_70 : decode cX10_isGood 70 = .ok (.iastore, 1) := by decide +kernel
theorem dX10_isGood_71 : decode cX10_isGood 71 = .ok (.aload_n 0, 1) := by decide +kernel
theorem dX10_isGood_72 : decode cX10_isGood 72 = .ok (.getfield 13, 3) := by decide +kernel
theorem dX10_isGood_75 : decode cX10_isGood 75 = .ok (.iconst 5, 1) := by decide +kernel
theorem dX10_isGood_76 : decode cX10_isGood 76 = .ok (.iload_n 3, 1) := by decide +kernel
theorem dX10_isGood_77 : decode cX10_isGood 77 = .ok (.iastore, 1) := by decide +kernel
theorem dX10_isGood_78 : decode cX10_isGood 78 = .ok (.iload_n 2, 1) := by decide +kernel
theorem dX10_isGood_79 : decode cX10_isGood 79 = .ok (.ifCond .le 43, 3) := by decide +kernel
theorem dX10_isGood_82 : decode cX10_isGood 82 = .ok (.iload_n 3, 1) := by decide +kernel
theorem dX10_isGood_83 : decode cX10_isGood 83 = .ok (.ifCond .le 39, 3) := by decide +kernel
theorem dX10_isGood_86 : decode cX10_isGood 86 = .ok (.iload_n 2, 1) := by decide +kernel
theorem dX10_isGood_87 : decode cX10_isGood 87 = .ok (.bipush 10, 2) := by decide +kernel
theorem dX10_isGood_89 : decode cX10_isGood 89 = .ok (.if_icmp .ge 33, 3) := by decide +kernel
theorem dX10_isGood_92 : decode cX10_isGood 92 = .ok (.iload_n 3, 1) := by decide +kernel
theorem dX10_isGood_93 : decode cX10_isGood 93 = .ok (.bipush 10, 2) := by decide +kernel
theorem dX10_isGood_95 : decode cX10_isGood 95 = .ok (.if_icmp .ge 27, 3) := by decide +kernel
theorem dX10_isGood_98 : decode cX10_isGood 98 = .ok (.iload_n 2, 1) := by decide +kernel
theorem dX10_isGood_99 : decode cX10_isGood 99 = .ok (.iload_n 3, 1) := by decide +kernel
theorem dX10_isGood_100 : decode cX10_isGood 100 = .ok (.imul, 1) := by decide +kernel
theorem dX10_isGood_101 : decode cX10_isGood 101 = .ok (.bipush 10, 2) := by decide +kernel
theorem dX10_isGood_103 : decode cX10_isGood 103 = .ok (.if_icmp .ge 19, 3) := by decide +kernel
theorem dX10_isGood_106 : decode cX10_isGood 106 = .ok (.aload_n 0, 1) := by decide +kernel
theorem dX10_isGood_107 : decode cX10_isGood 107 = .ok (.getfield 13, 3) := by decide +kernel
theorem dX10_isGood_110 : decode cX10_isGood 110 = .ok (.bipush 7, 2) := by decide +kernel
theorem dX10_isGood_112 : decode cX10_isGood 112 = .ok (.iaload, 1) := by decide +kernel
theorem dX10_isGood_113 : decode cX10_isGood 113 = .ok (.iconst 1, 1) := by decide +kernel
theorem dX10_isGood_114 : decode cX10_isGood 114 = .ok (.iand, 1) := by decide +kernel
theorem dX10_isGood_115 : decode cX10_isGood 115 = .ok (.ifCond .ne 7, 3) := by decide +kernel
theorem dX10_isGood_118 : decode cX10_isGood 118 = .ok (.iconst 1, 1) := by decide +kernel
theorem dX10_isGood_119 : decode cX10_isGood 119 = .ok (.goto 4, 3) := by decide +kernel
theorem dX10_isGood_122 : decode cX10_isGood 122 = .ok (.iconst 0, 1) := by decide +kernel
theorem dX10_isGood_123 : decode cX10_isGood 123 = .ok (.ireturn, 1) := by decide +kernel
theorem dX10_isGood_124 : decode cX10_isGood 124 = .ok (.aload_n 0, 1) := by decide +kernel
theorem dX10_isGood_125 : decode cX10_isGood 125 = .ok (.getfield 13, 3) := by decide +kernel
theorem dX10_isGood_128 : decode cX10_isGood 128 = .ok (.bipush 6, 2) := by decide +kernel
theorem dX10_isGood_130 : decode cX10_isGood 130 = .ok (.iload_n 2, 1) := by decide +kernel
theorem dX10_isGood_131 : decode cX10_isGood 131 = .ok (.iastore, 1) := by decide +kernel
theorem dX10_isGood_132 : decode cX10_isGood 132 = .ok (.aload_n 0, 1) := by decide +kernel
theorem dX10_isGood_133 : decode cX10_isGood 133 = .ok (.getfield 21, 3) := by decide +kernel
theorem dX10_isGood_136 : decode cX10_isGood 136 = .ok (.iconst 2, 1) := by decide +kernel
theorem dX10_isGood_137 : decode cX10_isGood 137 = .ok (.iconst 1, 1) := by decide +kernel
theorem dX10_isGood_138 : decode cX10_isGood 138 = .ok (.iload_n 2, 1) := by decide +kernel
theorem dX10_isGood_139 : decode cX10_isGood 139 = .ok (.iconst 4, 1) := by decide +kernel
theorem dX10_isGood_140 : decode cX10_isGood 140 = .ok (.irem, 1) := by decide +kernel
theorem dX10_isGood_141 : decode cX10_isGood 141 = .ok (.ishl, 1) := by decide +kernel
theorem dX10_isGood_142 : decode cX10_isGood 142 = .ok (.iconst 1, 1) := by decide +kernel
theorem dX10_isGood_143 : decode cX10_isGood 143 = .ok (.isub, 1) := by decide +kernel
theorem dX10_isGood_144 : decode cX10_isGood 144 = .ok (.iastore, 1) := by decide +kernel
theorem dX10_isGood_145 : decode cX10_isGood 145 = .ok (.aload_n 0, 1) := by decide +kernel
theorem dX10_isGood_146 : decode cX10_isGood 146 = .ok (.getfield 21, 3) := by decide +kernel
theorem dX10_isGood_149 : decode cX10_isGood 149 = .ok (.iconst 3, 1) := by decide +kernel
theorem dX10_isGood_150 : decode cX10_isGood 150 = .ok (.aload_n 0, 1) := by decide +kernel
theorem dX10_isGood_151 : decode cX10_isGood 151 = .ok (.getfield 21, 3) := by decide +kernel
theorem dX10_isGood_154 : decode cX10_isGood 154 = .ok (.iconst 2, 1) := by decide +kernel
theorem dX10_isGood_155 : decode cX10_isGood 155 = .ok (.iaload, 1) := by decide +kernel
theorem dX10_isGood_156 : decode cX10_isGood 156 = .ok (.iastore, 1) := by decide +kernel
theorem dX10_isGood_157 : decode cX10_isGood 157 = .ok (.iload_n 2, 1) := by decide +kernel
theorem dX10_isGood_158 : decode cX10_isGood 158 = .ok (.i2l, 1) := by decide +kernel
theorem dX10_isGood_159 : decode cX10_isGood 159 = .ok (.lconst 1, 1) := by decide +kernel
theorem dX10_isGood_160 : decode cX10_isGood 160 = .ok (.ldc2_w 89, 3) := by decide +kernel
theorem dX10_isGood_163 : decode cX10_isGood 163 = .ok (.invokestatic 60, 3) := by decide +kernel
theorem dX10_isGood_166 : decode cX10_isGood 166 = .ok (.ifCond .eq 19, 3) := by decide +kernel
theorem dX10_isGood_169 : decode cX10_isGood 169 = .ok (.aload_n 0, 1) := by decide +kernel
theorem dX10_isGood_170 : decode cX10_isGood 170 = .ok (.getfield 13, 3) := by decide +kernel
theorem dX10_isGood_173 : decode cX10_isGood 173 = .ok (.bipush 7, 2) := by decide +kernel
theorem dX10_isGood_175 : decode cX10_isGood 175 = .ok (.iaload, 1) := by decide +kernel
theorem dX10_isGood_176 : decode cX10_isGood 176 = .ok (.iconst 2, 1) := by decide +kernel
theorem dX10_isGood_177 : decode cX10_isGood 177 = .ok (.iand, 1) := by decide +kernel
theorem dX10_isGood_178 : decode cX10_isGood 178 = .ok (.ifCond .ne 7, 3) := by decide +kernel
theorem dX10_isGood_181 : decode cX10_isGood 181 = .ok (.iconst 1, 1) := by decide +kernel
theorem dX10_isGood_182 : decode cX10_isGood 182 = .ok (.goto 4, 3) := by decide +kernel
theorem dX10_isGood_185 : decode cX10_isGood 185 = .ok (.iconst 0, 1) := by decide +kernel
theorem dX10_isGood_186 : decode cX10_isGood 186 = .ok (.ireturn, 1) := by decide +kernel
theorem dX10_isGood_187 : decode cX10_isGood 187 = .ok (.aload_n 0, 1) := by decide +kernel
theorem dX10_isGood_188 : decode cX10_isGood 188 = .ok (.getfield 13, 3) := by decide +kernel
theorem dX10_isGood_191 : decode cX10_isGood 191 = .ok (.bipush 7, 2) := by decide +kernel
theorem dX10_isGood_193 : decode cX10_isGood 193 = .ok (.dup2, 1) := by decide +kernel
theorem dX10_isGood_194 : decode cX10_isGood 194 = .ok (.iaload, 1) := by decide +kernel
theorem dX10_isGood_195 : decode cX10_isGood 195 = .ok (.iconst 2, 1) := by decide +kernel
theorem dX10_isGood_196 : decode cX10_isGood 196 = .ok (.ior, 1) := by decide +kernel
theorem dX10_isGood_197 : decode cX10_isGood 197 = .ok (.iastore, 1) := by decide +kernel
theorem dX10_isGood_198 : decode cX10_isGood 198 = .ok (.iload_n 2, 1) := by decide +kernel
theorem dX10_isGood_199 : decode cX10_isGood 199 = .ok (.iconst 1, 1) := by decide +kernel
theorem dX10_isGood_200 : decode cX10_isGood 200 = .ok (.if_icmp .gt 16, 3) := by decide +kernel
theorem dX10_isGood_203 : decode cX10_isGood 203 = .ok (.iload_n 3, 1) := by decide +kernel
theorem dX10_isGood_204 : decode cX10_isGood 204 = .ok (.iconst 1, 1) := by decide +kernel
theorem dX10_isGood_205 : decode cX10_isGood 205 = .ok (.aload_n 0, 1) := by decide +kernel
theorem dX10_isGood_206 : decode cX10_isGood 206 = .ok (.getfield 13, 3) := by decide +kernel
theorem dX10_isGood_209 : decode cX10_isGood 209 = .ok (.bipush 6, 2) := by decide +kernel
theorem dX10_isGood_211 : decode cX10_isGood 211 = .ok (.iaload, 1) := by decide +kernel
theorem dX10_isGood_212 : decode cX10_isGood 212 = .ok (.ishl, 1) := by decide +kernel
theorem dX10_isGood_213 : decode cX10_isGood 213 = .ok (.if_icmp .lt 5, 3) := by decide +kernel
theorem dX10_isGood_216 : decode cX10_isGood 216 = .ok (.iconst 0, 1) := by decide +kernel
theorem dX10_isGood_217 : decode cX10_isGood 217 = .ok (.ireturn, 1) := by decide +kernel
theorem dX10_isGood_218 : decode cX10_isGood 218 = .ok (.aload_n 0, 1) := by decide +kernel
theorem dX10_isGood_219 : decode cX10_isGood 219 = .ok (.getfield 21, 3) := by decide +kernel
theorem dX10_isGood_222 : decode cX10_isGood 222 = .ok (.iconst 2, 1) := by decide +kernel
theorem dX10_isGood_223 : decode cX10_isGood 223 = .ok (.iload_n 2, 1) := by decide +kernel
theorem dX10_isGood_224 : decode cX10_isGood 224 = .ok (.iadd, 1) := by decide +kernel
theorem dX10_isGood_225 : decode cX10_isGood 225 = .ok (.iload_n 3, 1) := by decide +kernel
theorem dX10_isGood_226 : decode cX10_isGood 226 = .ok (.iastore, 1) := by decide +kernel
theorem dX10_isGood_227 : decode cX10_isGood 227 = .ok (.iconst 1, 1) := by decide +kernel
theorem dX10_isGood_228 : decode cX10_isGood 228 = .ok (.ireturn, 1) := by decide +kernel
theorem dX10_isGood_229 : decode cX10_isGood 229 = .ok (.aload_n 0, 1) := by decide +kernel
theorem dX10_isGood_230 : decode cX10_isGood 230 = .ok (.getfield 13, 3) := by decide +kernel
theorem dX10_isGood_233 : decode cX10_isGood 233 = .ok (.bipush 7, 2) := by decide +kernel
theorem dX10_isGood_235 : decode cX10_isGood 235 = .ok (.dup2, 1) := by decide +kernel
theorem dX10_isGood_236 : decode cX10_isGood 236 = .ok (.iaload, 1) := by decide +kernel
theorem dX10_isGood_237 : decode cX10_isGood 237 = .ok (.iconst 1, 1) := by decide +kernel
theorem dX10_isGood_238 : decode cX10_isGood 238 = .ok (.ior, 1) := by decide +kernel
theorem dX10_isGood_239 : decode cX10_isGood 239 = .ok (.iastore, 1) := by decide +kernel
theorem dX10_isGood_240 : decode cX10_isGood 240 = .ok (.iload_n 2, 1) := by decide +kernel
theorem dX10_isGood_241 : decode cX10_isGood 241 = .ok (.aload_n 0, 1) := by decide +kernel
theorem dX10_isGood_242 : decode cX10_isGood 242 = .ok (.getfield 13, 3) := by decide +kernel
theorem dX10_isGood_245 : decode cX10_isGood 245 = .ok (.iconst 4, 1) := by decide +kernel
theorem dX10_isGood_246 : decode cX10_isGood 246 = .ok (.iaload, 1) := by decide +kernel
theorem dX10_isGood_247 : decode cX10_isGood 247 = .ok (.aload_n 0, 1) := by decide +kernel
theorem dX10_isGood_248 : decode cX10_isGood 248 = .ok (.getfield 13, 3) := by decide +kernel
theorem dX10_isGood_251 : decode cX10_isGood 251 = .ok (.iconst 5, 1) := by decide +kernel
theorem dX10_isGood_252 : decode cX10_isGood 252 = .ok (.iaload, 1) := by decide +kernel
theorem dX10_isGood_253 : decode cX10_isGood 253 = .ok (.imul, 1) := by decide +kernel
theorem dX10_isGood_254 : decode cX10_isGood 254 = .ok (.if_icmp .lt 5, 3) := by decide +kernel
theorem dX10_isGood_257 : decode cX10_isGood 257 = .ok (.iconst 0, 1) := by decide +kernel
theorem dX10_isGood_258 : decode cX10_isGood 258 = .ok (.ireturn, 1) := by decide +kernel
theorem dX10_isGood_259 : decode cX10_isGood 259 = .ok (.aload_n 0, 1) := by decide +kernel
theorem dX10_isGood_260 : decode cX10_isGood 260 = .ok (.getfield 24, 3) := by decide +kernel
theorem dX10_isGood_263 : decode cX10_isGood 263 = .ok (.bipush 9, 2) := by decide +kernel
theorem dX10_isGood_265 : decode cX10_isGood 265 = .ok (.iload_n 2, 1) := by decide +kernel
theorem dX10_isGood_266 : decode cX10_isGood 266 = .ok (.iadd, 1) := by decide +kernel
theorem dX10_isGood_267 : decode cX10_isGood 267 = .ok (.bipush 9, 2) := by decide +kernel
theorem dX10_isGood_269 : decode cX10_isGood 269 = .ok (.iastore, 1) := by decide +kernel
theorem dX10_isGood_270 : decode cX10_isGood 270 = .ok (.iconst 1, 1) := by decide +kernel
theorem dX10_isGood_271 : decode cX10_isGood 271 = .ok (.ireturn, 1) := by decide +kernel
theorem dX10_isGood_272 : decode cX10_isGood 272 = .ok (.aload_n 0, 1) := by decide +kernel
theorem dX10_isGood_273 : decode cX10_isGood 273 = .ok (.getfield 13, 3) := by decide +kernel
theorem dX10_isGood_276 : decode cX10_isGood 276 = .ok (.bipush 7, 2) := by decide +kernel
theorem dX10_isGood_278 : decode cX10_isGood 278 = .ok (.dup2, 1) := by decide +kernel
theorem dX10_isGood_279 : decode cX10_isGood 279 = .ok (.iaload, 1) := by decide +kernel
theorem dX10_isGood_280 : decode cX10_isGood 280 = .ok (.iconst 3, 1) := by decide +kernel
theorem dX10_isGood_281 : decode cX10_isGood 281 = .ok (.ior, 1) := by decide +kernel
theorem dX10_isGood_282 : decode cX10_isGood 282 = .ok (.iastore, 1) := by decide +kernel
theorem dX10_isGood_283 : decode cX10_isGood 283 = .ok (.iload_n 2, 1) := by decide +kernel
theorem dX10_isGood_284 : decode cX10_isGood 284 = .ok (.aload_n 0, 1) := by decide +kernel
theorem dX10_isGood_285 : decode cX10_isGood 285 = .ok (.getfield 13, 3) := by decide +kernel
theorem dX10_isGood_288 : decode cX10_isGood 288 = .ok (.iconst 4, 1) := by decide +kernel
theorem dX10_isGood_289 : decode cX10_isGood 289 = .ok (.iaload, 1) := by decide +kernel
theorem dX10_isGood_290 : decode cX10_isGood 290 = .ok (.aload_n 0, 1) := by decide +kernel
theorem dX10_isGood_291 : decode cX10_isGood 291 = .ok (.getfield 13, 3) := by decide +kernel
theorem dX10_isGood_294 : decode cX10_isGood 294 = .ok (.iconst 5, 1) := by decide +kernel
theorem dX10_isGood_295 : decode cX10_isGood 295 = .ok (.iaload, 1) := by decide +kernel
theorem dX10_isGood_296 : decode cX10_isGood 296 = .ok (.imul, 1) := by decide +kernel
theorem dX10_isGood_297 : decode cX10_isGood 297 = .ok (.if_icmp .ge 20, 3) := by decide +kernel
theorem dX10_isGood_300 : decode cX10_isGood 300 = .ok (.iload_n 3, 1) := by decide +kernel
theorem dX10_isGood_301 : decode cX10_isGood 301 = .ok (.i2l, 1) := by decide +kernel
theorem dX10_isGood_302 : decode cX10_isGood 302 = .ok (.lconst 1, 1) := by decide +kernel
theorem dX10_isGood_303 : decode cX10_isGood 303 = .ok (.aload_n 0, 1) := by decide +kernel
theorem dX10_isGood_304 : decode cX10_isGood 304 = .ok (.getfield 13, 3) := by decide +kernel
theorem dX10_isGood_307 : decode cX10_isGood 307 = .ok (.bipush 6, 2) := by decide +kernel
theorem dX10_isGood_309 : decode cX10_isGood 309 = .ok (.iaload, 1) := by decide +kernel
theorem dX10_isGood_310 : decode cX10_isGood 310 = .ok (.i2l, 1) := by decide +kernel
theorem dX10_isGood_311 : decode cX10_isGood 311 = .ok (.invokestatic 60, 3) := by decide +kernel
theorem dX10_isGood_314 : decode cX10_isGood 314 = .ok (.ifCond .ne 5, 3) := by decide +kernel
theorem dX10_isGood_317 : decode cX10_isGood 317 = .ok (.iconst 0, 1) := by decide +kernel
theorem dX10_isGood_318 : decode cX10_isGood 318 = .ok (.ireturn, 1) := by decide +kernel
theorem dX10_isGood_319 : decode cX10_isGood 319 = .ok (.aload_n 0, 1) := by decide +kernel
theorem dX10_isGood_320 : decode cX10_isGood 320 = .ok (.getfield 24, 3) := by decide +kernel
theorem dX10_isGood_323 : decode cX10_isGood 323 = .ok (.bipush 9, 2) := by decide +kernel
theorem dX10_isGood_325 : decode cX10_isGood 325 = .ok (.iload_n 2, 1) := by decide +kernel
theorem dX10_isGood_326 : decode cX10_isGood 326 = .ok (.iadd, 1) := by decide +kernel
theorem dX10_isGood_327 : decode cX10_isGood 327 = .ok (.iload_n 3, 1) := by decide +kernel
theorem dX10_isGood_328 : decode cX10_isGood 328 = .ok (.iastore, 1) := by decide +kernel
theorem dX10_isGood_329 : decode cX10_isGood 329 = .ok (.iconst 1, 1) := by decide +kernel
theorem dX10_isGood_330 : decode cX10_isGood 330 = .ok (.ireturn, 1) := by decide +kernel
theorem dX10_isGood_331 : decode cX10_isGood 331 = .ok (.aload_n 0, 1) := by decide +kernel
theorem dX10_isGood_332 : decode cX10_isGood 332 = .ok (.getfield 13, 3) := by decide +kernel
theorem dX10_isGood_335 : decode cX10_isGood 335 = .ok (.bipush 7, 2) := by decide +kernel
theorem dX10_isGood_337 : decode cX10_isGood 337 = .ok (.dup2, 1) := by decide +kernel
theorem dX10_isGood_338 : decode cX10_isGood 338 = .ok (.iaload, 1) := by decide +kernel
theorem dX10_isGood_339 : decode cX10_isGood 339 = .ok (.iconst 2, 1) := by decide +kernel
theorem dX10_isGood_340 : decode cX10_isGood 340 = .ok (.ior, 1) := by decide +kernel
theorem dX10_isGood_341 : decode cX10_isGood 341 = .ok (.iastore, 1) := by decide +kernel
theorem dX10_isGood_342 : decode cX10_isGood 342 = .ok (.iload_n 2, 1) := by decide +kernel
theorem dX10_isGood_343 : decode cX10_isGood 343 = .ok (.i2l, 1) := by decide +kernel
theorem dX10_isGood_344 : decode cX10_isGood 344 = .ok (.lconst 1, 1) := by decide +kernel
theorem dX10_isGood_345 : decode cX10_isGood 345 = .ok (.aload_n 0, 1) := by decide +kernel
theorem dX10_isGood_346 : decode cX10_isGood 346 = .ok (.getfield 13, 3) := by decide +kernel
theorem dX10_isGood_349 : decode cX10_isGood 349 = .ok (.bipush 6, 2) := by decide +kernel
theorem dX10_isGood_351 : decode cX10_isGood 351 = .ok (.iaload, 1) := by decide +kernel
theorem dX10_isGood_352 : decode cX10_isGood 352 = .ok (.i2l, 1) := by decide +kernel
theorem dX10_isGood_353 : decode cX10_isGood 353 = .ok (.invokestatic 60, 3) := by decide +kernel
theorem dX10_isGood_356 : decode cX10_isGood 356 = .ok (.ifCond .eq 20, 3) := by decide +kernel
theorem dX10_isGood_359 : decode cX10_isGood 359 = .ok (.iload_n 3, 1) := by decide +kernel
theorem dX10_isGood_360 : decode cX10_isGood 360 = .ok (.i2l, 1) := by decide +kernel
theorem dX10_isGood_361 : decode cX10_isGood 361 = .ok (.lconst 1, 1) := by decide +kernel
theorem dX10_isGood_362 : decode cX10_isGood 362 = .ok (.aload_n 0, 1) := by decide +kernel
theorem dX10_isGood_363 : decode cX10_isGood 363 = .ok (.getfield 13, 3) := by decide +kernel
theorem dX10_isGood_366 : decode cX10_isGood 366 = .ok (.bipush 6, 2) := by decide +kernel
theorem dX10_isGood_368 : decode cX10_isGood 368 = .ok (.iaload, 1) := by decide +kernel
theorem dX10_isGood_369 : decode cX10_isGood 369 = .ok (.i2l, 1) := by decide +kernel
theorem dX10_isGood_370 : decode cX10_isGood 370 = .ok (.invokestatic 60, 3) := by decide +kernel
theorem dX10_isGood_373 : decode cX10_isGood 373 = .ok (.ifCond .ne 5, 3) := by decide +kernel
theorem dX10_isGood_376 : decode cX10_isGood 376 = .ok (.iconst 0, 1) := by decide +kernel
theorem dX10_isGood_377 : decode cX10_isGood 377 = .ok (.ireturn, 1) := by decide +kernel
theorem dX10_isGood_378 : decode cX10_isGood 378 = .ok (.aload_n 0, 1) := by decide +kernel
theorem dX10_isGood_379 : decode cX10_isGood 379 = .ok (.getfield 17, 3) := by decide +kernel
theorem dX10_isGood_382 : decode cX10_isGood 382 = .ok (.bipush 16, 2) := by decide +kernel
theorem dX10_isGood_384 : decode cX10_isGood 384 = .ok (.iconst 4, 1) := by decide +kernel
theorem dX10_isGood_385 : decode cX10_isGood 385 = .ok (.iload_n 2, 1) := by decide +kernel
theorem dX10_isGood_386 : decode cX10_isGood 386 = .ok (.imul, 1) := by decide +kernel
theorem dX10_isGood_387 : decode cX10_isGood 387 = .ok (.iadd, 1) := by decide +kernel
theorem dX10_isGood_388 : decode cX10_isGood 388 = .ok (.iload_n 3, 1) := by decide +kernel
theorem dX10_isGood_389 : decode cX10_isGood 389 = .ok (.iadd, 1) := by decide +kernel
theorem dX10_isGood_390 : decode cX10_isGood 390 = .ok (.iload_n 1, 1) := by decide +kernel
theorem dX10_isGood_391 : decode cX10_isGood 391 = .ok (.bipush 109, 2) := by decide +kernel
theorem dX10_isGood_393 : decode cX10_isGood 393 = .ok (.if_icmp .ne 7, 3) := by decide +kernel
theorem dX10_isGood_396 : decode cX10_isGood 396 = .ok (.iconst 1, 1) := by decide +kernel
theorem dX10_isGood_397 : decode cX10_isGood 397 = .ok (.goto 4, 3) := by decide +kernel
theorem dX10_isGood_400 : decode cX10_isGood 400 = .ok (.iconst 0, 1) := by decide +kernel
theorem dX10_isGood_401 : decode cX10_isGood 401 = .ok (.bastore, 1) := by decide +kernel
theorem dX10_isGood_402 : decode cX10_isGood 402 = .ok (.aload_n 0, 1) := by decide +kernel
theorem dX10_isGood_403 : decode cX10_isGood 403 = .ok (.getfield 17, 3) := by decide +kernel
theorem dX10_isGood_406 : decode cX10_isGood 406 = .ok (.bipush 16, 2) := by decide +kernel
theorem dX10_isGood_408 : decode cX10_isGood 408 = .ok (.iconst 4, 1) := by decide +kernel
theorem dX10_isGood_409 : decode cX10_isGood 409 = .ok (.iload_n 3, 1) := by decide +kernel
theorem dX10_isGood_410 : decode cX10_isGood 410 = .ok (.imul, 1) := by decide +kernel
theorem dX10_isGood_411 : decode cX10_isGood 411 = .ok (.iadd, 1) := by decide +kernel
theorem dX10_isGood_412 : decode cX10_isGood 412 = .ok (.iload_n 2, 1) := by decide +kernel
theorem dX10_isGood_413 : decode cX10_isGood 413 = .ok (.iadd, 1) := by decide +kernel
theorem dX10_isGood_414 : decode cX10_isGood 414 = .ok (.iload_n 1, 1) := by decide +kernel
theorem dX10_isGood_415 : decode cX10_isGood 415 = .ok (.bipush 109, 2) := by decide +kernel
theorem dX10_isGood_417 : decode cX10_isGood 417 = .ok (.if_icmp .ne 7, 3) := by decide +kernel
theorem dX10_isGood_420 : decode cX10_isGood 420 = .ok (.iconst 1, 1) := by decide +kernel
theorem dX10_isGood_421 : decode cX10_isGood 421 = .ok (.goto 4, 3) := by decide +kernel
theorem dX10_isGood_424 : decode cX10_isGood 424 = .ok (.iconst 0, 1) := by decide +kernel
theorem dX10_isGood_425 : decode cX10_isGood 425 = .ok (.bastore, 1) := by decide +kernel
theorem dX10_isGood_426 : decode cX10_isGood 426 = .ok (.iconst 1, 1) := by decide +kernel
theorem dX10_isGood_427 : decode cX10_isGood 427 = .ok (.ireturn, 1) := by decide +kernel
def fX10_isGood_425 (t_got_ : Nat → Int32) (p1 : Int32)  (s58 : Int32) (s59 : Int32) (m_t_told__60 : Nat → Int32) (m_t_touches__61 : Nat → Int32) (m_t_has__62 : Nat → Int32) (m_t_old__63 : Nat → Int32) : Option (Int32 × (Nat → Int32) × (Nat → Int32) × (Nat → Int32) × (Nat → Int32)) :=
(if s59 < 0 ∨ 32 ≤ s59.toNatClampNeg then none else
(jl_let (upd m_t_touches__61 s59.toNatClampNeg (vp_nar .boolean s58)) fun g65 =>
(some ((1 : Int32), m_t_told__60, g65, m_t_has__62, m_t_old__63))))
def fX10_isGood_401 (t_got_ : Nat → Int32) (p1 : Int32)  (x47 : Int32) (x48 : Int32) (s49 : Int32) (s50 : Int32) (m_t_told__51 : Nat → Int32) (m_t_touches__52 : Nat → Int32) (m_t_has__53 : Nat → Int32) (m_t_old__54 : Nat → Int32) : Option (Int32 × (Nat → Int32) × (Nat → Int32) × (Nat → Int32) × (Nat → Int32)) :=
(if s50 < 0 ∨ 32 ≤ s50.toNatClampNeg then none else
(jl_let (upd m_t_touches__52 s50.toNatClampNeg (vp_nar .boolean s49)) fun g56 =>
(if p1 = ((109 : Int32)) then
(fX10_isGood_425 t_got_ p1 ((1 : Int32)) ((((16 : Int32)) + (((4 : Int32)) * x48)) + x47) m_t_told__51 g56 m_t_has__53 m_t_old__54)
else
(fX10_isGood_425 t_got_ p1 ((0 : Int32)) ((((16 : Int32)) + (((4 : Int32)) * x48)) + x47) m_t_told__51 g56 m_t_has__53 m_t_old__54))))
def fX10_isGood (t_told_ : Nat → Int32) (t_touches_ : Nat → Int32) (t_has_ : Nat → Int32) (t_old_ : Nat → Int32) (t_got_ : Nat → Int32) (p1 : Int32) : Option (Int32 × (Nat → Int32) × (Nat → Int32) × (Nat → Int32) × (Nat → Int32)) :=
(jl_let (t_got_ ((0 : Int32)).toNatClampNeg) fun v1 =>
(jl_let (t_got_ ((1 : Int32)).toNatClampNeg) fun v2 =>
(if p1 = (97 : Int32) then
(jl_let (upd t_told_ ((7 : Int32)).toNatClampNeg ((t_told_ ((7 : Int32)).toNatClampNeg) ||| ((3 : Int32)))) fun g4 =>
(if ((g4 ((4 : Int32)).toNatClampNeg) * (g4 ((5 : Int32)).toNatClampNeg)) ≤ v1 then
(some ((0 : Int32), g4, t_touches_, t_has_, t_old_))
else
((fX10_in v2.toInt64 ((1 : Int64)) ((g4 ((6 : Int32)).toNatClampNeg).toInt64)).bind fun r6 =>
(if r6 = 0 then
(some ((0 : Int32), g4, t_touches_, t_has_, t_old_))
else
(if (((9 : Int32)) + v1) < 0 ∨ 18 ≤ (((9 : Int32)) + v1).toNatClampNeg then none else
(jl_let (upd t_old_ (((9 : Int32)) + v1).toNatClampNeg v2) fun g10 =>
(some ((1 : Int32), g4, t_touches_, t_has_, g10))))))))
else
(if p1 = (104 : Int32) then
(jl_let (upd t_told_ ((7 : Int32)).toNatClampNeg ((t_told_ ((7 : Int32)).toNatClampNeg) ||| ((2 : Int32)))) fun g12 =>
(if ((1 : Int32)) < v1 then
(some ((0 : Int32), g12, t_touches_, t_has_, t_old_))
else
(if v2 < (((1 : Int32)) <<< ((g12 ((6 : Int32)).toNatClampNeg) &&& 31)) then
(if (((2 : Int32)) + v1) < 0 ∨ 4 ≤ (((2 : Int32)) + v1).toNatClampNeg then none else
(jl_let (upd t_has_ (((2 : Int32)) + v1).toNatClampNeg v2) fun g16 =>
(some ((1 : Int32), g12, t_touches_, g16, t_old_))))
else
(some ((0 : Int32), g12, t_touches_, t_has_, t_old_)))))
else
(if p1 = (110 : Int32) then
(jl_let (upd t_told_ ((6 : Int32)).toNatClampNeg v1) fun g18 =>
(jl_let (upd t_has_ ((2 : Int32)).toNatClampNeg ((((1 : Int32)) <<< ((v1 - v1 / ((4 : Int32)) * ((4 : Int32))) &&& 31)) - ((1 : Int32)))) fun g19 =>
(jl_let (upd g19 ((3 : Int32)).toNatClampNeg (g19 ((2 : Int32)).toNatClampNeg)) fun g20 =>
((fX10_in v1.toInt64 ((1 : Int64)) ((3 : Int64))).bind fun r21 =>
(if r21 = 0 then
(some ((0 : Int32), g18, t_touches_, g20, t_old_))
else
(if ((g18 ((7 : Int32)).toNatClampNeg) &&& ((2 : Int32))) = 0 then
(some ((1 : Int32), g18, t_touches_, g20, t_old_))
else
(some ((0 : Int32), g18, t_touches_, g20, t_old_))))))))
else
(if p1 = (114 : Int32) then
(jl_let (upd t_told_ ((4 : Int32)).toNatClampNeg v1) fun g26 =>
(jl_let (upd g26 ((5 : Int32)).toNatClampNeg v2) fun g27 =>
(if v1 ≤ 0 then
(some ((0 : Int32), g27, t_touches_, t_has_, t_old_))
else
(if v2 ≤ 0 then
(some ((0 : Int32), g27, t_touches_, t_has_, t_old_))
else
(if ((10 : Int32)) ≤ v1 then
(some ((0 : Int32), g27, t_touches_, t_has_, t_old_))
else
(if ((10 : Int32)) ≤ v2 then
(some ((0 : Int32), g27, t_touches_, t_has_, t_old_))
else
(if ((10 : Int32)) ≤ (v1 * v2) then
(some ((0 : Int32), g27, t_touches_, t_has_, t_old_))
else
(if ((g27 ((7 : Int32)).toNatClampNeg) &&& ((1 : Int32))) = 0 then
(some ((1 : Int32), g27, t_touches_, t_has_, t_old_))
else
(some ((0 : Int32), g27, t_touches_, t_has_, t_old_))))))))))
else
(if p1 = (119 : Int32) then
(jl_let (upd t_told_ ((7 : Int32)).toNatClampNeg ((t_told_ ((7 : Int32)).toNatClampNeg) ||| ((1 : Int32)))) fun g35 =>
(if v1 < ((g35 ((4 : Int32)).toNatClampNeg) * (g35 ((5 : Int32)).toNatClampNeg)) then
(if (((9 : Int32)) + v1) < 0 ∨ 18 ≤ (((9 : Int32)) + v1).toNatClampNeg then none else
(jl_let (upd t_old_ (((9 : Int32)) + v1).toNatClampNeg ((9 : Int32))) fun g38 =>
(some ((1 : Int32), g35, t_touches_, t_has_, g38))))
else
(some ((0 : Int32), g35, t_touches_, t_has_, t_old_))))
else
(jl_let (upd t_told_ ((7 : Int32)).toNatClampNeg ((t_told_ ((7 : Int32)).toNatClampNeg) ||| ((2 : Int32)))) fun g39 =>
((fX10_in v1.toInt64 ((1 : Int64)) ((g39 ((6 : Int32)).toNatClampNeg).toInt64)).bind fun r40 =>
(if r40 = 0 then
(some ((0 : Int32), g39, t_touches_, t_has_, t_old_))
else
((fX10_in v2.toInt64 ((1 : Int64)) ((g39 ((6 : Int32)).toNatClampNeg).toInt64)).bind fun r43 =>
(if r43 = 0 then
(some ((0 : Int32), g39, t_touches_, t_has_, t_old_))
else
(if p1 = ((109 : Int32)) then
(fX10_isGood_401 t_got_ p1 v1 v2 ((1 : Int32)) ((((16 : Int32)) + (((4 : Int32)) * v1)) + v2) g39 t_touches_ t_has_ t_old_)
else
(fX10_isGood_401 t_got_ p1 v1 v2 ((0 : Int32)) ((((16 : Int32)) + (((4 : Int32)) * v1)) + v2) g39 t_touches_ t_has_ t_old_))))))))))))))
def oX10_isGood (D : jv_D) (h_t : Nat) (h_t_text : Nat) (h_t_told : Nat) (h_t_touches : Nat) (h_t_has : Nat) (h_t_old : Nat) (h_t_beside : Nat) (h_t_slot : Nat) (h_t_row : Nat) (h_t_free : Nat) (h_t_worth : Nat) (h_t_fore : Nat) (h_t_back : Nat) (h_t_got : Nat) (t_length : Int32) (t_at : Int32) (t_stones : Int32) (t_kept : Int32) (t_done : Int32) (t_rows : Int32) (t_frees : Int32) (t_fewest : Int32) (t_got_ : Nat → Int32) (r : Int32 × (Nat → Int32) × (Nat → Int32) × (Nat → Int32) × (Nat → Int32)) : va_W := [(h_t, .inr (8, [.int t_length, .ref h_t_text, .int t_at, .ref h_t_told, .ref h_t_touches, .ref h_t_has, .ref h_t_old, .ref h_t_beside, .int t_stones, .ref h_t_slot, .int t_kept, .int t_done, .int t_rows, .ref h_t_row, .ref h_t_free, .int t_frees, .ref h_t_worth, .ref h_t_fore, .ref h_t_back, .int t_fewest, .ref h_t_got])), (h_t_told, jI D 8 r.2.1), (h_t_touches, jZ D 32 r.2.2.1), (h_t_has, jI D 4 r.2.2.2.1), (h_t_old, jI D 18 r.2.2.2.2), (h_t_got, jI D 2 t_got_)]
set_option maxHeartbeats 40000000 in
set_option maxRecDepth 100000 in
theorem mX10_isGood (l : Launch) (D : jv_D) (h_t : Nat) (h_t_text : Nat) (h_t_told : Nat) (h_t_touches : Nat) (h_t_has : Nat) (h_t_old : Nat) (h_t_beside : Nat) (h_t_slot : Nat) (h_t_row : Nat) (h_t_free : Nat) (h_t_worth : Nat) (h_t_fore : Nat) (h_t_back : Nat) (h_t_got : Nat) (t_length : Int32) (t_at : Int32) (t_stones : Int32) (t_kept : Int32) (t_done : Int32) (t_rows : Int32) (t_frees : Int32) (t_fewest : Int32) (t_told_ : Nat → Int32) (t_touches_ : Nat → Int32) (t_has_ : Nat → Int32) (t_old_ : Nat → Int32) (t_got_ : Nat → Int32) (p1 : Int32) (r : Int32 × (Nat → Int32) × (Nat → Int32) × (Nat → Int32) × (Nat → Int32)) (h : fX10_isGood t_told_ t_touches_ t_has_ t_old_ t_got_ p1 = some r) : MM l yX10_isGood (jW yX10_isGood cX10_isGood 4 (some .boolean)) ({ frames := 1, cells := 0, slots := 0, locals := 25 }) D [.ref h_t, .int p1] [(h_t, .inr (8, [.int t_length, .ref h_t_text, .int t_at, .ref h_t_told, .ref h_t_touches, .ref h_t_has, .ref h_t_old, .ref h_t_beside, .int t_stones, .ref h_t_slot, .int t_kept, .int t_done, .int t_rows, .ref h_t_row, .ref h_t_free, .int t_frees, .ref h_t_worth, .ref h_t_fore, .ref h_t_back, .int t_fewest, .ref h_t_got])), (h_t_told, jI D 8 t_told_), (h_t_touches, jZ D 32 t_touches_), (h_t_has, jI D 4 t_has_), (h_t_old, jI D 18 t_old_), (h_t_got, jI D 2 t_got_)] (some (.int r.1)) (oX10_isGood D h_t h_t_text h_t_told h_t_touches h_t_has h_t_old h_t_beside h_t_slot h_t_row h_t_free h_t_worth h_t_fore h_t_back h_t_got t_length t_at t_stones t_kept t_done t_rows t_frees t_fewest t_got_ r) := by
  refine mn_of hpX10_isGood (Nat.le_of_ble_eq_true rfl) ?_
  intro X hXl C E0 hN
  subst hXl
  replace C : JC D X 4 RX10 cX10_isGood ({ frames := 1, cells := 0, slots := 0, locals := 25 }) := C
  have E : JE D X 0 0 (some .boolean) (fun _ : Unit => (some (.int r.1))) (fun _ : Unit => (oX10_isGood D h_t h_t_text h_t_told h_t_touches h_t_has h_t_old h_t_beside h_t_slot h_t_row h_t_free h_t_worth h_t_fore h_t_back h_t_got t_length t_at t_stones t_kept t_done t_rows t_frees t_fewest t_got_ r)) := E0 0 0 rfl rfl
  clear E0 hN
  show JJ D X 4 0 0 0 [(0, .ref h_t), (1, .int p1)] [] [(h_t, .inr (8, [.int t_length, .ref h_t_text, .int t_at, .ref h_t_told, .ref h_t_touches, .ref h_t_has, .ref h_t_old, .ref h_t_beside, .int t_stones, .ref h_t_slot, .int t_kept, .int t_done, .int t_rows, .ref h_t_row, .ref h_t_free, .int t_frees, .ref h_t_worth, .ref h_t_fore, .ref h_t_back, .int t_fewest, .ref h_t_got])), (h_t_told, jI D 8 t_told_), (h_t_touches, jZ D 32 t_touches_), (h_t_has, jI D 4 t_has_), (h_t_old, jI D 18 t_old_), (h_t_got, jI D 2 t_got_)]
  unfold fX10_isGood at h
  have L425 : ∀ (s58 : Int32) (s59 : Int32) (m_t_told__60 : Nat → Int32) (m_t_touches__61 : Nat → Int32) (m_t_has__62 : Nat → Int32) (m_t_old__63 : Nat → Int32), fX10_isGood_425 t_got_ p1  s58 s59 m_t_told__60 m_t_touches__61 m_t_has__62 m_t_old__63 = some r → JJ D X 4 0 0 425 [] [.int s58, .int s59, .ref h_t_touches] [(h_t, .inr (8, [.int t_length, .ref h_t_text, .int t_at, .ref h_t_told, .ref h_t_touches, .ref h_t_has, .ref h_t_old, .ref h_t_beside, .int t_stones, .ref h_t_slot, .int t_kept, .int t_done, .int t_rows, .ref h_t_row, .ref h_t_free, .int t_frees, .ref h_t_worth, .ref h_t_fore, .ref h_t_back, .int t_fewest, .ref h_t_got])), (h_t_told, jI D 8 m_t_told__60), (h_t_touches, jZ D 32 m_t_touches__61), (h_t_has, jI D 4 m_t_has__62), (h_t_old, jI D 18 m_t_old__63), (h_t_got, jI D 2 t_got_)] := by
    intro s58 s59 m_t_told__60 m_t_touches__61 m_t_has__62 m_t_old__63 h
    unfold fX10_isGood_425 at h
    refine jl_inb h (fun b64 h => ?_)
    refine j_zast C 2 rfl b64 dX10_isGood_425 (ws' := fun g65 => [(h_t, .inr (8, [.int t_length, .ref h_t_text, .int t_at, .ref h_t_told, .ref h_t_touches, .ref h_t_has, .ref h_t_old, .ref h_t_beside, .int t_stones, .ref h_t_slot, .int t_kept, .int t_done, .int t_rows, .ref h_t_row, .ref h_t_free, .int t_frees, .ref h_t_worth, .ref h_t_fore, .ref h_t_back, .int t_fewest, .ref h_t_got])), (h_t_told, jI D 8 m_t_told__60), (h_t_touches, jZ D 32 g65), (h_t_has, jI D 4 m_t_has__62), (h_t_old, jI D 18 m_t_old__63), (h_t_got, jI D 2 t_got_)]) (fun _ => rfl) h (fun g65 h => ?_)
    refine j_iconst C dX10_isGood_426 (v := (1 : Int32)) (by decide) ?_
    exact j_zretR C (r := r) (rtf := fun r => (some (.int r.1))) (wff := fun r => (oX10_isGood D h_t h_t_text h_t_told h_t_touches h_t_has h_t_old h_t_beside h_t_slot h_t_row h_t_free h_t_worth h_t_fore h_t_back h_t_got t_length t_at t_stones t_kept t_done t_rows t_frees t_fewest t_got_ r)) E rfl h rfl rfl dX10_isGood_427
  have L401 : ∀ (x47 : Int32) (x48 : Int32) (s49 : Int32) (s50 : Int32) (m_t_told__51 : Nat → Int32) (m_t_touches__52 : Nat → Int32) (m_t_has__53 : Nat → Int32) (m_t_old__54 : Nat → Int32), fX10_isGood_401 t_got_ p1  x47 x48 s49 s50 m_t_told__51 m_t_touches__52 m_t_has__53 m_t_old__54 = some r → JJ D X 4 0 0 401 [(0, .ref h_t), (1, .int p1), (2, .int x47), (3, .int x48)] [.int s49, .int s50, .ref h_t_touches] [(h_t, .inr (8, [.int t_length, .ref h_t_text, .int t_at, .ref h_t_told, .ref h_t_touches, .ref h_t_has, .ref h_t_old, .ref h_t_beside, .int t_stones, .ref h_t_slot, .int t_kept, .int t_done, .int t_rows, .ref h_t_row, .ref h_t_free, .int t_frees, .ref h_t_worth, .ref h_t_fore, .ref h_t_back, .int t_fewest, .ref h_t_got])), (h_t_told, jI D 8 m_t_told__51), (h_t_touches, jZ D 32 m_t_touches__52), (h_t_has, jI D 4 m_t_has__53), (h_t_old, jI D 18 m_t_old__54), (h_t_got, jI D 2 t_got_)] := by
    intro x47 x48 s49 s50 m_t_told__51 m_t_touches__52 m_t_has__53 m_t_old__54 h
    unfold fX10_isGood_401 at h
    refine jl_inb h (fun b55 h => ?_)
    refine j_zast C 2 rfl b55 dX10_isGood_401 (ws' := fun g56 => [(h_t, .inr (8, [.int t_length, .ref h_t_text, .int t_at, .ref h_t_told, .ref h_t_touches, .ref h_t_has, .ref h_t_old, .ref h_t_beside, .int t_stones, .ref h_t_slot, .int t_kept, .int t_done, .int t_rows, .ref h_t_row, .ref h_t_free, .int t_frees, .ref h_t_worth, .ref h_t_fore, .ref h_t_back, .int t_fewest, .ref h_t_got])), (h_t_told, jI D 8 m_t_told__51), (h_t_touches, jZ D 32 g56), (h_t_has, jI D 4 m_t_has__53), (h_t_old, jI D 18 m_t_old__54), (h_t_got, jI D 2 t_got_)]) (fun _ => rfl) h (fun g56 h => ?_)
    refine j_aload_n C dX10_isGood_402 rfl 0 rfl ?_
    refine j_get C ibX10 (ci := 8) 0 rfl rfl 4 (by decide) bfX10_17 (v := .ref h_t_touches) rfl dX10_isGood_403 ?_
    refine j_bipush C dX10_isGood_406 (v := (16 : Int32)) (by decide) ?_
    refine j_iconst C dX10_isGood_408 (v := (4 : Int32)) (by decide) ?_
    refine j_iload_n C dX10_isGood_409 rfl 3 rfl ?_
    refine j_imul C dX10_isGood_410 ?_
    refine j_iadd C dX10_isGood_411 ?_
    refine j_iload_n C dX10_isGood_412 rfl 2 rfl ?_
    refine j_iadd C dX10_isGood_413 ?_
    refine j_iload_n C dX10_isGood_414 rfl 1 rfl ?_
    refine j_bipush C dX10_isGood_415 (v := (109 : Int32)) (by decide) ?_
    refine j_icmp_ne C (tgt := 424) dX10_isGood_417 (by decide) h (fun c57 h => ?_) (fun c57 h => ?_)
    · refine j_iconst C dX10_isGood_420 (v := (1 : Int32)) (by decide) ?_
      refine j_goto C dX10_isGood_421 (tgt := 425) (by decide) ?_
      refine j_sub (lv' := []) [] rfl ?_
      exact L425 ((1 : Int32)) ((((16 : Int32)) + (((4 : Int32)) * x48)) + x47) m_t_told__51 g56 m_t_has__53 m_t_old__54 h
    · refine j_iconst C dX10_isGood_424 (v := (0 : Int32)) (by decide) ?_
      refine j_sub (lv' := []) [] rfl ?_
      exact L425 ((0 : Int32)) ((((16 : Int32)) + (((4 : Int32)) * x48)) + x47) m_t_told__51 g56 m_t_has__53 m_t_old__54 h
  refine j_aload_n C dX10_isGood_0 rfl 0 rfl ?_
  refine j_get C ibX10 (ci := 8) 0 rfl rfl 20 (by decide) bfX10_49 (v := .ref h_t_got) rfl dX10_isGood_1 ?_
  refine j_iconst C dX10_isGood_4 (v := (0 : Int32)) (by decide) ?_
  refine j_iald C 5 rfl (by unfold vp_in; decide) dX10_isGood_5 ?_
  refine j_istore_n C dX10_isGood_6 rfl (lv' := fun v1 => [(2, .int v1), (0, .ref h_t), (1, .int p1)]) (by decide) (fun _ => rfl) h (fun v1 h => ?_)
  refine j_aload_n C dX10_isGood_7 rfl 1 rfl ?_
  refine j_get C ibX10 (ci := 8) 0 rfl rfl 20 (by decide) bfX10_49 (v := .ref h_t_got) rfl dX10_isGood_8 ?_
  refine j_iconst C dX10_isGood_11 (v := (1 : Int32)) (by decide) ?_
  refine j_iald C 5 rfl (by unfold vp_in; decide) dX10_isGood_12 ?_
  refine j_istore_n C dX10_isGood_13 rfl (lv' := fun v2 => [(3, .int v2), (2, .int v1), (0, .ref h_t), (1, .int p1)]) (by decide) (fun _ => rfl) h (fun v2 h => ?_)
  refine j_iload_n C dX10_isGood_14 rfl 3 rfl ?_
  refine jl_ite h (fun c3 h => ?_) (fun c3 h => ?_)
  · refine j_lookup C (tgt := 272) dX10_isGood_15 (by decide) (off := 257) (by rw [c3]; decide) (by decide) ?_
    refine j_aload_n C dX10_isGood_272 rfl 2 rfl ?_
    refine j_get C ibX10 (ci := 8) 0 rfl rfl 3 (by decide) bfX10_13 (v := .ref h_t_told) rfl dX10_isGood_273 ?_
    refine j_bipush C dX10_isGood_276 (v := (7 : Int32)) (by decide) ?_
    refine j_dup2_11 C dX10_isGood_278 rfl rfl ?_
    refine j_iald C 1 rfl (by unfold vp_in; decide) dX10_isGood_279 ?_
    refine j_iconst C dX10_isGood_280 (v := (3 : Int32)) (by decide) ?_
    refine j_ior C dX10_isGood_281 ?_
    refine j_iast C 1 rfl (by unfold vp_in; decide) dX10_isGood_282 (ws' := fun g4 => [(h_t, .inr (8, [.int t_length, .ref h_t_text, .int t_at, .ref h_t_told, .ref h_t_touches, .ref h_t_has, .ref h_t_old, .ref h_t_beside, .int t_stones, .ref h_t_slot, .int t_kept, .int t_done, .int t_rows, .ref h_t_row, .ref h_t_free, .int t_frees, .ref h_t_worth, .ref h_t_fore, .ref h_t_back, .int t_fewest, .ref h_t_got])), (h_t_told, jI D 8 g4), (h_t_touches, jZ D 32 t_touches_), (h_t_has, jI D 4 t_has_), (h_t_old, jI D 18 t_old_), (h_t_got, jI D 2 t_got_)]) (fun _ => rfl) h (fun g4 h => ?_)
    refine j_iload_n C dX10_isGood_283 rfl 1 rfl ?_
    refine j_aload_n C dX10_isGood_284 rfl 2 rfl ?_
    refine j_get C ibX10 (ci := 8) 0 rfl rfl 3 (by decide) bfX10_13 (v := .ref h_t_told) rfl dX10_isGood_285 ?_
    refine j_iconst C dX10_isGood_288 (v := (4 : Int32)) (by decide) ?_
    refine j_iald C 1 rfl (by unfold vp_in; decide) dX10_isGood_289 ?_
    refine j_aload_n C dX10_isGood_290 rfl 2 rfl ?_
    refine j_get C ibX10 (ci := 8) 0 rfl rfl 3 (by decide) bfX10_13 (v := .ref h_t_told) rfl dX10_isGood_291 ?_
    refine j_iconst C dX10_isGood_294 (v := (5 : Int32)) (by decide) ?_
    refine j_iald C 1 rfl (by unfold vp_in; decide) dX10_isGood_295 ?_
    refine j_imul C dX10_isGood_296 ?_
    refine j_icmp_ge C (tgt := 317) dX10_isGood_297 (by decide) h (fun c5 h => ?_) (fun c5 h => ?_)
    · refine j_iconst C dX10_isGood_317 (v := (0 : Int32)) (by decide) ?_
      exact j_zretR C (r := r) (rtf := fun r => (some (.int r.1))) (wff := fun r => (oX10_isGood D h_t h_t_text h_t_told h_t_touches h_t_has h_t_old h_t_beside h_t_slot h_t_row h_t_free h_t_worth h_t_fore h_t_back h_t_got t_length t_at t_stones t_kept t_done t_rows t_frees t_fewest t_got_ r)) E rfl h rfl rfl dX10_isGood_318
    · refine j_iload_n C dX10_isGood_300 rfl 0 rfl ?_
      refine j_i2l C dX10_isGood_301 ?_
      refine j_lconst C dX10_isGood_302 (v := (1 : Int64)) (by decide) ?_
      refine j_aload_n C dX10_isGood_303 rfl 2 rfl ?_
      refine j_get C ibX10 (ci := 8) 0 rfl rfl 3 (by decide) bfX10_13 (v := .ref h_t_told) rfl dX10_isGood_304 ?_
      refine j_bipush C dX10_isGood_307 (v := (6 : Int32)) (by decide) ?_
      refine j_iald C 1 rfl (by unfold vp_in; decide) dX10_isGood_309 ?_
      refine j_i2l C dX10_isGood_310 ?_
      obtain ⟨r6, q7, h⟩ := jl_bind h
      refine j_cS1 C (mX10_in (jlaunch X) D v2.toInt64 ((1 : Int64)) ((g4 ((6 : Int32)).toNatClampNeg).toInt64) r6 q7) bmX10_60 btX10_in bzX10 bcX10_in hX10_in (rest := []) rfl (jroom_of rfl) [] [0, 1, 2, 3, 4, 5] [0, 1, 2, 3, 4, 5] (wr := [(h_t, .inr (8, [.int t_length, .ref h_t_text, .int t_at, .ref h_t_told, .ref h_t_touches, .ref h_t_has, .ref h_t_old, .ref h_t_beside, .int t_stones, .ref h_t_slot, .int t_kept, .int t_done, .int t_rows, .ref h_t_row, .ref h_t_free, .int t_frees, .ref h_t_worth, .ref h_t_fore, .ref h_t_back, .int t_fewest, .ref h_t_got])), (h_t_told, jI D 8 g4), (h_t_touches, jZ D 32 t_touches_), (h_t_has, jI D 4 t_has_), (h_t_old, jI D 18 t_old_), (h_t_got, jI D 2 t_got_)]) (ws2 := [(h_t, .inr (8, [.int t_length, .ref h_t_text, .int t_at, .ref h_t_told, .ref h_t_touches, .ref h_t_has, .ref h_t_old, .ref h_t_beside, .int t_stones, .ref h_t_slot, .int t_kept, .int t_done, .int t_rows, .ref h_t_row, .ref h_t_free, .int t_frees, .ref h_t_worth, .ref h_t_fore, .ref h_t_back, .int t_fewest, .ref h_t_got])), (h_t_told, jI D 8 g4), (h_t_touches, jZ D 32 t_touches_), (h_t_has, jI D 4 t_has_), (h_t_old, jI D 18 t_old_), (h_t_got, jI D 2 t_got_)]) rfl rfl rfl rfl rfl (Nat.le_of_ble_eq_true rfl) dX10_isGood_311 ?_
      refine j_if_ne C (tgt := 319) dX10_isGood_314 (by decide) h (fun c8 h => ?_) (fun c8 h => ?_)
      · refine j_iconst C dX10_isGood_317 (v := (0 : Int32)) (by decide) ?_
        exact j_zretR C (r := r) (rtf := fun r => (some (.int r.1))) (wff := fun r => (oX10_isGood D h_t h_t_text h_t_told h_t_touches h_t_has h_t_old h_t_beside h_t_slot h_t_row h_t_free h_t_worth h_t_fore h_t_back h_t_got t_length t_at t_stones t_kept t_done t_rows t_frees t_fewest t_got_ r)) E rfl h rfl rfl dX10_isGood_318
      · refine j_aload_n C dX10_isGood_319 rfl 2 rfl ?_
        refine j_get C ibX10 (ci := 8) 0 rfl rfl 6 (by decide) bfX10_24 (v := .ref h_t_old) rfl dX10_isGood_320 ?_
        refine j_bipush C dX10_isGood_323 (v := (9 : Int32)) (by decide) ?_
        refine j_iload_n C dX10_isGood_325 rfl 1 rfl ?_
        refine j_iadd C dX10_isGood_326 ?_
        refine j_iload_n C dX10_isGood_327 rfl 0 rfl ?_
        refine jl_inb h (fun b9 h => ?_)
        refine j_iast C 4 rfl b9 dX10_isGood_328 (ws' := fun g10 => [(h_t, .inr (8, [.int t_length, .ref h_t_text, .int t_at, .ref h_t_told, .ref h_t_touches, .ref h_t_has, .ref h_t_old, .ref h_t_beside, .int t_stones, .ref h_t_slot, .int t_kept, .int t_done, .int t_rows, .ref h_t_row, .ref h_t_free, .int t_frees, .ref h_t_worth, .ref h_t_fore, .ref h_t_back, .int t_fewest, .ref h_t_got])), (h_t_told, jI D 8 g4), (h_t_touches, jZ D 32 t_touches_), (h_t_has, jI D 4 t_has_), (h_t_old, jI D 18 g10), (h_t_got, jI D 2 t_got_)]) (fun _ => rfl) h (fun g10 h => ?_)
        refine j_iconst C dX10_isGood_329 (v := (1 : Int32)) (by decide) ?_
        exact j_zretR C (r := r) (rtf := fun r => (some (.int r.1))) (wff := fun r => (oX10_isGood D h_t h_t_text h_t_told h_t_touches h_t_has h_t_old h_t_beside h_t_slot h_t_row h_t_free h_t_worth h_t_fore h_t_back h_t_got t_length t_at t_stones t_kept t_done t_rows t_frees t_fewest t_got_ r)) E rfl h rfl rfl dX10_isGood_330
  refine jl_ite h (fun c11 h => ?_) (fun c11 h => ?_)
  · refine j_lookup C (tgt := 187) dX10_isGood_15 (by decide) (off := 172) (by rw [c11]; decide) (by decide) ?_
    refine j_aload_n C dX10_isGood_187 rfl 2 rfl ?_
    refine j_get C ibX10 (ci := 8) 0 rfl rfl 3 (by decide) bfX10_13 (v := .ref h_t_told) rfl dX10_isGood_188 ?_
    refine j_bipush C dX10_isGood_191 (v := (7 : Int32)) (by decide) ?_
    refine j_dup2_11 C dX10_isGood_193 rfl rfl ?_
    refine j_iald C 1 rfl (by unfold vp_in; decide) dX10_isGood_194 ?_
    refine j_iconst C dX10_isGood_195 (v := (2 : Int32)) (by decide) ?_
    refine j_ior C dX10_isGood_196 ?_
    refine j_iast C 1 rfl (by unfold vp_in; decide) dX10_isGood_197 (ws' := fun g12 => [(h_t, .inr (8, [.int t_length, .ref h_t_text, .int t_at, .ref h_t_told, .ref h_t_touches, .ref h_t_has, .ref h_t_old, .ref h_t_beside, .int t_stones, .ref h_t_slot, .int t_kept, .int t_done, .int t_rows, .ref h_t_row, .ref h_t_free, .int t_frees, .ref h_t_worth, .ref h_t_fore, .ref h_t_back, .int t_fewest, .ref h_t_got])), (h_t_told, jI D 8 g12), (h_t_touches, jZ D 32 t_touches_), (h_t_has, jI D 4 t_has_), (h_t_old, jI D 18 t_old_), (h_t_got, jI D 2 t_got_)]) (fun _ => rfl) h (fun g12 h => ?_)
    refine j_iload_n C dX10_isGood_198 rfl 1 rfl ?_
    refine j_iconst C dX10_isGood_199 (v := (1 : Int32)) (by decide) ?_
    refine j_icmp_gt C (tgt := 216) dX10_isGood_200 (by decide) h (fun c13 h => ?_) (fun c13 h => ?_)
    · refine j_iconst C dX10_isGood_216 (v := (0 : Int32)) (by decide) ?_
      exact j_zretR C (r := r) (rtf := fun r => (some (.int r.1))) (wff := fun r => (oX10_isGood D h_t h_t_text h_t_told h_t_touches h_t_has h_t_old h_t_beside h_t_slot h_t_row h_t_free h_t_worth h_t_fore h_t_back h_t_got t_length t_at t_stones t_kept t_done t_rows t_frees t_fewest t_got_ r)) E rfl h rfl rfl dX10_isGood_217
    · refine j_iload_n C dX10_isGood_203 rfl 0 rfl ?_
      refine j_iconst C dX10_isGood_204 (v := (1 : Int32)) (by decide) ?_
      refine j_aload_n C dX10_isGood_205 rfl 2 rfl ?_
      refine j_get C ibX10 (ci := 8) 0 rfl rfl 3 (by decide) bfX10_13 (v := .ref h_t_told) rfl dX10_isGood_206 ?_
      refine j_bipush C dX10_isGood_209 (v := (6 : Int32)) (by decide) ?_
      refine j_iald C 1 rfl (by unfold vp_in; decide) dX10_isGood_211 ?_
      refine j_ishl C dX10_isGood_212 ?_
      refine j_icmp_lt C (tgt := 218) dX10_isGood_213 (by decide) h (fun c14 h => ?_) (fun c14 h => ?_)
      · refine j_aload_n C dX10_isGood_218 rfl 2 rfl ?_
        refine j_get C ibX10 (ci := 8) 0 rfl rfl 5 (by decide) bfX10_21 (v := .ref h_t_has) rfl dX10_isGood_219 ?_
        refine j_iconst C dX10_isGood_222 (v := (2 : Int32)) (by decide) ?_
        refine j_iload_n C dX10_isGood_223 rfl 1 rfl ?_
        refine j_iadd C dX10_isGood_224 ?_
        refine j_iload_n C dX10_isGood_225 rfl 0 rfl ?_
        refine jl_inb h (fun b15 h => ?_)
        refine j_iast C 3 rfl b15 dX10_isGood_226 (ws' := fun g16 => [(h_t, .inr (8, [.int t_length, .ref h_t_text, .int t_at, .ref h_t_told, .ref h_t_touches, .ref h_t_has, .ref h_t_old, .ref h_t_beside, .int t_stones, .ref h_t_slot, .int t_kept, .int t_done, .int t_rows, .ref h_t_row, .ref h_t_free, .int t_frees, .ref h_t_worth, .ref h_t_fore, .ref h_t_back, .int t_fewest, .ref h_t_got])), (h_t_told, jI D 8 g12), (h_t_touches, jZ D 32 t_touches_), (h_t_has, jI D 4 g16), (h_t_old, jI D 18 t_old_), (h_t_got, jI D 2 t_got_)]) (fun _ => rfl) h (fun g16 h => ?_)
        refine j_iconst C dX10_isGood_227 (v := (1 : Int32)) (by decide) ?_
        exact j_zretR C (r := r) (rtf := fun r => (some (.int r.1))) (wff := fun r => (oX10_isGood D h_t h_t_text h_t_told h_t_touches h_t_has h_t_old h_t_beside h_t_slot h_t_row h_t_free h_t_worth h_t_fore h_t_back h_t_got t_length t_at t_stones t_kept t_done t_rows t_frees t_fewest t_got_ r)) E rfl h rfl rfl dX10_isGood_228
      · refine j_iconst C dX10_isGood_216 (v := (0 : Int32)) (by decide) ?_
        exact j_zretR C (r := r) (rtf := fun r => (some (.int r.1))) (wff := fun r => (oX10_isGood D h_t h_t_text h_t_told h_t_touches h_t_has h_t_old h_t_beside h_t_slot h_t_row h_t_free h_t_worth h_t_fore h_t_back h_t_got t_length t_at t_stones t_kept t_done t_rows t_frees t_fewest t_got_ r)) E rfl h rfl rfl dX10_isGood_217
  refine jl_ite h (fun c17 h => ?_) (fun c17 h => ?_)
  · refine j_lookup C (tgt := 124) dX10_isGood_15 (by decide) (off := 109) (by rw [c17]; decide) (by decide) ?_
    refine j_aload_n C dX10_isGood_124 rfl 2 rfl ?_
    refine j_get C ibX10 (ci := 8) 0 rfl rfl 3 (by decide) bfX10_13 (v := .ref h_t_told) rfl dX10_isGood_125 ?_
    refine j_bipush C dX10_isGood_128 (v := (6 : Int32)) (by decide) ?_
    refine j_iload_n C dX10_isGood_130 rfl 1 rfl ?_
    refine j_iast C 1 rfl (by unfold vp_in; decide) dX10_isGood_131 (ws' := fun g18 => [(h_t, .inr (8, [.int t_length, .ref h_t_text, .int t_at, .ref h_t_told, .ref h_t_touches, .ref h_t_has, .ref h_t_old, .ref h_t_beside, .int t_stones, .ref h_t_slot, .int t_kept, .int t_done, .int t_rows, .ref h_t_row, .ref h_t_free, .int t_frees, .ref h_t_worth, .ref h_t_fore, .ref h_t_back, .int t_fewest, .ref h_t_got])), (h_t_told, jI D 8 g18), (h_t_touches, jZ D 32 t_touches_), (h_t_has, jI D 4 t_has_), (h_t_old, jI D 18 t_old_), (h_t_got, jI D 2 t_got_)]) (fun _ => rfl) h (fun g18 h => ?_)
    refine j_aload_n C dX10_isGood_132 rfl 2 rfl ?_
    refine j_get C ibX10 (ci := 8) 0 rfl rfl 5 (by decide) bfX10_21 (v := .ref h_t_has) rfl dX10_isGood_133 ?_
    refine j_iconst C dX10_isGood_136 (v := (2 : Int32)) (by decide) ?_
    refine j_iconst C dX10_isGood_137 (v := (1 : Int32)) (by decide) ?_
    refine j_iload_n C dX10_isGood_138 rfl 1 rfl ?_
    refine j_iconst C dX10_isGood_139 (v := (4 : Int32)) (by decide) ?_
    refine j_irem C dX10_isGood_140 (by decide) ?_
    refine j_ishl C dX10_isGood_141 ?_
    refine j_iconst C dX10_isGood_142 (v := (1 : Int32)) (by decide) ?_
    refine j_isub C dX10_isGood_143 ?_
    refine j_iast C 3 rfl (by unfold vp_in; decide) dX10_isGood_144 (ws' := fun g19 => [(h_t, .inr (8, [.int t_length, .ref h_t_text, .int t_at, .ref h_t_told, .ref h_t_touches, .ref h_t_has, .ref h_t_old, .ref h_t_beside, .int t_stones, .ref h_t_slot, .int t_kept, .int t_done, .int t_rows, .ref h_t_row, .ref h_t_free, .int t_frees, .ref h_t_worth, .ref h_t_fore, .ref h_t_back, .int t_fewest, .ref h_t_got])), (h_t_told, jI D 8 g18), (h_t_touches, jZ D 32 t_touches_), (h_t_has, jI D 4 g19), (h_t_old, jI D 18 t_old_), (h_t_got, jI D 2 t_got_)]) (fun _ => rfl) h (fun g19 h => ?_)
    refine j_aload_n C dX10_isGood_145 rfl 2 rfl ?_
    refine j_get C ibX10 (ci := 8) 0 rfl rfl 5 (by decide) bfX10_21 (v := .ref h_t_has) rfl dX10_isGood_146 ?_
    refine j_iconst C dX10_isGood_149 (v := (3 : Int32)) (by decide) ?_
    refine j_aload_n C dX10_isGood_150 rfl 2 rfl ?_
    refine j_get C ibX10 (ci := 8) 0 rfl rfl 5 (by decide) bfX10_21 (v := .ref h_t_has) rfl dX10_isGood_151 ?_
    refine j_iconst C dX10_isGood_154 (v := (2 : Int32)) (by decide) ?_
    refine j_iald C 3 rfl (by unfold vp_in; decide) dX10_isGood_155 ?_
    refine j_iast C 3 rfl (by unfold vp_in; decide) dX10_isGood_156 (ws' := fun g20 => [(h_t, .inr (8, [.int t_length, .ref h_t_text, .int t_at, .ref h_t_told, .ref h_t_touches, .ref h_t_has, .ref h_t_old, .ref h_t_beside, .int t_stones, .ref h_t_slot, .int t_kept, .int t_done, .int t_rows, .ref h_t_row, .ref h_t_free, .int t_frees, .ref h_t_worth, .ref h_t_fore, .ref h_t_back, .int t_fewest, .ref h_t_got])), (h_t_told, jI D 8 g18), (h_t_touches, jZ D 32 t_touches_), (h_t_has, jI D 4 g20), (h_t_old, jI D 18 t_old_), (h_t_got, jI D 2 t_got_)]) (fun _ => rfl) h (fun g20 h => ?_)
    refine j_iload_n C dX10_isGood_157 rfl 1 rfl ?_
    refine j_i2l C dX10_isGood_158 ?_
    refine j_lconst C dX10_isGood_159 (v := (1 : Int64)) (by decide) ?_
    refine j_ldc2_w C bKX10_89 dX10_isGood_160 ?_
    obtain ⟨r21, q22, h⟩ := jl_bind h
    refine j_cS1 C (mX10_in (jlaunch X) D v1.toInt64 ((1 : Int64)) ((3 : Int64)) r21 q22) bmX10_60 btX10_in bzX10 bcX10_in hX10_in (rest := []) rfl (jroom_of rfl) [] [0, 1, 2, 3, 4, 5] [0, 1, 2, 3, 4, 5] (wr := [(h_t, .inr (8, [.int t_length, .ref h_t_text, .int t_at, .ref h_t_told, .ref h_t_touches, .ref h_t_has, .ref h_t_old, .ref h_t_beside, .int t_stones, .ref h_t_slot, .int t_kept, .int t_done, .int t_rows, .ref h_t_row, .ref h_t_free, .int t_frees, .ref h_t_worth, .ref h_t_fore, .ref h_t_back, .int t_fewest, .ref h_t_got])), (h_t_told, jI D 8 g18), (h_t_touches, jZ D 32 t_touches_), (h_t_has, jI D 4 g20), (h_t_old, jI D 18 t_old_), (h_t_got, jI D 2 t_got_)]) (ws2 := [(h_t, .inr (8, [.int t_length, .ref h_t_text, .int t_at, .ref h_t_told, .ref h_t_touches, .ref h_t_has, .ref h_t_old, .ref h_t_beside, .int t_stones, .ref h_t_slot, .int t_kept, .int t_done, .int t_rows, .ref h_t_row, .ref h_t_free, .int t_frees, .ref h_t_worth, .ref h_t_fore, .ref h_t_back, .int t_fewest, .ref h_t_got])), (h_t_told, jI D 8 g18), (h_t_touches, jZ D 32 t_touches_), (h_t_has, jI D 4 g20), (h_t_old, jI D 18 t_old_), (h_t_got, jI D 2 t_got_)]) rfl rfl rfl rfl rfl (Nat.le_of_ble_eq_true rfl) dX10_isGood_163 ?_
    refine j_if_eq C (tgt := 185) dX10_isGood_166 (by decide) h (fun c23 h => ?_) (fun c23 h => ?_)
    · refine j_iconst C dX10_isGood_185 (v := (0 : Int32)) (by decide) ?_
      exact j_zretR C (r := r) (rtf := fun r => (some (.int r.1))) (wff := fun r => (oX10_isGood D h_t h_t_text h_t_told h_t_touches h_t_has h_t_old h_t_beside h_t_slot h_t_row h_t_free h_t_worth h_t_fore h_t_back h_t_got t_length t_at t_stones t_kept t_done t_rows t_frees t_fewest t_got_ r)) E rfl h rfl rfl dX10_isGood_186
    · refine j_aload_n C dX10_isGood_169 rfl 2 rfl ?_
      refine j_get C ibX10 (ci := 8) 0 rfl rfl 3 (by decide) bfX10_13 (v := .ref h_t_told) rfl dX10_isGood_170 ?_
      refine j_bipush C dX10_isGood_173 (v := (7 : Int32)) (by decide) ?_
      refine j_iald C 1 rfl (by unfold vp_in; decide) dX10_isGood_175 ?_
      refine j_iconst C dX10_isGood_176 (v := (2 : Int32)) (by decide) ?_
      refine j_iand C dX10_isGood_177 ?_
      refine j_if_ne C (tgt := 185) dX10_isGood_178 (by decide) h (fun c24 h => ?_) (fun c24 h => ?_)
      · refine j_iconst C dX10_isGood_181 (v := (1 : Int32)) (by decide) ?_
        refine j_goto C dX10_isGood_182 (tgt := 186) (by decide) ?_
        exact j_zretR C (r := r) (rtf := fun r => (some (.int r.1))) (wff := fun r => (oX10_isGood D h_t h_t_text h_t_told h_t_touches h_t_has h_t_old h_t_beside h_t_slot h_t_row h_t_free h_t_worth h_t_fore h_t_back h_t_got t_length t_at t_stones t_kept t_done t_rows t_frees t_fewest t_got_ r)) E rfl h rfl rfl dX10_isGood_186
      · refine j_iconst C dX10_isGood_185 (v := (0 : Int32)) (by decide) ?_
        exact j_zretR C (r := r) (rtf := fun r => (some (.int r.1))) (wff := fun r => (oX10_isGood D h_t h_t_text h_t_told h_t_touches h_t_has h_t_old h_t_beside h_t_slot h_t_row h_t_free h_t_worth h_t_fore h_t_back h_t_got t_length t_at t_stones t_kept t_done t_rows t_frees t_fewest t_got_ r)) E rfl h rfl rfl dX10_isGood_186
  refine jl_ite h (fun c25 h => ?_) (fun c25 h => ?_)
  · refine j_lookup C (tgt := 64) dX10_isGood_15 (by decide) (off := 49) (by rw [c25]; decide) (by decide) ?_
    refine j_aload_n C dX10_isGood_64 rfl 2 rfl ?_
    refine j_get C ibX10 (ci := 8) 0 rfl rfl 3 (by decide) bfX10_13 (v := .ref h_t_told) rfl dX10_isGood_65 ?_
    refine j_iconst C dX10_isGood_68 (v := (4 : Int32)) (by decide) ?_
    refine j_iload_n C dX10_isGood_69 rfl 1 rfl ?_
    refine j_iast C 1 rfl (by unfold vp_in; decide) dX10_isGood_70 (ws' := fun g26 => [(h_t, .inr (8, [.int t_length, .ref h_t_text, .int t_at, .ref h_t_told, .ref h_t_touches, .ref h_t_has, .ref h_t_old, .ref h_t_beside, .int t_stones, .ref h_t_slot, .int t_kept, .int t_done, .int t_rows, .ref h_t_row, .ref h_t_free, .int t_frees, .ref h_t_worth, .ref h_t_fore, .ref h_t_back, .int t_fewest, .ref h_t_got])), (h_t_told, jI D 8 g26), (h_t_touches, jZ D 32 t_touches_), (h_t_has, jI D 4 t_has_), (h_t_old, jI D 18 t_old_), (h_t_got, jI D 2 t_got_)]) (fun _ => rfl) h (fun g26 h => ?_)
    refine j_aload_n C dX10_isGood_71 rfl 2 rfl ?_
    refine j_get C ibX10 (ci := 8) 0 rfl rfl 3 (by decide) bfX10_13 (v := .ref h_t_told) rfl dX10_isGood_72 ?_
    refine j_iconst C dX10_isGood_75 (v := (5 : Int32)) (by decide) ?_
    refine j_iload_n C dX10_isGood_76 rfl 0 rfl ?_
    refine j_iast C 1 rfl (by unfold vp_in; decide) dX10_isGood_77 (ws' := fun g27 => [(h_t, .inr (8, [.int t_length, .ref h_t_text, .int t_at, .ref h_t_told, .ref h_t_touches, .ref h_t_has, .ref h_t_old, .ref h_t_beside, .int t_stones, .ref h_t_slot, .int t_kept, .int t_done, .int t_rows, .ref h_t_row, .ref h_t_free, .int t_frees, .ref h_t_worth, .ref h_t_fore, .ref h_t_back, .int t_fewest, .ref h_t_got])), (h_t_told, jI D 8 g27), (h_t_touches, jZ D 32 t_touches_), (h_t_has, jI D 4 t_has_), (h_t_old, jI D 18 t_old_), (h_t_got, jI D 2 t_got_)]) (fun _ => rfl) h (fun g27 h => ?_)
    refine j_iload_n C dX10_isGood_78 rfl 1 rfl ?_
    refine j_if_le C (tgt := 122) dX10_isGood_79 (by decide) h (fun c28 h => ?_) (fun c28 h => ?_)
    · refine j_iconst C dX10_isGood_122 (v := (0 : Int32)) (by decide) ?_
      exact j_zretR C (r := r) (rtf := fun r => (some (.int r.1))) (wff := fun r => (oX10_isGood D h_t h_t_text h_t_told h_t_touches h_t_has h_t_old h_t_beside h_t_slot h_t_row h_t_free h_t_worth h_t_fore h_t_back h_t_got t_length t_at t_stones t_kept t_done t_rows t_frees t_fewest t_got_ r)) E rfl h rfl rfl dX10_isGood_123
    · refine j_iload_n C dX10_isGood_82 rfl 0 rfl ?_
      refine j_if_le C (tgt := 122) dX10_isGood_83 (by decide) h (fun c29 h => ?_) (fun c29 h => ?_)
      · refine j_iconst C dX10_isGood_122 (v := (0 : Int32)) (by decide) ?_
        exact j_zretR C (r := r) (rtf := fun r => (some (.int r.1))) (wff := fun r => (oX10_isGood D h_t h_t_text h_t_told h_t_touches h_t_has h_t_old h_t_beside h_t_slot h_t_row h_t_free h_t_worth h_t_fore h_t_back h_t_got t_length t_at t_stones t_kept t_done t_rows t_frees t_fewest t_got_ r)) E rfl h rfl rfl dX10_isGood_123
      · refine j_iload_n C dX10_isGood_86 rfl 1 rfl ?_
        refine j_bipush C dX10_isGood_87 (v := (10 : Int32)) (by decide) ?_
        refine j_icmp_ge C (tgt := 122) dX10_isGood_89 (by decide) h (fun c30 h => ?_) (fun c30 h => ?_)
        · refine j_iconst C dX10_isGood_122 (v := (0 : Int32)) (by decide) ?_
          exact j_zretR C (r := r) (rtf := fun r => (some (.int r.1))) (wff := fun r => (oX10_isGood D h_t h_t_text h_t_told h_t_touches h_t_has h_t_old h_t_beside h_t_slot h_t_row h_t_free h_t_worth h_t_fore h_t_back h_t_got t_length t_at t_stones t_kept t_done t_rows t_frees t_fewest t_got_ r)) E rfl h rfl rfl dX10_isGood_123
        · refine j_iload_n C dX10_isGood_92 rfl 0 rfl ?_
          refine j_bipush C dX10_isGood_93 (v := (10 : Int32)) (by decide) ?_
          refine j_icmp_ge C (tgt := 122) dX10_isGood_95 (by decide) h (fun c31 h => ?_) (fun c31 h => ?_)
          · refine j_iconst C dX10_isGood_122 (v := (0 : Int32)) (by decide) ?_
            exact j_zretR C (r := r) (rtf := fun r => (some (.int r.1))) (wff := fun r => (oX10_isGood D h_t h_t_text h_t_told h_t_touches h_t_has h_t_old h_t_beside h_t_slot h_t_row h_t_free h_t_worth h_t_fore h_t_back h_t_got t_length t_at t_stones t_kept t_done t_rows t_frees t_fewest t_got_ r)) E rfl h rfl rfl dX10_isGood_123
          · refine j_iload_n C dX10_isGood_98 rfl 1 rfl ?_
            refine j_iload_n C dX10_isGood_99 rfl 0 rfl ?_
            refine j_imul C dX10_isGood_100 ?_
            refine j_bipush C dX10_isGood_101 (v := (10 : Int32)) (by decide) ?_
            refine j_icmp_ge C (tgt := 122) dX10_isGood_103 (by decide) h (fun c32 h => ?_) (fun c32 h => ?_)
            · refine j_iconst C dX10_isGood_122 (v := (0 : Int32)) (by decide) ?_
              exact j_zretR C (r := r) (rtf := fun r => (some (.int r.1))) (wff := fun r => (oX10_isGood D h_t h_t_text h_t_told h_t_touches h_t_has h_t_old h_t_beside h_t_slot h_t_row h_t_free h_t_worth h_t_fore h_t_back h_t_got t_length t_at t_stones t_kept t_done t_rows t_frees t_fewest t_got_ r)) E rfl h rfl rfl dX10_isGood_123
            · refine j_aload_n C dX10_isGood_106 rfl 2 rfl ?_
              refine j_get C ibX10 (ci := 8) 0 rfl rfl 3 (by decide) bfX10_13 (v := .ref h_t_told) rfl dX10_isGood_107 ?_
              refine j_bipush C dX10_isGood_110 (v := (7 : Int32)) (by decide) ?_
              refine j_iald C 1 rfl (by unfold vp_in; decide) dX10_isGood_112 ?_
              refine j_iconst C dX10_isGood_113 (v := (1 : Int32)) (by decide) ?_
              refine j_iand C dX10_isGood_114 ?_
              refine j_if_ne C (tgt := 122) dX10_isGood_115 (by decide) h (fun c33 h => ?_) (fun c33 h => ?_)
              · refine j_iconst C dX10_isGood_118 (v := (1 : Int32)) (by decide) ?_
                refine j_goto C dX10_isGood_119 (tgt := 123) (by decide) ?_
                exact j_zretR C (r := r) (rtf := fun r => (some (.int r.1))) (wff := fun r => (oX10_isGood D h_t h_t_text h_t_told h_t_touches h_t_has h_t_old h_t_beside h_t_slot h_t_row h_t_free h_t_worth h_t_fore h_t_back h_t_got t_length t_at t_stones t_kept t_done t_rows t_frees t_fewest t_got_ r)) E rfl h rfl rfl dX10_isGood_123
              · refine j_iconst C dX10_isGood_122 (v := (0 : Int32)) (by decide) ?_
                exact j_zretR C (r := r) (rtf := fun r => (some (.int r.1))) (wff := fun r => (oX10_isGood D h_t h_t_text h_t_told h_t_touches h_t_has h_t_old h_t_beside h_t_slot h_t_row h_t_free h_t_worth h_t_fore h_t_back h_t_got t_length t_at t_stones t_kept t_done t_rows t_frees t_fewest t_got_ r)) E rfl h rfl rfl dX10_isGood_123
  refine jl_ite h (fun c34 h => ?_) (fun c34 h => ?_)
  · refine j_lookup C (tgt := 229) dX10_isGood_15 (by decide) (off := 214) (by rw [c34]; decide) (by decide) ?_
    refine j_aload_n C dX10_isGood_229 rfl 2 rfl ?_
    refine j_get C ibX10 (ci := 8) 0 rfl rfl 3 (by decide) bfX10_13 (v := .ref h_t_told) rfl dX10_isGood_230 ?_
    refine j_bipush C dX10_isGood_233 (v := (7 : Int32)) (by decide) ?_
    refine j_dup2_11 C dX10_isGood_235 rfl rfl ?_
    refine j_iald C 1 rfl (by unfold vp_in; decide) dX10_isGood_236 ?_
    refine j_iconst C dX10_isGood_237 (v := (1 : Int32)) (by decide) ?_
    refine j_ior C dX10_isGood_238 ?_
    refine j_iast C 1 rfl (by unfold vp_in; decide) dX10_isGood_239 (ws' := fun g35 => [(h_t, .inr (8, [.int t_length, .ref h_t_text, .int t_at, .ref h_t_told, .ref h_t_touches, .ref h_t_has, .ref h_t_old, .ref h_t_beside, .int t_stones, .ref h_t_slot, .int t_kept, .int t_done, .int t_rows, .ref h_t_row, .ref h_t_free, .int t_frees, .ref h_t_worth, .ref h_t_fore, .ref h_t_back, .int t_fewest, .ref h_t_got])), (h_t_told, jI D 8 g35), (h_t_touches, jZ D 32 t_touches_), (h_t_has, jI D 4 t_has_), (h_t_old, jI D 18 t_old_), (h_t_got, jI D 2 t_got_)]) (fun _ => rfl) h (fun g35 h => ?_)
    refine j_iload_n C dX10_isGood_240 rfl 1 rfl ?_
    refine j_aload_n C dX10_isGood_241 rfl 2 rfl ?_
    refine j_get C ibX10 (ci := 8) 0 rfl rfl 3 (by decide) bfX10_13 (v := .ref h_t_told) rfl dX10_isGood_242 ?_
    refine j_iconst C dX10_isGood_245 (v := (4 : Int32)) (by decide) ?_
    refine j_iald C 1 rfl (by unfold vp_in; decide) dX10_isGood_246 ?_
    refine j_aload_n C dX10_isGood_247 rfl 2 rfl ?_
    refine j_get C ibX10 (ci := 8) 0 rfl rfl 3 (by decide) bfX10_13 (v := .ref h_t_told) rfl dX10_isGood_248 ?_
    refine j_iconst C dX10_isGood_251 (v := (5 : Int32)) (by decide) ?_
    refine j_iald C 1 rfl (by unfold vp_in; decide) dX10_isGood_252 ?_
    refine j_imul C dX10_isGood_253 ?_
    refine j_icmp_lt C (tgt := 259) dX10_isGood_254 (by decide) h (fun c36 h => ?_) (fun c36 h => ?_)
    · refine j_aload_n C dX10_isGood_259 rfl 2 rfl ?_
      refine j_get C ibX10 (ci := 8) 0 rfl rfl 6 (by decide) bfX10_24 (v := .ref h_t_old) rfl dX10_isGood_260 ?_
      refine j_bipush C dX10_isGood_263 (v := (9 : Int32)) (by decide) ?_
      refine j_iload_n C dX10_isGood_265 rfl 1 rfl ?_
      refine j_iadd C dX10_isGood_266 ?_
      refine j_bipush C dX10_isGood_267 (v := (9 : Int32)) (by decide) ?_
      refine jl_inb h (fun b37 h => ?_)
      refine j_iast C 4 rfl b37 dX10_isGood_269 (ws' := fun g38 => [(h_t, .inr (8, [.int t_length, .ref h_t_text, .int t_at, .ref h_t_told, .ref h_t_touches, .ref h_t_has, .ref h_t_old, .ref h_t_beside, .int t_stones, .ref h_t_slot, .int t_kept, .int t_done, .int t_rows, .ref h_t_row, .ref h_t_free, .int t_frees, .ref h_t_worth, .ref h_t_fore, .ref h_t_back, .int t_fewest, .ref h_t_got])), (h_t_told, jI D 8 g35), (h_t_touches, jZ D 32 t_touches_), (h_t_has, jI D 4 t_has_), (h_t_old, jI D 18 g38), (h_t_got, jI D 2 t_got_)]) (fun _ => rfl) h (fun g38 h => ?_)
      refine j_iconst C dX10_isGood_270 (v := (1 : Int32)) (by decide) ?_
      exact j_zretR C (r := r) (rtf := fun r => (some (.int r.1))) (wff := fun r => (oX10_isGood D h_t h_t_text h_t_told h_t_touches h_t_has h_t_old h_t_beside h_t_slot h_t_row h_t_free h_t_worth h_t_fore h_t_back h_t_got t_length t_at t_stones t_kept t_done t_rows t_frees t_fewest t_got_ r)) E rfl h rfl rfl dX10_isGood_271
    · refine j_iconst C dX10_isGood_257 (v := (0 : Int32)) (by decide) ?_
      exact j_zretR C (r := r) (rtf := fun r => (some (.int r.1))) (wff := fun r => (oX10_isGood D h_t h_t_text h_t_told h_t_touches h_t_has h_t_old h_t_beside h_t_slot h_t_row h_t_free h_t_worth h_t_fore h_t_back h_t_got t_length t_at t_stones t_kept t_done t_rows t_frees t_fewest t_got_ r)) E rfl h rfl rfl dX10_isGood_258
  refine j_lookup C (tgt := 331) dX10_isGood_15 (by decide) (off := 316) (by show Op.lookupswitch.offset [(97, 257), (104, 172), (110, 109), (114, 49), (119, 214)] 316 _ = 316; simp only [Op.lookupswitch.offset, show ¬ (97 : Int) = Int32.toInt p1 from fun e => lv_neT (a := 97) c3 (by decide) e.symm, show ¬ (104 : Int) = Int32.toInt p1 from fun e => lv_neT (a := 104) c11 (by decide) e.symm, show ¬ (110 : Int) = Int32.toInt p1 from fun e => lv_neT (a := 110) c17 (by decide) e.symm, show ¬ (114 : Int) = Int32.toInt p1 from fun e => lv_neT (a := 114) c25 (by decide) e.symm, show ¬ (119 : Int) = Int32.toInt p1 from fun e => lv_neT (a := 119) c34 (by decide) e.symm, if_false, ite_false]) (by decide) ?_
  refine j_aload_n C dX10_isGood_331 rfl 2 rfl ?_
  refine j_get C ibX10 (ci := 8) 0 rfl rfl 3 (by decide) bfX10_13 (v := .ref h_t_told) rfl dX10_isGood_332 ?_
  refine j_bipush C dX10_isGood_335 (v := (7 : Int32)) (by decide) ?_
  refine j_dup2_11 C dX10_isGood_337 rfl rfl ?_
  refine j_iald C 1 rfl (by unfold vp_in; decide) dX10_isGood_338 ?_
  refine j_iconst C dX10_isGood_339 (v := (2 : Int32)) (by decide) ?_
  refine j_ior C dX10_isGood_340 ?_
  refine j_iast C 1 rfl (by unfold vp_in; decide) dX10_isGood_341 (ws' := fun g39 => [(h_t, .inr (8, [.int t_length, .ref h_t_text, .int t_at, .ref h_t_told, .ref h_t_touches, .ref h_t_has, .ref h_t_old, .ref h_t_beside, .int t_stones, .ref h_t_slot, .int t_kept, .int t_done, .int t_rows, .ref h_t_row, .ref h_t_free, .int t_frees, .ref h_t_worth, .ref h_t_fore, .ref h_t_back, .int t_fewest, .ref h_t_got])), (h_t_told, jI D 8 g39), (h_t_touches, jZ D 32 t_touches_), (h_t_has, jI D 4 t_has_), (h_t_old, jI D 18 t_old_), (h_t_got, jI D 2 t_got_)]) (fun _ => rfl) h (fun g39 h => ?_)
  refine j_iload_n C dX10_isGood_342 rfl 1 rfl ?_
  refine j_i2l C dX10_isGood_343 ?_
  refine j_lconst C dX10_isGood_344 (v := (1 : Int64)) (by decide) ?_
  refine j_aload_n C dX10_isGood_345 rfl 2 rfl ?_
  refine j_get C ibX10 (ci := 8) 0 rfl rfl 3 (by decide) bfX10_13 (v := .ref h_t_told) rfl dX10_isGood_346 ?_
  refine j_bipush C dX10_isGood_349 (v := (6 : Int32)) (by decide) ?_
  refine j_iald C 1 rfl (by unfold vp_in; decide) dX10_isGood_351 ?_
  refine j_i2l C dX10_isGood_352 ?_
  obtain ⟨r40, q41, h⟩ := jl_bind h
  refine j_cS1 C (mX10_in (jlaunch X) D v1.toInt64 ((1 : Int64)) ((g39 ((6 : Int32)).toNatClampNeg).toInt64) r40 q41) bmX10_60 btX10_in bzX10 bcX10_in hX10_in (rest := []) rfl (jroom_of rfl) [] [0, 1, 2, 3, 4, 5] [0, 1, 2, 3, 4, 5] (wr := [(h_t, .inr (8, [.int t_length, .ref h_t_text, .int t_at, .ref h_t_told, .ref h_t_touches, .ref h_t_has, .ref h_t_old, .ref h_t_beside, .int t_stones, .ref h_t_slot, .int t_kept, .int t_done, .int t_rows, .ref h_t_row, .ref h_t_free, .int t_frees, .ref h_t_worth, .ref h_t_fore, .ref h_t_back, .int t_fewest, .ref h_t_got])), (h_t_told, jI D 8 g39), (h_t_touches, jZ D 32 t_touches_), (h_t_has, jI D 4 t_has_), (h_t_old, jI D 18 t_old_), (h_t_got, jI D 2 t_got_)]) (ws2 := [(h_t, .inr (8, [.int t_length, .ref h_t_text, .int t_at, .ref h_t_told, .ref h_t_touches, .ref h_t_has, .ref h_t_old, .ref h_t_beside, .int t_stones, .ref h_t_slot, .int t_kept, .int t_done, .int t_rows, .ref h_t_row, .ref h_t_free, .int t_frees, .ref h_t_worth, .ref h_t_fore, .ref h_t_back, .int t_fewest, .ref h_t_got])), (h_t_told, jI D 8 g39), (h_t_touches, jZ D 32 t_touches_), (h_t_has, jI D 4 t_has_), (h_t_old, jI D 18 t_old_), (h_t_got, jI D 2 t_got_)]) rfl rfl rfl rfl rfl (Nat.le_of_ble_eq_true rfl) dX10_isGood_353 ?_
  refine j_if_eq C (tgt := 376) dX10_isGood_356 (by decide) h (fun c42 h => ?_) (fun c42 h => ?_)
  · refine j_iconst C dX10_isGood_376 (v := (0 : Int32)) (by decide) ?_
    exact j_zretR C (r := r) (rtf := fun r => (some (.int r.1))) (wff := fun r => (oX10_isGood D h_t h_t_text h_t_told h_t_touches h_t_has h_t_old h_t_beside h_t_slot h_t_row h_t_free h_t_worth h_t_fore h_t_back h_t_got t_length t_at t_stones t_kept t_done t_rows t_frees t_fewest t_got_ r)) E rfl h rfl rfl dX10_isGood_377
  · refine j_iload_n C dX10_isGood_359 rfl 0 rfl ?_
    refine j_i2l C dX10_isGood_360 ?_
    refine j_lconst C dX10_isGood_361 (v := (1 : Int64)) (by decide) ?_
    refine j_aload_n C dX10_isGood_362 rfl 2 rfl ?_
    refine j_get C ibX10 (ci := 8) 0 rfl rfl 3 (by decide) bfX10_13 (v := .ref h_t_told) rfl dX10_isGood_363 ?_
    refine j_bipush C dX10_isGood_366 (v := (6 : Int32)) (by decide) ?_
    refine j_iald C 1 rfl (by unfold vp_in; decide) dX10_isGood_368 ?_
    refine j_i2l C dX10_isGood_369 ?_
    obtain ⟨r43, q44, h⟩ := jl_bind h
    refine j_cS1 C (mX10_in (jlaunch X) D v2.toInt64 ((1 : Int64)) ((g39 ((6 : Int32)).toNatClampNeg).toInt64) r43 q44) bmX10_60 btX10_in bzX10 bcX10_in hX10_in (rest := []) rfl (jroom_of rfl) [] [0, 1, 2, 3, 4, 5] [0, 1, 2, 3, 4, 5] (wr := [(h_t, .inr (8, [.int t_length, .ref h_t_text, .int t_at, .ref h_t_told, .ref h_t_touches, .ref h_t_has, .ref h_t_old, .ref h_t_beside, .int t_stones, .ref h_t_slot, .int t_kept, .int t_done, .int t_rows, .ref h_t_row, .ref h_t_free, .int t_frees, .ref h_t_worth, .ref h_t_fore, .ref h_t_back, .int t_fewest, .ref h_t_got])), (h_t_told, jI D 8 g39), (h_t_touches, jZ D 32 t_touches_), (h_t_has, jI D 4 t_has_), (h_t_old, jI D 18 t_old_), (h_t_got, jI D 2 t_got_)]) (ws2 := [(h_t, .inr (8, [.int t_length, .ref h_t_text, .int t_at, .ref h_t_told, .ref h_t_touches, .ref h_t_has, .ref h_t_old, .ref h_t_beside, .int t_stones, .ref h_t_slot, .int t_kept, .int t_done, .int t_rows, .ref h_t_row, .ref h_t_free, .int t_frees, .ref h_t_worth, .ref h_t_fore, .ref h_t_back, .int t_fewest, .ref h_t_got])), (h_t_told, jI D 8 g39), (h_t_touches, jZ D 32 t_touches_), (h_t_has, jI D 4 t_has_), (h_t_old, jI D 18 t_old_), (h_t_got, jI D 2 t_got_)]) rfl rfl rfl rfl rfl (Nat.le_of_ble_eq_true rfl) dX10_isGood_370 ?_
    refine j_if_ne C (tgt := 378) dX10_isGood_373 (by decide) h (fun c45 h => ?_) (fun c45 h => ?_)
    · refine j_iconst C dX10_isGood_376 (v := (0 : Int32)) (by decide) ?_
      exact j_zretR C (r := r) (rtf := fun r => (some (.int r.1))) (wff := fun r => (oX10_isGood D h_t h_t_text h_t_told h_t_touches h_t_has h_t_old h_t_beside h_t_slot h_t_row h_t_free h_t_worth h_t_fore h_t_back h_t_got t_length t_at t_stones t_kept t_done t_rows t_frees t_fewest t_got_ r)) E rfl h rfl rfl dX10_isGood_377
    · refine j_aload_n C dX10_isGood_378 rfl 2 rfl ?_
      refine j_get C ibX10 (ci := 8) 0 rfl rfl 4 (by decide) bfX10_17 (v := .ref h_t_touches) rfl dX10_isGood_379 ?_
      refine j_bipush C dX10_isGood_382 (v := (16 : Int32)) (by decide) ?_
      refine j_iconst C dX10_isGood_384 (v := (4 : Int32)) (by decide) ?_
      refine j_iload_n C dX10_isGood_385 rfl 1 rfl ?_
      refine j_imul C dX10_isGood_386 ?_
      refine j_iadd C dX10_isGood_387 ?_
      refine j_iload_n C dX10_isGood_388 rfl 0 rfl ?_
      refine j_iadd C dX10_isGood_389 ?_
      refine j_iload_n C dX10_isGood_390 rfl 3 rfl ?_
      refine j_bipush C dX10_isGood_391 (v := (109 : Int32)) (by decide) ?_
      refine j_icmp_ne C (tgt := 400) dX10_isGood_393 (by decide) h (fun c46 h => ?_) (fun c46 h => ?_)
      · refine j_iconst C dX10_isGood_396 (v := (1 : Int32)) (by decide) ?_
        refine j_goto C dX10_isGood_397 (tgt := 401) (by decide) ?_
        refine j_sub (lv' := [(0, .ref h_t), (1, .int p1), (2, .int v1), (3, .int v2)]) [2, 3, 1, 0] rfl ?_
        exact L401 v1 v2 ((1 : Int32)) ((((16 : Int32)) + (((4 : Int32)) * v1)) + v2) g39 t_touches_ t_has_ t_old_ h
      · refine j_iconst C dX10_isGood_400 (v := (0 : Int32)) (by decide) ?_
        refine j_sub (lv' := [(0, .ref h_t), (1, .int p1), (2, .int v1), (3, .int v2)]) [2, 3, 1, 0] rfl ?_
        exact L401 v1 v2 ((0 : Int32)) ((((16 : Int32)) + (((4 : Int32)) * v1)) + v2) g39 t_touches_ t_has_ t_old_ h
theorem dX10_isItem_0 : decode cX10_isItem 0 = .ok (.aload_n 0, 1) := by decide +kernel
theorem dX10_isItem_1 : decode cX10_isItem 1 = .ok (.getfield 7, 3) := by decide +kernel
theorem dX10_isItem_4 : decode cX10_isItem 4 = .ok (.aload_n 0, 1) := by decide +kernel
theorem dX10_isItem_5 : decode cX10_isItem 5 = .ok (.getfield 68, 3) := by decide +kernel
theorem dX10_isItem_8 : decode cX10_isItem 8 = .ok (.baload, 1) := by decide +kernel
theorem dX10_isItem_9 : decode cX10_isItem 9 = .ok (.istore_n 1, 1) := by decide +kernel
theorem dX10_isItem_10 : decode cX10_isItem 10 = .ok (.aload_n 0, 1) := by decide +kernel
theorem dX10_isItem_11 : decode cX10_isItem 11 = .ok (.dup, 1) := by decide +kernel
theorem dX10_isItem_12 : decode cX10_isItem 12 = .ok (.getfield 68, 3) := by decide +kernel
theorem dX10_isItem_15 : decode cX10_isItem 15 = .ok (.iconst 1, 1) := by decide +kernel
theorem dX10_isItem_16 : decode cX10_isItem 16 = .ok (.iadd, 1) := by decide +kernel
theorem dX10_isItem_17 : decode cX10_isItem 17 = .ok (.putfield 68, 3) := by decide +kernel
theorem dX10_isItem_20 : decode cX10_isItem 20 = .ok (.iload_n 1, 1) := by decide +kernel
theorem dX10_isItem_21 : decode cX10_isItem 21 = .ok (.invokestatic 77, 3) := by decide +kernel
theorem dX10_isItem_24 : decode cX10_isItem 24 = .ok (.istore_n 2, 1) := by decide +kernel
theorem dX10_isItem_25 : decode cX10_isItem 25 = .ok (.iload_n 2, 1) := by decide +kernel
theorem dX10_isItem_26 : decode cX10_isItem 26 = .ok (.ifCond .le 7, 3) := by decide +kernel
theorem dX10_isItem_29 : decode cX10_isItem 29 = .ok (.iconst 1, 1) := by decide +kernel
theorem dX10_isItem_30 : decode cX10_isItem 30 = .ok (.goto 4, 3) := by decide +kernel
theorem dX10_isItem_33 : decode cX10_isItem 33 = .ok (.iconst 0, 1) := by decide +kernel
theorem dX10_isItem_34 : decode cX10_isItem 34 = .ok (.istore_n 3, 1) := by decide +kernel
theorem dX10_isItem_35 : decode cX10_isItem 35 = .ok (.iconst 0, 1) := by decide +kernel
theorem dX10_isItem_36 : decode cX10_isItem 36 = .ok (.istore 4, 2) := by decide +kernel
theorem dX10_isItem_38 : decode cX10_isItem 38 = .ok (.iload 4, 2) := by decide +kernel
theorem dX10_isItem_40 : decode cX10_isItem 40 = .ok (.iload_n 2, 1) := by decide +kernel
theorem dX10_isItem_41 : decode cX10_isItem 41 = .ok (.if_icmp .ge 103, 3) := by decide +kernel
theorem dX10_isItem_44 : decode cX10_isItem 44 = .ok (.iload_n 3, 1) := by decide +kernel
theorem dX10_isItem_45 : decode cX10_isItem 45 = .ok (.ifCond .eq 99, 3) := by decide +kernel
theorem dX10_isItem_48 : decode cX10_isItem 48 = .ok (.iload 4, 2) := by decide +kernel
theorem dX10_isItem_50 : decode cX10_isItem 50 = .ok (.ifCond .eq 28, 3) := by decide +kernel
theorem dX10_isItem_53 : decode cX10_isItem 53 = .ok (.aload_n 0, 1) := by decide +kernel
theorem dX10_isItem_54 : decode cX10_isItem 54 = .ok (.getfield 68, 3) := by decide +kernel
theorem dX10_isItem_57 : decode cX10_isItem 57 = .ok (.aload_n 0, 1) := by decide +kernel
theorem dX10_isItem_58 : decode cX10_isItem 58 = .ok (.getfield 64, 3) := by decide +kernel
theorem dX10_isItem_61 : decode cX10_isItem 61 = .ok (.if_icmp .ge 21, 3) := by decide +kernel
theorem dX10_isItem_64 : decode cX10_isItem 64 = .ok (.aload_n 0, 1) := by decide +kernel
theorem dX10_isItem_65 : decode cX10_isItem 65 = .ok (.getfield 7, 3) := by decide +kernel
theorem dX10_isItem_68 : decode cX10_isItem 68 = .ok (.aload_n 0, 1) := by decide +kernel
theorem dX10_isItem_69 : decode cX10_isItem 69 = .ok (.getfield 68, 3) := by decide +kernel
theorem dX10_isItem_72 : decode cX10_isItem 72 = .ok (.baload, 1) := by decide +kernel
theorem dX10_isItem_73 : decode cX10_isItem 73 = .ok (.bipush 44, 2) := by decide +kernel
theorem dX10_isItem_75 : decode cX10_isItem 75 = .ok (.if_icmp .ne 7, 3) := by decide +kernel
theorem dX10_isItem_78 : decode cX10_isItem 78 = .ok (.iconst 1, 1) := by decide +kernel
theorem dX10_isItem_79 : decode cX10_isItem 79 = .ok (.goto 4, 3) := by decide +kernel
theorem dX10_isItem_82 : decode cX10_isItem 82 = .ok (.iconst 0, 1) := by decide +kernel
theorem dX10_isItem_83 : decode cX10_isItem 83 = .ok (.istore_n 3, 1) := by decide +kernel
theorem dX10_isItem_84 : decode cX10_isItem 84 = .ok (.aload_n 0, 1) := by decide +kernel
theorem dX10_isItem_85 : decode cX10_isItem 85 = .ok (.dup, 1) := by decide +kernel
theorem dX10_isItem_86 : decode cX10_isItem 86 = .ok (.getfield 68, 3) := by decide +kernel
theorem dX10_isItem_89 : decode cX10_isItem 89 = .ok (.iload 4, 2) := by decide +kernel
theorem dX10_isItem_91 : decode cX10_isItem 91 = .ok (.ifCond .ne 7, 3) := by decide +kernel
theorem dX10_isItem_94 : decode cX10_isItem 94 = .ok (.iconst 0, 1) := by decide +kernel
theorem dX10_isItem_95 : decode cX10_isItem 95 = .ok (.goto 4, 3) := by decide +kernel
theorem dX10_isItem_98 : decode cX10_isItem 98 = .ok (.iconst 1, 1) := by decide +kernel
theorem dX10_isItem_99 : decode cX10_isItem 99 = .ok (.iadd, 1) := by decide +kernel
theorem dX10_isItem_100 : decode cX10_isItem 100 = .ok (.putfield 68, 3) := by decide +kernel
theorem dX10_isItem_103 : decode cX10_isItem 103 = .ok (.aload_n 0, 1) := by decide +kernel
theorem dX10_isItem_104 : decode cX10_isItem 104 = .ok (.getfield 49, 3) := by decide +kernel
theorem dX10_isItem_107 : decode cX10_isItem 107 = .ok (.iload 4, 2) := by decide +kernel
theorem dX10_isItem_109 : decode cX10_isItem 109 = .ok (.iload_n 3, 1) := by decide +kernel
theorem dX10_isItem_110 : decode cX10_isItem 110 = .ok (.ifCond .eq 10, 3) := by decide +kernel
theorem dX10_isItem_113 : decode cX10_isItem 113 = .ok (.aload_n 0, 1) := by decide +kernel
theorem dX10_isItem_114 : decode cX10_isItem 114 = .ok (.invokevirtual 81, 3) := by decide +kernel
theorem dX10_isItem_117 : decode cX10_isItem 117 = .ok (.goto 4, 3) := by decide +kernel
theorem dX10_isItem_120 : decode cX10_isItem 120 = .ok (.iconst (-1), 1) := by decide +kernel
theorem dX10_isItem_121 : decode cX10_isItem 121 = .ok (.iastore, 1) := by decide +kernel
theorem dX10_isItem_122 : decode cX10_isItem 122 = .ok (.aload_n 0, 1) := by decide +kernel
theorem dX10_isItem_123 : decode cX10_isItem 123 = .ok (.getfield 49, 3) := by decide +kernel
theorem dX10_isItem_126 : decode cX10_isItem 126 = .ok (.iload 4, 2) := by decide +kernel
theorem dX10_isItem_128 : decode cX10_isItem 128 = .ok (.iaload, 1) := by decide +kernel
theorem dX10_isItem_129 : decode cX10_isItem 129 = .ok (.ifCond .lt 7, 3) := by decide +kernel
theorem dX10_isItem_132 : decode cX10_isItem 132 = .ok (.iconst 1, 1) := by decide +kernel
theorem dX10_isItem_133 : decode cX10_isItem 133 = .ok (.goto 4, 3) := by decide +kernel
theorem dX10_isItem_136 : decode cX10_isItem 136 = .ok (.iconst 0, 1) := by decide +kernel
theorem dX10_isItem_137 : decode cX10_isItem 137 = .ok (.istore_n 3, 1) := by decide +kernel
theorem dX10_isItem_138 : decode cX10_isItem 138 = .ok (.iinc 4 1, 3) := by decide +kernel
theorem dX10_isItem_141 : decode cX10_isItem 141 = .ok (.goto (-103), 3) := by decide +kernel
theorem dX10_isItem_144 : decode cX10_isItem 144 = .ok (.iload_n 3, 1) := by decide +kernel
theorem dX10_isItem_145 : decode cX10_isItem 145 = .ok (.ifCond .eq 32, 3) := by decide +kernel
theorem dX10_isItem_148 : decode cX10_isItem 148 = .ok (.aload_n 0, 1) := by decide +kernel
theorem dX10_isItem_149 : decode cX10_isItem 149 = .ok (.getfield 68, 3) := by decide +kernel
theorem dX10_isItem_152 : decode cX10_isItem 152 = .ok (.aload_n 0, 1) := by decide +kernel
theorem dX10_isItem_153 : decode cX10_isItem 153 = .ok (.getfield 64, 3) := by decide +kernel
theorem dX10_isItem_156 : decode cX10_isItem 156 = .ok (.if_icmp .ge 21, 3) := by decide +kernel
theorem dX10_isItem_159 : decode cX10_isItem 159 = .ok (.aload_n 0, 1) := by decide +kernel
theorem dX10_isItem_160 : decode cX10_isItem 160 = .ok (.getfield 7, 3) := by decide +kernel
theorem dX10_isItem_163 : decode cX10_isItem 163 = .ok (.aload_n 0, 1) := by decide +kernel
theorem dX10_isItem_164 : decode cX10_isItem 164 = .ok (.getfield 68, 3) := by decide +kernel
theorem dX10_isItem_167 : decode cX10_isItem 167 = .ok (.baload, 1) := by decide +kernel
theorem dX10_isItem_168 : decode cX10_isItem 168 = .ok (.bipush 59, 2) := by decide +kernel
theorem dX10_isItem_170 : decode cX10_isItem 170 = .ok (.if_icmp .ne 7, 3) := by decide +kernel
theorem dX10_isItem_173 : decode cX10_isItem 173 = .ok (.iconst 1, 1) := by decide +kernel
theorem dX10_isItem_174 : decode cX10_isItem 174 = .ok (.goto 4, 3) := by decide +kernel
theorem dX10_isItem_177 : decode cX10_isItem 177 = .ok (.iconst 0, 1) := by decide +kernel
theorem dX10_isItem_178 : decode cX10_isItem 178 = .ok (.istore_n 3, 1) := by decide +kernel
theorem dX10_isItem_179 : decode cX10_isItem 179 = .ok (.aload_n 0, 1) := by decide +kernel
theorem dX10_isItem_180 : decode cX10_isItem 180 = .ok (.dup, 1) := by decide +kernel
theorem dX10_isItem_181 : decode cX10_isItem 181 = .ok (.getfield 68, 3) := by decide +kernel
theorem dX10_isItem_184 : decode cX10_isItem 184 = .ok (.iconst 1, 1) := by decide +kernel
theorem dX10_isItem_185 : decode cX10_isItem 185 = .ok (.iadd, 1) := by decide +kernel
theorem dX10_isItem_186 : decode cX10_isItem 186 = .ok (.putfield 68, 3) := by decide +kernel
theorem dX10_isItem_189 : decode cX10_isItem 189 = .ok (.iload_n 3, 1) := by decide +kernel
theorem dX10_isItem_190 : decode cX10_isItem 190 = .ok (.ifCond .eq 15, 3) := by decide +kernel
theorem dX10_isItem_193 : decode cX10_isItem 193 = .ok (.aload_n 0, 1) := by decide +kernel
theorem dX10_isItem_194 : decode cX10_isItem 194 = .ok (.iload_n 1, 1) := by decide +kernel
theorem dX10_isItem_195 : decode cX10_isItem 195 = .ok (.invokevirtual 85, 3) := by decide +kernel
theorem dX10_isItem_198 : decode cX10_isItem 198 = .ok (.ifCond .eq 7, 3) := by decide +kernel
theorem dX10_isItem_201 : decode cX10_isItem 201 = .ok (.iconst 1, 1) := by decide +kernel
theorem dX10_isItem_202 : decode cX10_isItem 202 = .ok (.goto 4, 3) := by decide +kernel
theorem dX10_isItem_205 : decode cX10_isItem 205 = .ok (.iconst 0, 1) := by decide +kernel
theorem dX10_isItem_206 : decode cX10_isItem 206 = .ok (.ireturn, 1) := by decide +kernel
def fX10_isItem_178 (F : Nat) (t_length : Int32) (t_text_ : Nat → Int32)  (x69 : Int32) (s70 : Int32) (m_t_at_71 : Int32) (m_t_told__72 : Nat → Int32) (m_t_touches__73 : Nat → Int32) (m_t_has__74 : Nat → Int32) (m_t_old__75 : Nat → Int32) (m_t_got__76 : Nat → Int32) : Option (Int32 × Int32 × (Nat → Int32) × (Nat → Int32) × (Nat → Int32) × (Nat → Int32) × (Nat → Int32)) :=
(jl_let (m_t_at_71 + ((1 : Int32))) fun w87 =>
(if s70 = 0 then
(some ((0 : Int32), w87, m_t_told__72, m_t_touches__73, m_t_has__74, m_t_old__75, m_t_got__76))
else
((fX10_isGood m_t_told__72 m_t_touches__73 m_t_has__74 m_t_old__75 m_t_got__76 x69).bind fun r89 =>
(if r89.1 = 0 then
(some ((0 : Int32), w87, r89.2.1, r89.2.2.1, r89.2.2.2.1, r89.2.2.2.2, m_t_got__76))
else
(some ((1 : Int32), w87, r89.2.1, r89.2.2.1, r89.2.2.2.1, r89.2.2.2.2, m_t_got__76))))))
def fX10_isItem_177 (F : Nat) (t_length : Int32) (t_text_ : Nat → Int32)  (x59 : Int32) (m_t_at_60 : Int32) (m_t_told__61 : Nat → Int32) (m_t_touches__62 : Nat → Int32) (m_t_has__63 : Nat → Int32) (m_t_old__64 : Nat → Int32) (m_t_got__65 : Nat → Int32) : Option (Int32 × Int32 × (Nat → Int32) × (Nat → Int32) × (Nat → Int32) × (Nat → Int32) × (Nat → Int32)) :=
(fX10_isItem_178 F t_length t_text_ x59 ((0 : Int32)) m_t_at_60 m_t_told__61 m_t_touches__62 m_t_has__63 m_t_old__64 m_t_got__65)
def fX10_isItem_144 (F : Nat) (t_length : Int32) (t_text_ : Nat → Int32)  (x27 : Int32) (x28 : Int32) (m_t_at_29 : Int32) (m_t_told__30 : Nat → Int32) (m_t_touches__31 : Nat → Int32) (m_t_has__32 : Nat → Int32) (m_t_old__33 : Nat → Int32) (m_t_got__34 : Nat → Int32) : Option (Int32 × Int32 × (Nat → Int32) × (Nat → Int32) × (Nat → Int32) × (Nat → Int32) × (Nat → Int32)) :=
(if x28 = 0 then
(fX10_isItem_177 F t_length t_text_ x27 m_t_at_29 m_t_told__30 m_t_touches__31 m_t_has__32 m_t_old__33 m_t_got__34)
else
(if t_length ≤ m_t_at_29 then
(fX10_isItem_177 F t_length t_text_ x27 m_t_at_29 m_t_told__30 m_t_touches__31 m_t_has__32 m_t_old__33 m_t_got__34)
else
(if m_t_at_29 < 0 ∨ 200 ≤ m_t_at_29.toNatClampNeg then none else
(if (t_text_ m_t_at_29.toNatClampNeg) = ((59 : Int32)) then
(fX10_isItem_178 F t_length t_text_ x27 ((1 : Int32)) m_t_at_29 m_t_told__30 m_t_touches__31 m_t_has__32 m_t_old__33 m_t_got__34)
else
(fX10_isItem_177 F t_length t_text_ x27 m_t_at_29 m_t_told__30 m_t_touches__31 m_t_has__32 m_t_old__33 m_t_got__34)))))
def fX10_isItem_137 (F : Nat) (t_length : Int32) (t_text_ : Nat → Int32) (k38 : Int32 → Int32 → Int32 → Int32 → Int32 → (Nat → Int32) → (Nat → Int32) → (Nat → Int32) → (Nat → Int32) → (Nat → Int32) → Option (Int32 × Int32 × (Nat → Int32) × (Nat → Int32) × (Nat → Int32) × (Nat → Int32) × (Nat → Int32))) (x124 : Int32) (x125 : Int32) (x126 : Int32) (s127 : Int32) (m_t_at_128 : Int32) (m_t_told__129 : Nat → Int32) (m_t_touches__130 : Nat → Int32) (m_t_has__131 : Nat → Int32) (m_t_old__132 : Nat → Int32) (m_t_got__133 : Nat → Int32) : Option (Int32 × Int32 × (Nat → Int32) × (Nat → Int32) × (Nat → Int32) × (Nat → Int32) × (Nat → Int32)) :=
(jl_let (x126 + Int32.ofInt (1)) fun v134 =>
(k38 x124 x125 s127 v134 m_t_at_128 m_t_told__129 m_t_touches__130 m_t_has__131 m_t_old__132 m_t_got__133))
def fX10_isItem_121 (F : Nat) (t_length : Int32) (t_text_ : Nat → Int32) (k38 : Int32 → Int32 → Int32 → Int32 → Int32 → (Nat → Int32) → (Nat → Int32) → (Nat → Int32) → (Nat → Int32) → (Nat → Int32) → Option (Int32 × Int32 × (Nat → Int32) × (Nat → Int32) × (Nat → Int32) × (Nat → Int32) × (Nat → Int32))) (x107 : Int32) (x108 : Int32) (x109 : Int32) (s110 : Int32) (s111 : Int32) (m_t_at_112 : Int32) (m_t_told__113 : Nat → Int32) (m_t_touches__114 : Nat → Int32) (m_t_has__115 : Nat → Int32) (m_t_old__116 : Nat → Int32) (m_t_got__117 : Nat → Int32) : Option (Int32 × Int32 × (Nat → Int32) × (Nat → Int32) × (Nat → Int32) × (Nat → Int32) × (Nat → Int32)) :=
(if s111 < 0 ∨ 2 ≤ s111.toNatClampNeg then none else
(jl_let (upd m_t_got__117 s111.toNatClampNeg s110) fun g121 =>
(if x109 < 0 ∨ 2 ≤ x109.toNatClampNeg then none else
(if (g121 x109.toNatClampNeg) < 0 then
(fX10_isItem_137 F t_length t_text_ k38 x107 x108 x109 ((0 : Int32)) m_t_at_112 m_t_told__113 m_t_touches__114 m_t_has__115 m_t_old__116 g121)
else
(fX10_isItem_137 F t_length t_text_ k38 x107 x108 x109 ((1 : Int32)) m_t_at_112 m_t_told__113 m_t_touches__114 m_t_has__115 m_t_old__116 g121)))))
def fX10_isItem_99 (F : Nat) (t_length : Int32) (t_text_ : Nat → Int32) (k38 : Int32 → Int32 → Int32 → Int32 → Int32 → (Nat → Int32) → (Nat → Int32) → (Nat → Int32) → (Nat → Int32) → (Nat → Int32) → Option (Int32 × Int32 × (Nat → Int32) × (Nat → Int32) × (Nat → Int32) × (Nat → Int32) × (Nat → Int32))) (x93 : Int32) (x94 : Int32) (x95 : Int32) (x96 : Int32) (s97 : Int32) (s98 : Int32) (m_t_at_99 : Int32) (m_t_told__100 : Nat → Int32) (m_t_touches__101 : Nat → Int32) (m_t_has__102 : Nat → Int32) (m_t_old__103 : Nat → Int32) (m_t_got__104 : Nat → Int32) : Option (Int32 × Int32 × (Nat → Int32) × (Nat → Int32) × (Nat → Int32) × (Nat → Int32) × (Nat → Int32)) :=
(jl_let (s98 + s97) fun w105 =>
(if x95 = 0 then
(fX10_isItem_121 F t_length t_text_ k38 x93 x94 x96 ((-1 : Int32)) x96 w105 m_t_told__100 m_t_touches__101 m_t_has__102 m_t_old__103 m_t_got__104)
else
((fX10_number F t_length w105 t_text_).bind fun r118 =>
(fX10_isItem_121 F t_length t_text_ k38 x93 x94 x96 r118.1 x96 r118.2 m_t_told__100 m_t_touches__101 m_t_has__102 m_t_old__103 m_t_got__104))))
def fX10_isItem_83 (F : Nat) (t_length : Int32) (t_text_ : Nat → Int32) (k38 : Int32 → Int32 → Int32 → Int32 → Int32 → (Nat → Int32) → (Nat → Int32) → (Nat → Int32) → (Nat → Int32) → (Nat → Int32) → Option (Int32 × Int32 × (Nat → Int32) × (Nat → Int32) × (Nat → Int32) × (Nat → Int32) × (Nat → Int32))) (x77 : Int32) (x78 : Int32) (x79 : Int32) (s80 : Int32) (m_t_at_81 : Int32) (m_t_told__82 : Nat → Int32) (m_t_touches__83 : Nat → Int32) (m_t_has__84 : Nat → Int32) (m_t_old__85 : Nat → Int32) (m_t_got__86 : Nat → Int32) : Option (Int32 × Int32 × (Nat → Int32) × (Nat → Int32) × (Nat → Int32) × (Nat → Int32) × (Nat → Int32)) :=
(if x79 = 0 then
(fX10_isItem_99 F t_length t_text_ k38 x77 x78 s80 x79 ((0 : Int32)) m_t_at_81 m_t_at_81 m_t_told__82 m_t_touches__83 m_t_has__84 m_t_old__85 m_t_got__86)
else
(fX10_isItem_99 F t_length t_text_ k38 x77 x78 s80 x79 ((1 : Int32)) m_t_at_81 m_t_at_81 m_t_told__82 m_t_touches__83 m_t_has__84 m_t_old__85 m_t_got__86))
def fX10_isItem_78 (F : Nat) (t_length : Int32) (t_text_ : Nat → Int32) (k38 : Int32 → Int32 → Int32 → Int32 → Int32 → (Nat → Int32) → (Nat → Int32) → (Nat → Int32) → (Nat → Int32) → (Nat → Int32) → Option (Int32 × Int32 × (Nat → Int32) × (Nat → Int32) × (Nat → Int32) × (Nat → Int32) × (Nat → Int32))) (x37 : Int32) (x38 : Int32) (x39 : Int32) (m_t_at_40 : Int32) (m_t_told__41 : Nat → Int32) (m_t_touches__42 : Nat → Int32) (m_t_has__43 : Nat → Int32) (m_t_old__44 : Nat → Int32) (m_t_got__45 : Nat → Int32) : Option (Int32 × Int32 × (Nat → Int32) × (Nat → Int32) × (Nat → Int32) × (Nat → Int32) × (Nat → Int32)) :=
(fX10_isItem_83 F t_length t_text_ k38 x37 x38 x39 ((1 : Int32)) m_t_at_40 m_t_told__41 m_t_touches__42 m_t_has__43 m_t_old__44 m_t_got__45)
def fX10_isItem_82 (F : Nat) (t_length : Int32) (t_text_ : Nat → Int32) (k38 : Int32 → Int32 → Int32 → Int32 → Int32 → (Nat → Int32) → (Nat → Int32) → (Nat → Int32) → (Nat → Int32) → (Nat → Int32) → Option (Int32 × Int32 × (Nat → Int32) × (Nat → Int32) × (Nat → Int32) × (Nat → Int32) × (Nat → Int32))) (x47 : Int32) (x48 : Int32) (x49 : Int32) (m_t_at_50 : Int32) (m_t_told__51 : Nat → Int32) (m_t_touches__52 : Nat → Int32) (m_t_has__53 : Nat → Int32) (m_t_old__54 : Nat → Int32) (m_t_got__55 : Nat → Int32) : Option (Int32 × Int32 × (Nat → Int32) × (Nat → Int32) × (Nat → Int32) × (Nat → Int32) × (Nat → Int32)) :=
(fX10_isItem_83 F t_length t_text_ k38 x47 x48 x49 ((0 : Int32)) m_t_at_50 m_t_told__51 m_t_touches__52 m_t_has__53 m_t_old__54 m_t_got__55)
def bX10_isItem_38 (F : Nat) (t_length : Int32) (t_text_ : Nat → Int32)  (k38 : Int32 → Int32 → Int32 → Int32 → Int32 → (Nat → Int32) → (Nat → Int32) → (Nat → Int32) → (Nat → Int32) → (Nat → Int32) → Option (Int32 × Int32 × (Nat → Int32) × (Nat → Int32) × (Nat → Int32) × (Nat → Int32) × (Nat → Int32))) (x16 : Int32) (x17 : Int32) (x18 : Int32) (x19 : Int32) (m_t_at_20 : Int32) (m_t_told__21 : Nat → Int32) (m_t_touches__22 : Nat → Int32) (m_t_has__23 : Nat → Int32) (m_t_old__24 : Nat → Int32) (m_t_got__25 : Nat → Int32) : Option (Int32 × Int32 × (Nat → Int32) × (Nat → Int32) × (Nat → Int32) × (Nat → Int32) × (Nat → Int32)) :=
(if x17 ≤ x19 then
(fX10_isItem_144 F t_length t_text_ x16 x18 m_t_at_20 m_t_told__21 m_t_touches__22 m_t_has__23 m_t_old__24 m_t_got__25)
else
(if x18 = 0 then
(fX10_isItem_144 F t_length t_text_ x16 x18 m_t_at_20 m_t_told__21 m_t_touches__22 m_t_has__23 m_t_old__24 m_t_got__25)
else
(if x19 = 0 then
(fX10_isItem_78 F t_length t_text_ k38 x16 x17 x19 m_t_at_20 m_t_told__21 m_t_touches__22 m_t_has__23 m_t_old__24 m_t_got__25)
else
(if t_length ≤ m_t_at_20 then
(fX10_isItem_82 F t_length t_text_ k38 x16 x17 x19 m_t_at_20 m_t_told__21 m_t_touches__22 m_t_has__23 m_t_old__24 m_t_got__25)
else
(if m_t_at_20 < 0 ∨ 200 ≤ m_t_at_20.toNatClampNeg then none else
(if (t_text_ m_t_at_20.toNatClampNeg) = ((44 : Int32)) then
(fX10_isItem_78 F t_length t_text_ k38 x16 x17 x19 m_t_at_20 m_t_told__21 m_t_touches__22 m_t_has__23 m_t_old__24 m_t_got__25)
else
(fX10_isItem_82 F t_length t_text_ k38 x16 x17 x19 m_t_at_20 m_t_told__21 m_t_touches__22 m_t_has__23 m_t_old__24 m_t_got__25)))))))
def lX10_isItem_38 (F : Nat) (t_length : Int32) (t_text_ : Nat → Int32)  (F2 : Nat) (x16 : Int32) (x17 : Int32) (x18 : Int32) (x19 : Int32) (m_t_at_20 : Int32) (m_t_told__21 : Nat → Int32) (m_t_touches__22 : Nat → Int32) (m_t_has__23 : Nat → Int32) (m_t_old__24 : Nat → Int32) (m_t_got__25 : Nat → Int32) : Option (Int32 × Int32 × (Nat → Int32) × (Nat → Int32) × (Nat → Int32) × (Nat → Int32) × (Nat → Int32)) := jl_loop10 (bX10_isItem_38 F t_length t_text_ ) F2 x16 x17 x18 x19 m_t_at_20 m_t_told__21 m_t_touches__22 m_t_has__23 m_t_old__24 m_t_got__25
def fX10_isItem_34 (F : Nat) (t_length : Int32) (t_text_ : Nat → Int32)  (x7 : Int32) (x8 : Int32) (s9 : Int32) (m_t_at_10 : Int32) (m_t_told__11 : Nat → Int32) (m_t_touches__12 : Nat → Int32) (m_t_has__13 : Nat → Int32) (m_t_old__14 : Nat → Int32) (m_t_got__15 : Nat → Int32) : Option (Int32 × Int32 × (Nat → Int32) × (Nat → Int32) × (Nat → Int32) × (Nat → Int32) × (Nat → Int32)) :=
(lX10_isItem_38 F t_length t_text_ F x7 x8 s9 ((0 : Int32)) m_t_at_10 m_t_told__11 m_t_touches__12 m_t_has__13 m_t_old__14 m_t_got__15)
def fX10_isItem (F : Nat) (t_length : Int32) (t_at : Int32) (t_text_ : Nat → Int32) (t_told_ : Nat → Int32) (t_touches_ : Nat → Int32) (t_has_ : Nat → Int32) (t_old_ : Nat → Int32) (t_got_ : Nat → Int32) : Option (Int32 × Int32 × (Nat → Int32) × (Nat → Int32) × (Nat → Int32) × (Nat → Int32) × (Nat → Int32)) :=
(if t_at < 0 ∨ 200 ≤ t_at.toNatClampNeg then none else
(jl_let (t_text_ t_at.toNatClampNeg) fun v2 =>
(jl_let (t_at + ((1 : Int32))) fun w3 =>
((fX10_numbers v2).bind fun r4 =>
(if r4 ≤ 0 then
(fX10_isItem_34 F t_length t_text_ v2 r4 ((0 : Int32)) w3 t_told_ t_touches_ t_has_ t_old_ t_got_)
else
(fX10_isItem_34 F t_length t_text_ v2 r4 ((1 : Int32)) w3 t_told_ t_touches_ t_has_ t_old_ t_got_))))))
def oX10_isItem (D : jv_D) (h_t : Nat) (h_t_text : Nat) (h_t_told : Nat) (h_t_touches : Nat) (h_t_has : Nat) (h_t_old : Nat) (h_t_beside : Nat) (h_t_slot : Nat) (h_t_row : Nat) (h_t_free : Nat) (h_t_worth : Nat) (h_t_fore : Nat) (h_t_back : Nat) (h_t_got : Nat) (t_length : Int32) (t_stones : Int32) (t_kept : Int32) (t_done : Int32) (t_rows : Int32) (t_frees : Int32) (t_fewest : Int32) (t_text_ : Nat → Int32) (r : Int32 × Int32 × (Nat → Int32) × (Nat → Int32) × (Nat → Int32) × (Nat → Int32) × (Nat → Int32)) : va_W := [(h_t, .inr (8, [.int t_length, .ref h_t_text, .int r.2.1, .ref h_t_told, .ref h_t_touches, .ref h_t_has, .ref h_t_old, .ref h_t_beside, .int t_stones, .ref h_t_slot, .int t_kept, .int t_done, .int t_rows, .ref h_t_row, .ref h_t_free, .int t_frees, .ref h_t_worth, .ref h_t_fore, .ref h_t_back, .int t_fewest, .ref h_t_got])), (h_t_text, jB D 200 t_text_), (h_t_told, jI D 8 r.2.2.1), (h_t_touches, jZ D 32 r.2.2.2.1), (h_t_has, jI D 4 r.2.2.2.2.1), (h_t_old, jI D 18 r.2.2.2.2.2.1), (h_t_got, jI D 2 r.2.2.2.2.2.2)]
set_option maxHeartbeats 40000000 in
set_option maxRecDepth 100000 in
theorem mX10_isItem (l : Launch) (D : jv_D) (F : Nat) (h_t : Nat) (h_t_text : Nat) (h_t_told : Nat) (h_t_touches : Nat) (h_t_has : Nat) (h_t_old : Nat) (h_t_beside : Nat) (h_t_slot : Nat) (h_t_row : Nat) (h_t_free : Nat) (h_t_worth : Nat) (h_t_fore : Nat) (h_t_back : Nat) (h_t_got : Nat) (t_length : Int32) (t_at : Int32) (t_stones : Int32) (t_kept : Int32) (t_done : Int32) (t_rows : Int32) (t_frees : Int32) (t_fewest : Int32) (t_text_ : Nat → Int32) (t_told_ : Nat → Int32) (t_touches_ : Nat → Int32) (t_has_ : Nat → Int32) (t_old_ : Nat → Int32) (t_got_ : Nat → Int32) (r : Int32 × Int32 × (Nat → Int32) × (Nat → Int32) × (Nat → Int32) × (Nat → Int32) × (Nat → Int32)) (h : fX10_isItem F t_length t_at t_text_ t_told_ t_touches_ t_has_ t_old_ t_got_ = some r) : MM l yX10_isItem (jW yX10_isItem cX10_isItem 5 (some .boolean)) ({ frames := 2, cells := 0, slots := 0, locals := 48 }) D [.ref h_t] [(h_t, .inr (8, [.int t_length, .ref h_t_text, .int t_at, .ref h_t_told, .ref h_t_touches, .ref h_t_has, .ref h_t_old, .ref h_t_beside, .int t_stones, .ref h_t_slot, .int t_kept, .int t_done, .int t_rows, .ref h_t_row, .ref h_t_free, .int t_frees, .ref h_t_worth, .ref h_t_fore, .ref h_t_back, .int t_fewest, .ref h_t_got])), (h_t_text, jB D 200 t_text_), (h_t_told, jI D 8 t_told_), (h_t_touches, jZ D 32 t_touches_), (h_t_has, jI D 4 t_has_), (h_t_old, jI D 18 t_old_), (h_t_got, jI D 2 t_got_)] (some (.int r.1)) (oX10_isItem D h_t h_t_text h_t_told h_t_touches h_t_has h_t_old h_t_beside h_t_slot h_t_row h_t_free h_t_worth h_t_fore h_t_back h_t_got t_length t_stones t_kept t_done t_rows t_frees t_fewest t_text_ r) := by
  refine mn_of hpX10_isItem (Nat.le_of_ble_eq_true rfl) ?_
  intro X hXl C E0 hN
  subst hXl
  replace C : JC D X 5 RX10 cX10_isItem ({ frames := 2, cells := 0, slots := 0, locals := 48 }) := C
  have E : JE D X 0 0 (some .boolean) (fun _ : Unit => (some (.int r.1))) (fun _ : Unit => (oX10_isItem D h_t h_t_text h_t_told h_t_touches h_t_has h_t_old h_t_beside h_t_slot h_t_row h_t_free h_t_worth h_t_fore h_t_back h_t_got t_length t_stones t_kept t_done t_rows t_frees t_fewest t_text_ r)) := E0 0 0 rfl rfl
  clear E0 hN
  show JJ D X 5 0 0 0 [(0, .ref h_t)] [] [(h_t, .inr (8, [.int t_length, .ref h_t_text, .int t_at, .ref h_t_told, .ref h_t_touches, .ref h_t_has, .ref h_t_old, .ref h_t_beside, .int t_stones, .ref h_t_slot, .int t_kept, .int t_done, .int t_rows, .ref h_t_row, .ref h_t_free, .int t_frees, .ref h_t_worth, .ref h_t_fore, .ref h_t_back, .int t_fewest, .ref h_t_got])), (h_t_text, jB D 200 t_text_), (h_t_told, jI D 8 t_told_), (h_t_touches, jZ D 32 t_touches_), (h_t_has, jI D 4 t_has_), (h_t_old, jI D 18 t_old_), (h_t_got, jI D 2 t_got_)]
  unfold fX10_isItem at h
  have L178 : ∀ (x69 : Int32) (s70 : Int32) (m_t_at_71 : Int32) (m_t_told__72 : Nat → Int32) (m_t_touches__73 : Nat → Int32) (m_t_has__74 : Nat → Int32) (m_t_old__75 : Nat → Int32) (m_t_got__76 : Nat → Int32), fX10_isItem_178 F t_length t_text_  x69 s70 m_t_at_71 m_t_told__72 m_t_touches__73 m_t_has__74 m_t_old__75 m_t_got__76 = some r → JJ D X 5 0 0 178 [(0, .ref h_t), (1, .int x69)] [.int s70] [(h_t, .inr (8, [.int t_length, .ref h_t_text, .int m_t_at_71, .ref h_t_told, .ref h_t_touches, .ref h_t_has, .ref h_t_old, .ref h_t_beside, .int t_stones, .ref h_t_slot, .int t_kept, .int t_done, .int t_rows, .ref h_t_row, .ref h_t_free, .int t_frees, .ref h_t_worth, .ref h_t_fore, .ref h_t_back, .int t_fewest, .ref h_t_got])), (h_t_text, jB D 200 t_text_), (h_t_told, jI D 8 m_t_told__72), (h_t_touches, jZ D 32 m_t_touches__73), (h_t_has, jI D 4 m_t_has__74), (h_t_old, jI D 18 m_t_old__75), (h_t_got, jI D 2 m_t_got__76)] := by
    intro x69 s70 m_t_at_71 m_t_told__72 m_t_touches__73 m_t_has__74 m_t_old__75 m_t_got__76 h
    unfold fX10_isItem_178 at h
    refine j_istore_nC C dX10_isItem_178 rfl (lv' := [(3, .int s70), (0, .ref h_t), (1, .int x69)]) (by decide) rfl ?_
    refine j_aload_n C dX10_isItem_179 rfl 1 rfl ?_
    refine j_dup C dX10_isItem_180 rfl ?_
    refine j_get C ibX10 (ci := 8) 0 rfl rfl 2 (by decide) bfX10_68 (v := .int m_t_at_71) rfl dX10_isItem_181 ?_
    refine j_iconst C dX10_isItem_184 (v := (1 : Int32)) (by decide) ?_
    refine j_iadd C dX10_isItem_185 ?_
    refine j_nmi h (fun w87 h => ?_)
    refine j_put C ibX10 tyX10 tyX10_ok nmX10 (ci := 8) 0 rfl rfl 2 (by decide) bfX10_68 rfl rfl rfl (Nat.le_of_ble_eq_true rfl) dX10_isItem_186 (ws' := [(h_t, .inr (8, [.int t_length, .ref h_t_text, .int w87, .ref h_t_told, .ref h_t_touches, .ref h_t_has, .ref h_t_old, .ref h_t_beside, .int t_stones, .ref h_t_slot, .int t_kept, .int t_done, .int t_rows, .ref h_t_row, .ref h_t_free, .int t_frees, .ref h_t_worth, .ref h_t_fore, .ref h_t_back, .int t_fewest, .ref h_t_got])), (h_t_text, jB D 200 t_text_), (h_t_told, jI D 8 m_t_told__72), (h_t_touches, jZ D 32 m_t_touches__73), (h_t_has, jI D 4 m_t_has__74), (h_t_old, jI D 18 m_t_old__75), (h_t_got, jI D 2 m_t_got__76)]) rfl ?_
    refine j_iload_n C dX10_isItem_189 rfl 0 rfl ?_
    refine j_if_eq C (tgt := 205) dX10_isItem_190 (by decide) h (fun c88 h => ?_) (fun c88 h => ?_)
    · refine j_iconst C dX10_isItem_205 (v := (0 : Int32)) (by decide) ?_
      exact j_zretR C (r := r) (rtf := fun r => (some (.int r.1))) (wff := fun r => (oX10_isItem D h_t h_t_text h_t_told h_t_touches h_t_has h_t_old h_t_beside h_t_slot h_t_row h_t_free h_t_worth h_t_fore h_t_back h_t_got t_length t_stones t_kept t_done t_rows t_frees t_fewest t_text_ r)) E rfl h rfl rfl dX10_isItem_206
    · refine j_aload_n C dX10_isItem_193 rfl 1 rfl ?_
      refine j_iload_n C dX10_isItem_194 rfl 2 rfl ?_
      obtain ⟨r89, q90, h⟩ := jl_bind h
      refine j_cV1 C (mX10_isGood (jlaunch X) D h_t h_t_text h_t_told h_t_touches h_t_has h_t_old h_t_beside h_t_slot h_t_row h_t_free h_t_worth h_t_fore h_t_back h_t_got t_length w87 t_stones t_kept t_done t_rows t_frees t_fewest m_t_told__72 m_t_touches__73 m_t_has__74 m_t_old__75 m_t_got__76 x69 r89 q90) bmX10_85 biX10_isGood bsX10_isGood bzX10 bcX10_isGood rfl hX10_isGood (rest := []) rfl (jroom_of rfl) 0 (ci := 8) rfl rfl rfl [0, 2, 3, 4, 5, 6] [1] [1, 0, 2, 3, 4, 5, 6] (wr := [(h_t_text, jB D 200 t_text_)]) (ws2 := [(h_t, .inr (8, [.int t_length, .ref h_t_text, .int w87, .ref h_t_told, .ref h_t_touches, .ref h_t_has, .ref h_t_old, .ref h_t_beside, .int t_stones, .ref h_t_slot, .int t_kept, .int t_done, .int t_rows, .ref h_t_row, .ref h_t_free, .int t_frees, .ref h_t_worth, .ref h_t_fore, .ref h_t_back, .int t_fewest, .ref h_t_got])), (h_t_text, jB D 200 t_text_), (h_t_told, jI D 8 r89.2.1), (h_t_touches, jZ D 32 r89.2.2.1), (h_t_has, jI D 4 r89.2.2.2.1), (h_t_old, jI D 18 r89.2.2.2.2), (h_t_got, jI D 2 m_t_got__76)]) rfl rfl rfl rfl rfl (Nat.le_of_ble_eq_true rfl) dX10_isItem_195 ?_
      refine j_if_eq C (tgt := 205) dX10_isItem_198 (by decide) h (fun c91 h => ?_) (fun c91 h => ?_)
      · refine j_iconst C dX10_isItem_205 (v := (0 : Int32)) (by decide) ?_
        exact j_zretR C (r := r) (rtf := fun r => (some (.int r.1))) (wff := fun r => (oX10_isItem D h_t h_t_text h_t_told h_t_touches h_t_has h_t_old h_t_beside h_t_slot h_t_row h_t_free h_t_worth h_t_fore h_t_back h_t_got t_length t_stones t_kept t_done t_rows t_frees t_fewest t_text_ r)) E rfl h rfl rfl dX10_isItem_206
      · refine j_iconst C dX10_isItem_201 (v := (1 : Int32)) (by decide) ?_
        refine j_goto C dX10_isItem_202 (tgt := 206) (by decide) ?_
        exact j_zretR C (r := r) (rtf := fun r => (some (.int r.1))) (wff := fun r => (oX10_isItem D h_t h_t_text h_t_told h_t_touches h_t_has h_t_old h_t_beside h_t_slot h_t_row h_t_free h_t_worth h_t_fore h_t_back h_t_got t_length t_stones t_kept t_done t_rows t_frees t_fewest t_text_ r)) E rfl h rfl rfl dX10_isItem_206
  have L177 : ∀ (x59 : Int32) (m_t_at_60 : Int32) (m_t_told__61 : Nat → Int32) (m_t_touches__62 : Nat → Int32) (m_t_has__63 : Nat → Int32) (m_t_old__64 : Nat → Int32) (m_t_got__65 : Nat → Int32), fX10_isItem_177 F t_length t_text_  x59 m_t_at_60 m_t_told__61 m_t_touches__62 m_t_has__63 m_t_old__64 m_t_got__65 = some r → JJ D X 5 0 0 177 [(0, .ref h_t), (1, .int x59)] [] [(h_t, .inr (8, [.int t_length, .ref h_t_text, .int m_t_at_60, .ref h_t_told, .ref h_t_touches, .ref h_t_has, .ref h_t_old, .ref h_t_beside, .int t_stones, .ref h_t_slot, .int t_kept, .int t_done, .int t_rows, .ref h_t_row, .ref h_t_free, .int t_frees, .ref h_t_worth, .ref h_t_fore, .ref h_t_back, .int t_fewest, .ref h_t_got])), (h_t_text, jB D 200 t_text_), (h_t_told, jI D 8 m_t_told__61), (h_t_touches, jZ D 32 m_t_touches__62), (h_t_has, jI D 4 m_t_has__63), (h_t_old, jI D 18 m_t_old__64), (h_t_got, jI D 2 m_t_got__65)] := by
    intro x59 m_t_at_60 m_t_told__61 m_t_touches__62 m_t_has__63 m_t_old__64 m_t_got__65 h
    unfold fX10_isItem_177 at h
    refine j_iconst C dX10_isItem_177 (v := (0 : Int32)) (by decide) ?_
    refine j_sub (lv' := [(0, .ref h_t), (1, .int x59)]) [0, 1] rfl ?_
    exact L178 x59 ((0 : Int32)) m_t_at_60 m_t_told__61 m_t_touches__62 m_t_has__63 m_t_old__64 m_t_got__65 h
  have L144 : ∀ (x27 : Int32) (x28 : Int32) (m_t_at_29 : Int32) (m_t_told__30 : Nat → Int32) (m_t_touches__31 : Nat → Int32) (m_t_has__32 : Nat → Int32) (m_t_old__33 : Nat → Int32) (m_t_got__34 : Nat → Int32), fX10_isItem_144 F t_length t_text_  x27 x28 m_t_at_29 m_t_told__30 m_t_touches__31 m_t_has__32 m_t_old__33 m_t_got__34 = some r → JJ D X 5 0 0 144 [(0, .ref h_t), (1, .int x27), (3, .int x28)] [] [(h_t, .inr (8, [.int t_length, .ref h_t_text, .int m_t_at_29, .ref h_t_told, .ref h_t_touches, .ref h_t_has, .ref h_t_old, .ref h_t_beside, .int t_stones, .ref h_t_slot, .int t_kept, .int t_done, .int t_rows, .ref h_t_row, .ref h_t_free, .int t_frees, .ref h_t_worth, .ref h_t_fore, .ref h_t_back, .int t_fewest, .ref h_t_got])), (h_t_text, jB D 200 t_text_), (h_t_told, jI D 8 m_t_told__30), (h_t_touches, jZ D 32 m_t_touches__31), (h_t_has, jI D 4 m_t_has__32), (h_t_old, jI D 18 m_t_old__33), (h_t_got, jI D 2 m_t_got__34)] := by
    intro x27 x28 m_t_at_29 m_t_told__30 m_t_touches__31 m_t_has__32 m_t_old__33 m_t_got__34 h
    unfold fX10_isItem_144 at h
    refine j_iload_n C dX10_isItem_144 rfl 2 rfl ?_
    refine j_if_eq C (tgt := 177) dX10_isItem_145 (by decide) h (fun c58 h => ?_) (fun c58 h => ?_)
    · refine j_sub (lv' := [(0, .ref h_t), (1, .int x27)]) [0, 1] rfl ?_
      exact L177 x27 m_t_at_29 m_t_told__30 m_t_touches__31 m_t_has__32 m_t_old__33 m_t_got__34 h
    · refine j_aload_n C dX10_isItem_148 rfl 0 rfl ?_
      refine j_get C ibX10 (ci := 8) 0 rfl rfl 2 (by decide) bfX10_68 (v := .int m_t_at_29) rfl dX10_isItem_149 ?_
      refine j_aload_n C dX10_isItem_152 rfl 0 rfl ?_
      refine j_get C ibX10 (ci := 8) 0 rfl rfl 0 (by decide) bfX10_64 (v := .int t_length) rfl dX10_isItem_153 ?_
      refine j_icmp_ge C (tgt := 177) dX10_isItem_156 (by decide) h (fun c66 h => ?_) (fun c66 h => ?_)
      · refine j_sub (lv' := [(0, .ref h_t), (1, .int x27)]) [0, 1] rfl ?_
        exact L177 x27 m_t_at_29 m_t_told__30 m_t_touches__31 m_t_has__32 m_t_old__33 m_t_got__34 h
      · refine j_aload_n C dX10_isItem_159 rfl 0 rfl ?_
        refine j_get C ibX10 (ci := 8) 0 rfl rfl 1 (by decide) bfX10_7 (v := .ref h_t_text) rfl dX10_isItem_160 ?_
        refine j_aload_n C dX10_isItem_163 rfl 0 rfl ?_
        refine j_get C ibX10 (ci := 8) 0 rfl rfl 2 (by decide) bfX10_68 (v := .int m_t_at_29) rfl dX10_isItem_164 ?_
        refine jl_inb h (fun b67 h => ?_)
        refine j_bald C 1 rfl b67 dX10_isItem_167 ?_
        refine j_bipush C dX10_isItem_168 (v := (59 : Int32)) (by decide) ?_
        refine j_icmp_ne C (tgt := 177) dX10_isItem_170 (by decide) h (fun c68 h => ?_) (fun c68 h => ?_)
        · refine j_iconst C dX10_isItem_173 (v := (1 : Int32)) (by decide) ?_
          refine j_goto C dX10_isItem_174 (tgt := 178) (by decide) ?_
          refine j_sub (lv' := [(0, .ref h_t), (1, .int x27)]) [0, 1] rfl ?_
          exact L178 x27 ((1 : Int32)) m_t_at_29 m_t_told__30 m_t_touches__31 m_t_has__32 m_t_old__33 m_t_got__34 h
        · refine j_sub (lv' := [(0, .ref h_t), (1, .int x27)]) [0, 1] rfl ?_
          exact L177 x27 m_t_at_29 m_t_told__30 m_t_touches__31 m_t_has__32 m_t_old__33 m_t_got__34 h
  have L38 : ∀ (x16 : Int32) (x17 : Int32) (x18 : Int32) (x19 : Int32) (m_t_at_20 : Int32) (m_t_told__21 : Nat → Int32) (m_t_touches__22 : Nat → Int32) (m_t_has__23 : Nat → Int32) (m_t_old__24 : Nat → Int32) (m_t_got__25 : Nat → Int32), lX10_isItem_38 F t_length t_text_  F x16 x17 x18 x19 m_t_at_20 m_t_told__21 m_t_touches__22 m_t_has__23 m_t_old__24 m_t_got__25 = some r → JJ D X 5 0 0 38 [(0, .ref h_t), (1, .int x16), (2, .int x17), (3, .int x18), (4, .int x19)] [] [(h_t, .inr (8, [.int t_length, .ref h_t_text, .int m_t_at_20, .ref h_t_told, .ref h_t_touches, .ref h_t_has, .ref h_t_old, .ref h_t_beside, .int t_stones, .ref h_t_slot, .int t_kept, .int t_done, .int t_rows, .ref h_t_row, .ref h_t_free, .int t_frees, .ref h_t_worth, .ref h_t_fore, .ref h_t_back, .int t_fewest, .ref h_t_got])), (h_t_text, jB D 200 t_text_), (h_t_told, jI D 8 m_t_told__21), (h_t_touches, jZ D 32 m_t_touches__22), (h_t_has, jI D 4 m_t_has__23), (h_t_old, jI D 18 m_t_old__24), (h_t_got, jI D 2 m_t_got__25)] := by
    intro x16 x17 x18 x19 m_t_at_20 m_t_told__21 m_t_touches__22 m_t_has__23 m_t_old__24 m_t_got__25 h
    refine jl_ind10 (fun x16 x17 x18 x19 m_t_at_20 m_t_told__21 m_t_touches__22 m_t_has__23 m_t_old__24 m_t_got__25 => JJ D X 5 0 0 38 [(0, .ref h_t), (1, .int x16), (2, .int x17), (3, .int x18), (4, .int x19)] [] [(h_t, .inr (8, [.int t_length, .ref h_t_text, .int m_t_at_20, .ref h_t_told, .ref h_t_touches, .ref h_t_has, .ref h_t_old, .ref h_t_beside, .int t_stones, .ref h_t_slot, .int t_kept, .int t_done, .int t_rows, .ref h_t_row, .ref h_t_free, .int t_frees, .ref h_t_worth, .ref h_t_fore, .ref h_t_back, .int t_fewest, .ref h_t_got])), (h_t_text, jB D 200 t_text_), (h_t_told, jI D 8 m_t_told__21), (h_t_touches, jZ D 32 m_t_touches__22), (h_t_has, jI D 4 m_t_has__23), (h_t_old, jI D 18 m_t_old__24), (h_t_got, jI D 2 m_t_got__25)]) ?_ F x16 x17 x18 x19 m_t_at_20 m_t_told__21 m_t_touches__22 m_t_has__23 m_t_old__24 m_t_got__25 h
    clear h x16 x17 x18 x19 m_t_at_20 m_t_told__21 m_t_touches__22 m_t_has__23 m_t_old__24 m_t_got__25
    intro k38 i38 x16 x17 x18 x19 m_t_at_20 m_t_told__21 m_t_touches__22 m_t_has__23 m_t_old__24 m_t_got__25 h
    replace i38 : ∀ (x16 : Int32) (x17 : Int32) (x18 : Int32) (x19 : Int32) (m_t_at_20 : Int32) (m_t_told__21 : Nat → Int32) (m_t_touches__22 : Nat → Int32) (m_t_has__23 : Nat → Int32) (m_t_old__24 : Nat → Int32) (m_t_got__25 : Nat → Int32), k38 x16 x17 x18 x19 m_t_at_20 m_t_told__21 m_t_touches__22 m_t_has__23 m_t_old__24 m_t_got__25 = some r → JJ D X 5 0 0 38 [(0, .ref h_t), (1, .int x16), (2, .int x17), (3, .int x18), (4, .int x19)] [] [(h_t, .inr (8, [.int t_length, .ref h_t_text, .int m_t_at_20, .ref h_t_told, .ref h_t_touches, .ref h_t_has, .ref h_t_old, .ref h_t_beside, .int t_stones, .ref h_t_slot, .int t_kept, .int t_done, .int t_rows, .ref h_t_row, .ref h_t_free, .int t_frees, .ref h_t_worth, .ref h_t_fore, .ref h_t_back, .int t_fewest, .ref h_t_got])), (h_t_text, jB D 200 t_text_), (h_t_told, jI D 8 m_t_told__21), (h_t_touches, jZ D 32 m_t_touches__22), (h_t_has, jI D 4 m_t_has__23), (h_t_old, jI D 18 m_t_old__24), (h_t_got, jI D 2 m_t_got__25)] := i38
    show JJ D X 5 0 0 38 [(0, .ref h_t), (1, .int x16), (2, .int x17), (3, .int x18), (4, .int x19)] [] [(h_t, .inr (8, [.int t_length, .ref h_t_text, .int m_t_at_20, .ref h_t_told, .ref h_t_touches, .ref h_t_has, .ref h_t_old, .ref h_t_beside, .int t_stones, .ref h_t_slot, .int t_kept, .int t_done, .int t_rows, .ref h_t_row, .ref h_t_free, .int t_frees, .ref h_t_worth, .ref h_t_fore, .ref h_t_back, .int t_fewest, .ref h_t_got])), (h_t_text, jB D 200 t_text_), (h_t_told, jI D 8 m_t_told__21), (h_t_touches, jZ D 32 m_t_touches__22), (h_t_has, jI D 4 m_t_has__23), (h_t_old, jI D 18 m_t_old__24), (h_t_got, jI D 2 m_t_got__25)]
    unfold bX10_isItem_38 at h
    have L137 : ∀ (x124 : Int32) (x125 : Int32) (x126 : Int32) (s127 : Int32) (m_t_at_128 : Int32) (m_t_told__129 : Nat → Int32) (m_t_touches__130 : Nat → Int32) (m_t_has__131 : Nat → Int32) (m_t_old__132 : Nat → Int32) (m_t_got__133 : Nat → Int32), fX10_isItem_137 F t_length t_text_ k38 x124 x125 x126 s127 m_t_at_128 m_t_told__129 m_t_touches__130 m_t_has__131 m_t_old__132 m_t_got__133 = some r → JJ D X 5 0 0 137 [(0, .ref h_t), (1, .int x124), (2, .int x125), (4, .int x126)] [.int s127] [(h_t, .inr (8, [.int t_length, .ref h_t_text, .int m_t_at_128, .ref h_t_told, .ref h_t_touches, .ref h_t_has, .ref h_t_old, .ref h_t_beside, .int t_stones, .ref h_t_slot, .int t_kept, .int t_done, .int t_rows, .ref h_t_row, .ref h_t_free, .int t_frees, .ref h_t_worth, .ref h_t_fore, .ref h_t_back, .int t_fewest, .ref h_t_got])), (h_t_text, jB D 200 t_text_), (h_t_told, jI D 8 m_t_told__129), (h_t_touches, jZ D 32 m_t_touches__130), (h_t_has, jI D 4 m_t_has__131), (h_t_old, jI D 18 m_t_old__132), (h_t_got, jI D 2 m_t_got__133)] := by
      intro x124 x125 x126 s127 m_t_at_128 m_t_told__129 m_t_touches__130 m_t_has__131 m_t_old__132 m_t_got__133 h
      unfold fX10_isItem_137 at h
      refine j_istore_nC C dX10_isItem_137 rfl (lv' := [(3, .int s127), (0, .ref h_t), (1, .int x124), (2, .int x125), (4, .int x126)]) (by decide) rfl ?_
      refine j_iinc C dX10_isItem_138 4 rfl (lv' := fun v134 => [(4, .int v134), (3, .int s127), (0, .ref h_t), (1, .int x124), (2, .int x125)]) (by decide) (fun _ => rfl) h (fun v134 h => ?_)
      refine j_goto C dX10_isItem_141 (tgt := 38) (by decide) ?_
      refine j_sub (lv' := [(0, .ref h_t), (1, .int x124), (2, .int x125), (3, .int s127), (4, .int v134)]) [2, 3, 4, 1, 0] rfl ?_
      exact i38 x124 x125 s127 v134 m_t_at_128 m_t_told__129 m_t_touches__130 m_t_has__131 m_t_old__132 m_t_got__133 h
    have L121 : ∀ (x107 : Int32) (x108 : Int32) (x109 : Int32) (s110 : Int32) (s111 : Int32) (m_t_at_112 : Int32) (m_t_told__113 : Nat → Int32) (m_t_touches__114 : Nat → Int32) (m_t_has__115 : Nat → Int32) (m_t_old__116 : Nat → Int32) (m_t_got__117 : Nat → Int32), fX10_isItem_121 F t_length t_text_ k38 x107 x108 x109 s110 s111 m_t_at_112 m_t_told__113 m_t_touches__114 m_t_has__115 m_t_old__116 m_t_got__117 = some r → JJ D X 5 0 0 121 [(0, .ref h_t), (1, .int x107), (2, .int x108), (4, .int x109)] [.int s110, .int s111, .ref h_t_got] [(h_t, .inr (8, [.int t_length, .ref h_t_text, .int m_t_at_112, .ref h_t_told, .ref h_t_touches, .ref h_t_has, .ref h_t_old, .ref h_t_beside, .int t_stones, .ref h_t_slot, .int t_kept, .int t_done, .int t_rows, .ref h_t_row, .ref h_t_free, .int t_frees, .ref h_t_worth, .ref h_t_fore, .ref h_t_back, .int t_fewest, .ref h_t_got])), (h_t_text, jB D 200 t_text_), (h_t_told, jI D 8 m_t_told__113), (h_t_touches, jZ D 32 m_t_touches__114), (h_t_has, jI D 4 m_t_has__115), (h_t_old, jI D 18 m_t_old__116), (h_t_got, jI D 2 m_t_got__117)] := by
      intro x107 x108 x109 s110 s111 m_t_at_112 m_t_told__113 m_t_touches__114 m_t_has__115 m_t_old__116 m_t_got__117 h
      unfold fX10_isItem_121 at h
      refine jl_inb h (fun b120 h => ?_)
      refine j_iast C 6 rfl b120 dX10_isItem_121 (ws' := fun g121 => [(h_t, .inr (8, [.int t_length, .ref h_t_text, .int m_t_at_112, .ref h_t_told, .ref h_t_touches, .ref h_t_has, .ref h_t_old, .ref h_t_beside, .int t_stones, .ref h_t_slot, .int t_kept, .int t_done, .int t_rows, .ref h_t_row, .ref h_t_free, .int t_frees, .ref h_t_worth, .ref h_t_fore, .ref h_t_back, .int t_fewest, .ref h_t_got])), (h_t_text, jB D 200 t_text_), (h_t_told, jI D 8 m_t_told__113), (h_t_touches, jZ D 32 m_t_touches__114), (h_t_has, jI D 4 m_t_has__115), (h_t_old, jI D 18 m_t_old__116), (h_t_got, jI D 2 g121)]) (fun _ => rfl) h (fun g121 h => ?_)
      refine j_aload_n C dX10_isItem_122 rfl 0 rfl ?_
      refine j_get C ibX10 (ci := 8) 0 rfl rfl 20 (by decide) bfX10_49 (v := .ref h_t_got) rfl dX10_isItem_123 ?_
      refine j_iload C dX10_isItem_126 3 rfl ?_
      refine jl_inb h (fun b122 h => ?_)
      refine j_iald C 6 rfl b122 dX10_isItem_128 ?_
      refine j_if_lt C (tgt := 136) dX10_isItem_129 (by decide) h (fun c123 h => ?_) (fun c123 h => ?_)
      · refine j_iconst C dX10_isItem_136 (v := (0 : Int32)) (by decide) ?_
        refine j_sub (lv' := [(0, .ref h_t), (1, .int x107), (2, .int x108), (4, .int x109)]) [0, 1, 2, 3] rfl ?_
        exact L137 x107 x108 x109 ((0 : Int32)) m_t_at_112 m_t_told__113 m_t_touches__114 m_t_has__115 m_t_old__116 g121 h
      · refine j_iconst C dX10_isItem_132 (v := (1 : Int32)) (by decide) ?_
        refine j_goto C dX10_isItem_133 (tgt := 137) (by decide) ?_
        refine j_sub (lv' := [(0, .ref h_t), (1, .int x107), (2, .int x108), (4, .int x109)]) [0, 1, 2, 3] rfl ?_
        exact L137 x107 x108 x109 ((1 : Int32)) m_t_at_112 m_t_told__113 m_t_touches__114 m_t_has__115 m_t_old__116 g121 h
    have L99 : ∀ (x93 : Int32) (x94 : Int32) (x95 : Int32) (x96 : Int32) (s97 : Int32) (s98 : Int32) (m_t_at_99 : Int32) (m_t_told__100 : Nat → Int32) (m_t_touches__101 : Nat → Int32) (m_t_has__102 : Nat → Int32) (m_t_old__103 : Nat → Int32) (m_t_got__104 : Nat → Int32), fX10_isItem_99 F t_length t_text_ k38 x93 x94 x95 x96 s97 s98 m_t_at_99 m_t_told__100 m_t_touches__101 m_t_has__102 m_t_old__103 m_t_got__104 = some r → JJ D X 5 0 0 99 [(0, .ref h_t), (1, .int x93), (2, .int x94), (3, .int x95), (4, .int x96)] [.int s97, .int s98, .ref h_t] [(h_t, .inr (8, [.int t_length, .ref h_t_text, .int m_t_at_99, .ref h_t_told, .ref h_t_touches, .ref h_t_has, .ref h_t_old, .ref h_t_beside, .int t_stones, .ref h_t_slot, .int t_kept, .int t_done, .int t_rows, .ref h_t_row, .ref h_t_free, .int t_frees, .ref h_t_worth, .ref h_t_fore, .ref h_t_back, .int t_fewest, .ref h_t_got])), (h_t_text, jB D 200 t_text_), (h_t_told, jI D 8 m_t_told__100), (h_t_touches, jZ D 32 m_t_touches__101), (h_t_has, jI D 4 m_t_has__102), (h_t_old, jI D 18 m_t_old__103), (h_t_got, jI D 2 m_t_got__104)] := by
      intro x93 x94 x95 x96 s97 s98 m_t_at_99 m_t_told__100 m_t_touches__101 m_t_has__102 m_t_old__103 m_t_got__104 h
      unfold fX10_isItem_99 at h
      refine j_iadd C dX10_isItem_99 ?_
      refine j_nmi h (fun w105 h => ?_)
      refine j_put C ibX10 tyX10 tyX10_ok nmX10 (ci := 8) 0 rfl rfl 2 (by decide) bfX10_68 rfl rfl rfl (Nat.le_of_ble_eq_true rfl) dX10_isItem_100 (ws' := [(h_t, .inr (8, [.int t_length, .ref h_t_text, .int w105, .ref h_t_told, .ref h_t_touches, .ref h_t_has, .ref h_t_old, .ref h_t_beside, .int t_stones, .ref h_t_slot, .int t_kept, .int t_done, .int t_rows, .ref h_t_row, .ref h_t_free, .int t_frees, .ref h_t_worth, .ref h_t_fore, .ref h_t_back, .int t_fewest, .ref h_t_got])), (h_t_text, jB D 200 t_text_), (h_t_told, jI D 8 m_t_told__100), (h_t_touches, jZ D 32 m_t_touches__101), (h_t_has, jI D 4 m_t_has__102), (h_t_old, jI D 18 m_t_old__103), (h_t_got, jI D 2 m_t_got__104)]) rfl ?_
      refine j_aload_n C dX10_isItem_103 rfl 0 rfl ?_
      refine j_get C ibX10 (ci := 8) 0 rfl rfl 20 (by decide) bfX10_49 (v := .ref h_t_got) rfl dX10_isItem_104 ?_
      refine j_iload C dX10_isItem_107 4 rfl ?_
      refine j_iload_n C dX10_isItem_109 rfl 3 rfl ?_
      refine j_if_eq C (tgt := 120) dX10_isItem_110 (by decide) h (fun c106 h => ?_) (fun c106 h => ?_)
      · refine j_iconst C dX10_isItem_120 (v := (-1 : Int32)) (by decide) ?_
        refine j_sub (lv' := [(0, .ref h_t), (1, .int x93), (2, .int x94), (4, .int x96)]) [0, 1, 2, 4] rfl ?_
        exact L121 x93 x94 x96 ((-1 : Int32)) x96 w105 m_t_told__100 m_t_touches__101 m_t_has__102 m_t_old__103 m_t_got__104 h
      · refine j_aload_n C dX10_isItem_113 rfl 0 rfl ?_
        obtain ⟨r118, q119, h⟩ := jl_bind h
        refine j_cV1 C (mX10_number (jlaunch X) D F h_t h_t_text h_t_told h_t_touches h_t_has h_t_old h_t_beside h_t_slot h_t_row h_t_free h_t_worth h_t_fore h_t_back h_t_got t_length w105 t_stones t_kept t_done t_rows t_frees t_fewest t_text_ r118 q119) bmX10_81 biX10_number bsX10_number bzX10 bcX10_number rfl hX10_number (rest := [.int x96, .ref h_t_got]) rfl (jroom_of rfl) 0 (ci := 8) rfl rfl rfl [0, 1] [2, 3, 4, 5, 6] [5, 6, 0, 1, 2, 3, 4] (wr := [(h_t_told, jI D 8 m_t_told__100), (h_t_touches, jZ D 32 m_t_touches__101), (h_t_has, jI D 4 m_t_has__102), (h_t_old, jI D 18 m_t_old__103), (h_t_got, jI D 2 m_t_got__104)]) (ws2 := [(h_t, .inr (8, [.int t_length, .ref h_t_text, .int r118.2, .ref h_t_told, .ref h_t_touches, .ref h_t_has, .ref h_t_old, .ref h_t_beside, .int t_stones, .ref h_t_slot, .int t_kept, .int t_done, .int t_rows, .ref h_t_row, .ref h_t_free, .int t_frees, .ref h_t_worth, .ref h_t_fore, .ref h_t_back, .int t_fewest, .ref h_t_got])), (h_t_text, jB D 200 t_text_), (h_t_told, jI D 8 m_t_told__100), (h_t_touches, jZ D 32 m_t_touches__101), (h_t_has, jI D 4 m_t_has__102), (h_t_old, jI D 18 m_t_old__103), (h_t_got, jI D 2 m_t_got__104)]) rfl rfl rfl rfl rfl (Nat.le_of_ble_eq_true rfl) dX10_isItem_114 ?_
        refine j_goto C dX10_isItem_117 (tgt := 121) (by decide) ?_
        refine j_sub (lv' := [(0, .ref h_t), (1, .int x93), (2, .int x94), (4, .int x96)]) [0, 1, 2, 4] rfl ?_
        exact L121 x93 x94 x96 r118.1 x96 r118.2 m_t_told__100 m_t_touches__101 m_t_has__102 m_t_old__103 m_t_got__104 h
    have L83 : ∀ (x77 : Int32) (x78 : Int32) (x79 : Int32) (s80 : Int32) (m_t_at_81 : Int32) (m_t_told__82 : Nat → Int32) (m_t_touches__83 : Nat → Int32) (m_t_has__84 : Nat → Int32) (m_t_old__85 : Nat → Int32) (m_t_got__86 : Nat → Int32), fX10_isItem_83 F t_length t_text_ k38 x77 x78 x79 s80 m_t_at_81 m_t_told__82 m_t_touches__83 m_t_has__84 m_t_old__85 m_t_got__86 = some r → JJ D X 5 0 0 83 [(0, .ref h_t), (1, .int x77), (2, .int x78), (4, .int x79)] [.int s80] [(h_t, .inr (8, [.int t_length, .ref h_t_text, .int m_t_at_81, .ref h_t_told, .ref h_t_touches, .ref h_t_has, .ref h_t_old, .ref h_t_beside, .int t_stones, .ref h_t_slot, .int t_kept, .int t_done, .int t_rows, .ref h_t_row, .ref h_t_free, .int t_frees, .ref h_t_worth, .ref h_t_fore, .ref h_t_back, .int t_fewest, .ref h_t_got])), (h_t_text, jB D 200 t_text_), (h_t_told, jI D 8 m_t_told__82), (h_t_touches, jZ D 32 m_t_touches__83), (h_t_has, jI D 4 m_t_has__84), (h_t_old, jI D 18 m_t_old__85), (h_t_got, jI D 2 m_t_got__86)] := by
      intro x77 x78 x79 s80 m_t_at_81 m_t_told__82 m_t_touches__83 m_t_has__84 m_t_old__85 m_t_got__86 h
      unfold fX10_isItem_83 at h
      refine j_istore_nC C dX10_isItem_83 rfl (lv' := [(3, .int s80), (0, .ref h_t), (1, .int x77), (2, .int x78), (4, .int x79)]) (by decide) rfl ?_
      refine j_aload_n C dX10_isItem_84 rfl 1 rfl ?_
      refine j_dup C dX10_isItem_85 rfl ?_
      refine j_get C ibX10 (ci := 8) 0 rfl rfl 2 (by decide) bfX10_68 (v := .int m_t_at_81) rfl dX10_isItem_86 ?_
      refine j_iload C dX10_isItem_89 4 rfl ?_
      refine j_if_ne C (tgt := 98) dX10_isItem_91 (by decide) h (fun c92 h => ?_) (fun c92 h => ?_)
      · refine j_iconst C dX10_isItem_94 (v := (0 : Int32)) (by decide) ?_
        refine j_goto C dX10_isItem_95 (tgt := 99) (by decide) ?_
        refine j_sub (lv' := [(0, .ref h_t), (1, .int x77), (2, .int x78), (3, .int s80), (4, .int x79)]) [1, 2, 3, 0, 4] rfl ?_
        exact L99 x77 x78 s80 x79 ((0 : Int32)) m_t_at_81 m_t_at_81 m_t_told__82 m_t_touches__83 m_t_has__84 m_t_old__85 m_t_got__86 h
      · refine j_iconst C dX10_isItem_98 (v := (1 : Int32)) (by decide) ?_
        refine j_sub (lv' := [(0, .ref h_t), (1, .int x77), (2, .int x78), (3, .int s80), (4, .int x79)]) [1, 2, 3, 0, 4] rfl ?_
        exact L99 x77 x78 s80 x79 ((1 : Int32)) m_t_at_81 m_t_at_81 m_t_told__82 m_t_touches__83 m_t_has__84 m_t_old__85 m_t_got__86 h
    have L78 : ∀ (x37 : Int32) (x38 : Int32) (x39 : Int32) (m_t_at_40 : Int32) (m_t_told__41 : Nat → Int32) (m_t_touches__42 : Nat → Int32) (m_t_has__43 : Nat → Int32) (m_t_old__44 : Nat → Int32) (m_t_got__45 : Nat → Int32), fX10_isItem_78 F t_length t_text_ k38 x37 x38 x39 m_t_at_40 m_t_told__41 m_t_touches__42 m_t_has__43 m_t_old__44 m_t_got__45 = some r → JJ D X 5 0 0 78 [(0, .ref h_t), (1, .int x37), (2, .int x38), (4, .int x39)] [] [(h_t, .inr (8, [.int t_length, .ref h_t_text, .int m_t_at_40, .ref h_t_told, .ref h_t_touches, .ref h_t_has, .ref h_t_old, .ref h_t_beside, .int t_stones, .ref h_t_slot, .int t_kept, .int t_done, .int t_rows, .ref h_t_row, .ref h_t_free, .int t_frees, .ref h_t_worth, .ref h_t_fore, .ref h_t_back, .int t_fewest, .ref h_t_got])), (h_t_text, jB D 200 t_text_), (h_t_told, jI D 8 m_t_told__41), (h_t_touches, jZ D 32 m_t_touches__42), (h_t_has, jI D 4 m_t_has__43), (h_t_old, jI D 18 m_t_old__44), (h_t_got, jI D 2 m_t_got__45)] := by
      intro x37 x38 x39 m_t_at_40 m_t_told__41 m_t_touches__42 m_t_has__43 m_t_old__44 m_t_got__45 h
      unfold fX10_isItem_78 at h
      refine j_iconst C dX10_isItem_78 (v := (1 : Int32)) (by decide) ?_
      refine j_goto C dX10_isItem_79 (tgt := 83) (by decide) ?_
      refine j_sub (lv' := [(0, .ref h_t), (1, .int x37), (2, .int x38), (4, .int x39)]) [0, 1, 2, 3] rfl ?_
      exact L83 x37 x38 x39 ((1 : Int32)) m_t_at_40 m_t_told__41 m_t_touches__42 m_t_has__43 m_t_old__44 m_t_got__45 h
    have L82 : ∀ (x47 : Int32) (x48 : Int32) (x49 : Int32) (m_t_at_50 : Int32) (m_t_told__51 : Nat → Int32) (m_t_touches__52 : Nat → Int32) (m_t_has__53 : Nat → Int32) (m_t_old__54 : Nat → Int32) (m_t_got__55 : Nat → Int32), fX10_isItem_82 F t_length t_text_ k38 x47 x48 x49 m_t_at_50 m_t_told__51 m_t_touches__52 m_t_has__53 m_t_old__54 m_t_got__55 = some r → JJ D X 5 0 0 82 [(0, .ref h_t), (1, .int x47), (2, .int x48), (4, .int x49)] [] [(h_t, .inr (8, [.int t_length, .ref h_t_text, .int m_t_at_50, .ref h_t_told, .ref h_t_touches, .ref h_t_has, .ref h_t_old, .ref h_t_beside, .int t_stones, .ref h_t_slot, .int t_kept, .int t_done, .int t_rows, .ref h_t_row, .ref h_t_free, .int t_frees, .ref h_t_worth, .ref h_t_fore, .ref h_t_back, .int t_fewest, .ref h_t_got])), (h_t_text, jB D 200 t_text_), (h_t_told, jI D 8 m_t_told__51), (h_t_touches, jZ D 32 m_t_touches__52), (h_t_has, jI D 4 m_t_has__53), (h_t_old, jI D 18 m_t_old__54), (h_t_got, jI D 2 m_t_got__55)] := by
      intro x47 x48 x49 m_t_at_50 m_t_told__51 m_t_touches__52 m_t_has__53 m_t_old__54 m_t_got__55 h
      unfold fX10_isItem_82 at h
      refine j_iconst C dX10_isItem_82 (v := (0 : Int32)) (by decide) ?_
      refine j_sub (lv' := [(0, .ref h_t), (1, .int x47), (2, .int x48), (4, .int x49)]) [0, 1, 2, 3] rfl ?_
      exact L83 x47 x48 x49 ((0 : Int32)) m_t_at_50 m_t_told__51 m_t_touches__52 m_t_has__53 m_t_old__54 m_t_got__55 h
    refine j_iload C dX10_isItem_38 4 rfl ?_
    refine j_iload_n C dX10_isItem_40 rfl 2 rfl ?_
    refine j_icmp_ge C (tgt := 144) dX10_isItem_41 (by decide) h (fun c26 h => ?_) (fun c26 h => ?_)
    · refine j_sub (lv' := [(0, .ref h_t), (1, .int x16), (3, .int x18)]) [0, 1, 3] rfl ?_
      exact L144 x16 x18 m_t_at_20 m_t_told__21 m_t_touches__22 m_t_has__23 m_t_old__24 m_t_got__25 h
    · refine j_iload_n C dX10_isItem_44 rfl 3 rfl ?_
      refine j_if_eq C (tgt := 144) dX10_isItem_45 (by decide) h (fun c35 h => ?_) (fun c35 h => ?_)
      · refine j_sub (lv' := [(0, .ref h_t), (1, .int x16), (3, .int x18)]) [0, 1, 3] rfl ?_
        exact L144 x16 x18 m_t_at_20 m_t_told__21 m_t_touches__22 m_t_has__23 m_t_old__24 m_t_got__25 h
      · refine j_iload C dX10_isItem_48 4 rfl ?_
        refine j_if_eq C (tgt := 78) dX10_isItem_50 (by decide) h (fun c36 h => ?_) (fun c36 h => ?_)
        · refine j_sub (lv' := [(0, .ref h_t), (1, .int x16), (2, .int x17), (4, .int x19)]) [0, 1, 2, 4] rfl ?_
          exact L78 x16 x17 x19 m_t_at_20 m_t_told__21 m_t_touches__22 m_t_has__23 m_t_old__24 m_t_got__25 h
        · refine j_aload_n C dX10_isItem_53 rfl 0 rfl ?_
          refine j_get C ibX10 (ci := 8) 0 rfl rfl 2 (by decide) bfX10_68 (v := .int m_t_at_20) rfl dX10_isItem_54 ?_
          refine j_aload_n C dX10_isItem_57 rfl 0 rfl ?_
          refine j_get C ibX10 (ci := 8) 0 rfl rfl 0 (by decide) bfX10_64 (v := .int t_length) rfl dX10_isItem_58 ?_
          refine j_icmp_ge C (tgt := 82) dX10_isItem_61 (by decide) h (fun c46 h => ?_) (fun c46 h => ?_)
          · refine j_sub (lv' := [(0, .ref h_t), (1, .int x16), (2, .int x17), (4, .int x19)]) [0, 1, 2, 4] rfl ?_
            exact L82 x16 x17 x19 m_t_at_20 m_t_told__21 m_t_touches__22 m_t_has__23 m_t_old__24 m_t_got__25 h
          · refine j_aload_n C dX10_isItem_64 rfl 0 rfl ?_
            refine j_get C ibX10 (ci := 8) 0 rfl rfl 1 (by decide) bfX10_7 (v := .ref h_t_text) rfl dX10_isItem_65 ?_
            refine j_aload_n C dX10_isItem_68 rfl 0 rfl ?_
            refine j_get C ibX10 (ci := 8) 0 rfl rfl 2 (by decide) bfX10_68 (v := .int m_t_at_20) rfl dX10_isItem_69 ?_
            refine jl_inb h (fun b56 h => ?_)
            refine j_bald C 1 rfl b56 dX10_isItem_72 ?_
            refine j_bipush C dX10_isItem_73 (v := (44 : Int32)) (by decide) ?_
            refine j_icmp_ne C (tgt := 82) dX10_isItem_75 (by decide) h (fun c57 h => ?_) (fun c57 h => ?_)
            · refine j_sub (lv' := [(0, .ref h_t), (1, .int x16), (2, .int x17), (4, .int x19)]) [0, 1, 2, 4] rfl ?_
              exact L78 x16 x17 x19 m_t_at_20 m_t_told__21 m_t_touches__22 m_t_has__23 m_t_old__24 m_t_got__25 h
            · refine j_sub (lv' := [(0, .ref h_t), (1, .int x16), (2, .int x17), (4, .int x19)]) [0, 1, 2, 4] rfl ?_
              exact L82 x16 x17 x19 m_t_at_20 m_t_told__21 m_t_touches__22 m_t_has__23 m_t_old__24 m_t_got__25 h
  have L34 : ∀ (x7 : Int32) (x8 : Int32) (s9 : Int32) (m_t_at_10 : Int32) (m_t_told__11 : Nat → Int32) (m_t_touches__12 : Nat → Int32) (m_t_has__13 : Nat → Int32) (m_t_old__14 : Nat → Int32) (m_t_got__15 : Nat → Int32), fX10_isItem_34 F t_length t_text_  x7 x8 s9 m_t_at_10 m_t_told__11 m_t_touches__12 m_t_has__13 m_t_old__14 m_t_got__15 = some r → JJ D X 5 0 0 34 [(0, .ref h_t), (1, .int x7), (2, .int x8)] [.int s9] [(h_t, .inr (8, [.int t_length, .ref h_t_text, .int m_t_at_10, .ref h_t_told, .ref h_t_touches, .ref h_t_has, .ref h_t_old, .ref h_t_beside, .int t_stones, .ref h_t_slot, .int t_kept, .int t_done, .int t_rows, .ref h_t_row, .ref h_t_free, .int t_frees, .ref h_t_worth, .ref h_t_fore, .ref h_t_back, .int t_fewest, .ref h_t_got])), (h_t_text, jB D 200 t_text_), (h_t_told, jI D 8 m_t_told__11), (h_t_touches, jZ D 32 m_t_touches__12), (h_t_has, jI D 4 m_t_has__13), (h_t_old, jI D 18 m_t_old__14), (h_t_got, jI D 2 m_t_got__15)] := by
    intro x7 x8 s9 m_t_at_10 m_t_told__11 m_t_touches__12 m_t_has__13 m_t_old__14 m_t_got__15 h
    unfold fX10_isItem_34 at h
    refine j_istore_nC C dX10_isItem_34 rfl (lv' := [(3, .int s9), (0, .ref h_t), (1, .int x7), (2, .int x8)]) (by decide) rfl ?_
    refine j_iconst C dX10_isItem_35 (v := (0 : Int32)) (by decide) ?_
    refine j_istoreC C dX10_isItem_36 (lv' := [(4, .int ((0 : Int32))), (3, .int s9), (0, .ref h_t), (1, .int x7), (2, .int x8)]) (by decide) rfl ?_
    refine j_sub (lv' := [(0, .ref h_t), (1, .int x7), (2, .int x8), (3, .int s9), (4, .int ((0 : Int32)))]) [2, 3, 4, 1, 0] rfl ?_
    exact L38 x7 x8 s9 ((0 : Int32)) m_t_at_10 m_t_told__11 m_t_touches__12 m_t_has__13 m_t_old__14 m_t_got__15 h
  refine j_aload_n C dX10_isItem_0 rfl 0 rfl ?_
  refine j_get C ibX10 (ci := 8) 0 rfl rfl 1 (by decide) bfX10_7 (v := .ref h_t_text) rfl dX10_isItem_1 ?_
  refine j_aload_n C dX10_isItem_4 rfl 0 rfl ?_
  refine j_get C ibX10 (ci := 8) 0 rfl rfl 2 (by decide) bfX10_68 (v := .int t_at) rfl dX10_isItem_5 ?_
  refine jl_inb h (fun b1 h => ?_)
  refine j_bald C 1 rfl b1 dX10_isItem_8 ?_
  refine j_istore_n C dX10_isItem_9 rfl (lv' := fun v2 => [(1, .int v2), (0, .ref h_t)]) (by decide) (fun _ => rfl) h (fun v2 h => ?_)
  refine j_aload_n C dX10_isItem_10 rfl 1 rfl ?_
  refine j_dup C dX10_isItem_11 rfl ?_
  refine j_get C ibX10 (ci := 8) 0 rfl rfl 2 (by decide) bfX10_68 (v := .int t_at) rfl dX10_isItem_12 ?_
  refine j_iconst C dX10_isItem_15 (v := (1 : Int32)) (by decide) ?_
  refine j_iadd C dX10_isItem_16 ?_
  refine j_nmi h (fun w3 h => ?_)
  refine j_put C ibX10 tyX10 tyX10_ok nmX10 (ci := 8) 0 rfl rfl 2 (by decide) bfX10_68 rfl rfl rfl (Nat.le_of_ble_eq_true rfl) dX10_isItem_17 (ws' := [(h_t, .inr (8, [.int t_length, .ref h_t_text, .int w3, .ref h_t_told, .ref h_t_touches, .ref h_t_has, .ref h_t_old, .ref h_t_beside, .int t_stones, .ref h_t_slot, .int t_kept, .int t_done, .int t_rows, .ref h_t_row, .ref h_t_free, .int t_frees, .ref h_t_worth, .ref h_t_fore, .ref h_t_back, .int t_fewest, .ref h_t_got])), (h_t_text, jB D 200 t_text_), (h_t_told, jI D 8 t_told_), (h_t_touches, jZ D 32 t_touches_), (h_t_has, jI D 4 t_has_), (h_t_old, jI D 18 t_old_), (h_t_got, jI D 2 t_got_)]) rfl ?_
  refine j_iload_n C dX10_isItem_20 rfl 0 rfl ?_
  obtain ⟨r4, q5, h⟩ := jl_bind h
  refine j_cS1 C (mX10_numbers (jlaunch X) D v2 r4 q5) bmX10_77 btX10_numbers bzX10 bcX10_numbers hX10_numbers (rest := []) rfl (jroom_of rfl) [] [0, 1, 2, 3, 4, 5, 6] [0, 1, 2, 3, 4, 5, 6] (wr := [(h_t, .inr (8, [.int t_length, .ref h_t_text, .int w3, .ref h_t_told, .ref h_t_touches, .ref h_t_has, .ref h_t_old, .ref h_t_beside, .int t_stones, .ref h_t_slot, .int t_kept, .int t_done, .int t_rows, .ref h_t_row, .ref h_t_free, .int t_frees, .ref h_t_worth, .ref h_t_fore, .ref h_t_back, .int t_fewest, .ref h_t_got])), (h_t_text, jB D 200 t_text_), (h_t_told, jI D 8 t_told_), (h_t_touches, jZ D 32 t_touches_), (h_t_has, jI D 4 t_has_), (h_t_old, jI D 18 t_old_), (h_t_got, jI D 2 t_got_)]) (ws2 := [(h_t, .inr (8, [.int t_length, .ref h_t_text, .int w3, .ref h_t_told, .ref h_t_touches, .ref h_t_has, .ref h_t_old, .ref h_t_beside, .int t_stones, .ref h_t_slot, .int t_kept, .int t_done, .int t_rows, .ref h_t_row, .ref h_t_free, .int t_frees, .ref h_t_worth, .ref h_t_fore, .ref h_t_back, .int t_fewest, .ref h_t_got])), (h_t_text, jB D 200 t_text_), (h_t_told, jI D 8 t_told_), (h_t_touches, jZ D 32 t_touches_), (h_t_has, jI D 4 t_has_), (h_t_old, jI D 18 t_old_), (h_t_got, jI D 2 t_got_)]) rfl rfl rfl rfl rfl (Nat.le_of_ble_eq_true rfl) dX10_isItem_21 ?_
  refine j_istore_nC C dX10_isItem_24 rfl (lv' := [(2, .int r4), (1, .int v2), (0, .ref h_t)]) (by decide) rfl ?_
  refine j_iload_n C dX10_isItem_25 rfl 0 rfl ?_
  refine j_if_le C (tgt := 33) dX10_isItem_26 (by decide) h (fun c6 h => ?_) (fun c6 h => ?_)
  · refine j_iconst C dX10_isItem_33 (v := (0 : Int32)) (by decide) ?_
    refine j_sub (lv' := [(0, .ref h_t), (1, .int v2), (2, .int r4)]) [2, 1, 0] rfl ?_
    exact L34 v2 r4 ((0 : Int32)) w3 t_told_ t_touches_ t_has_ t_old_ t_got_ h
  · refine j_iconst C dX10_isItem_29 (v := (1 : Int32)) (by decide) ?_
    refine j_goto C dX10_isItem_30 (tgt := 34) (by decide) ?_
    refine j_sub (lv' := [(0, .ref h_t), (1, .int v2), (2, .int r4)]) [2, 1, 0] rfl ?_
    exact L34 v2 r4 ((1 : Int32)) w3 t_told_ t_touches_ t_has_ t_old_ t_got_ h
theorem dX10_fault_0 : decode cX10_fault 0 = .ok (.aload_n 0, 1) := by decide +kernel
theorem dX10_fault_1 : decode cX10_fault 1 = .ok (.iconst 0, 1) := by decide +kernel
theorem dX10_fault_2 : decode cX10_fault 2 = .ok (.putfield 68, 3) := by decide +kernel
theorem dX10_fault_5 : decode cX10_fault 5 = .ok (.aload_n 0, 1) := by decide +kernel
theorem dX10_fault_6 : decode cX10_fault 6 = .ok (.invokevirtual 52, 3) := by decide +kernel
theorem dX10_fault_9 : decode cX10_fault 9 = .ok (.aload_n 0, 1) := by decide +kernel
theorem dX10_fault_10 : decode cX10_fault 10 = .ok (.getfield 68, 3) := by decide +kernel
theorem dX10_fault_13 : decode cX10_fault 13 = .ok (.aload_n 0, 1) := by decide +kernel
theorem dX10_fault_14 : decode cX10_fault 14 = .ok (.getfield 64, 3) := by decide +kernel
theorem dX10_fault_17 : decode cX10_fault 17 = .ok (.if_icmp .ge 20, 3) := by decide +kernel
theorem dX10_fault_20 : decode cX10_fault 20 = .ok (.aload_n 0, 1) := by decide +kernel
theorem dX10_fault_21 : decode cX10_fault 21 = .ok (.getfield 68, 3) := by decide +kernel
theorem dX10_fault_24 : decode cX10_fault 24 = .ok (.istore_n 1, 1) := by decide +kernel
theorem dX10_fault_25 : decode cX10_fault 25 = .ok (.aload_n 0, 1) := by decide +kernel
theorem dX10_fault_26 : decode cX10_fault 26 = .ok (.invokevirtual 103, 3) := by decide +kernel
theorem dX10_fault_29 : decode cX10_fault 29 = .ok (.ifCond .ne 5, 3) := by decide +kernel
theorem dX10_fault_32 : decode cX10_fault 32 = .ok (.iload_n 1, 1) := by decide +kernel
theorem dX10_fault_33 : decode cX10_fault 33 = .ok (.ireturn, 1) := by decide +kernel
theorem dX10_fault_34 : decode cX10_fault 34 = .ok (.goto (-25), 3) := by decide +kernel
theorem dX10_fault_37 : decode cX10_fault 37 = .ok (.bipush (-4), 2) := by decide +kernel
theorem dX10_fault_39 : decode cX10_fault 39 = .ok (.ireturn, 1) := by decide +kernel
def bX10_fault_9 (F : Nat) (t_length : Int32) (t_text_ : Nat → Int32)  (k9 : Int32 → (Nat → Int32) → (Nat → Int32) → (Nat → Int32) → (Nat → Int32) → (Nat → Int32) → Option (Int32 × Int32 × (Nat → Int32) × (Nat → Int32) × (Nat → Int32) × (Nat → Int32) × (Nat → Int32))) (m_t_at_3 : Int32) (m_t_told__4 : Nat → Int32) (m_t_touches__5 : Nat → Int32) (m_t_has__6 : Nat → Int32) (m_t_old__7 : Nat → Int32) (m_t_got__8 : Nat → Int32) : Option (Int32 × Int32 × (Nat → Int32) × (Nat → Int32) × (Nat → Int32) × (Nat → Int32) × (Nat → Int32)) :=
(if t_length ≤ m_t_at_3 then
(some ((-4 : Int32), m_t_at_3, m_t_told__4, m_t_touches__5, m_t_has__6, m_t_old__7, m_t_got__8))
else
((fX10_isItem F t_length m_t_at_3 t_text_ m_t_told__4 m_t_touches__5 m_t_has__6 m_t_old__7 m_t_got__8).bind fun r10 =>
(if r10.1 = 0 then
(some (m_t_at_3, r10.2.1, r10.2.2.1, r10.2.2.2.1, r10.2.2.2.2.1, r10.2.2.2.2.2.1, r10.2.2.2.2.2.2))
else
(k9 r10.2.1 r10.2.2.1 r10.2.2.2.1 r10.2.2.2.2.1 r10.2.2.2.2.2.1 r10.2.2.2.2.2.2))))
def lX10_fault_9 (F : Nat) (t_length : Int32) (t_text_ : Nat → Int32)  (F2 : Nat) (m_t_at_3 : Int32) (m_t_told__4 : Nat → Int32) (m_t_touches__5 : Nat → Int32) (m_t_has__6 : Nat → Int32) (m_t_old__7 : Nat → Int32) (m_t_got__8 : Nat → Int32) : Option (Int32 × Int32 × (Nat → Int32) × (Nat → Int32) × (Nat → Int32) × (Nat → Int32) × (Nat → Int32)) := jl_loop6 (bX10_fault_9 F t_length t_text_ ) F2 m_t_at_3 m_t_told__4 m_t_touches__5 m_t_has__6 m_t_old__7 m_t_got__8
def fX10_fault (F : Nat) (t_length : Int32) (t_at : Int32) (t_text_ : Nat → Int32) (t_told_ : Nat → Int32) (t_touches_ : Nat → Int32) (t_has_ : Nat → Int32) (t_old_ : Nat → Int32) (t_got_ : Nat → Int32) : Option (Int32 × Int32 × (Nat → Int32) × (Nat → Int32) × (Nat → Int32) × (Nat → Int32) × (Nat → Int32)) :=
((fX10_begins F t_told_ t_touches_ t_has_ t_old_).bind fun r1 =>
(lX10_fault_9 F t_length t_text_ F ((0 : Int32)) r1.1 r1.2.1 r1.2.2.1 r1.2.2.2 t_got_))
def oX10_fault (D : jv_D) (h_t : Nat) (h_t_text : Nat) (h_t_told : Nat) (h_t_touches : Nat) (h_t_has : Nat) (h_t_old : Nat) (h_t_beside : Nat) (h_t_slot : Nat) (h_t_row : Nat) (h_t_free : Nat) (h_t_worth : Nat) (h_t_fore : Nat) (h_t_back : Nat) (h_t_got : Nat) (t_length : Int32) (t_stones : Int32) (t_kept : Int32) (t_done : Int32) (t_rows : Int32) (t_frees : Int32) (t_fewest : Int32) (t_text_ : Nat → Int32) (r : Int32 × Int32 × (Nat → Int32) × (Nat → Int32) × (Nat → Int32) × (Nat → Int32) × (Nat → Int32)) : va_W := [(h_t, .inr (8, [.int t_length, .ref h_t_text, .int r.2.1, .ref h_t_told, .ref h_t_touches, .ref h_t_has, .ref h_t_old, .ref h_t_beside, .int t_stones, .ref h_t_slot, .int t_kept, .int t_done, .int t_rows, .ref h_t_row, .ref h_t_free, .int t_frees, .ref h_t_worth, .ref h_t_fore, .ref h_t_back, .int t_fewest, .ref h_t_got])), (h_t_text, jB D 200 t_text_), (h_t_told, jI D 8 r.2.2.1), (h_t_touches, jZ D 32 r.2.2.2.1), (h_t_has, jI D 4 r.2.2.2.2.1), (h_t_old, jI D 18 r.2.2.2.2.2.1), (h_t_got, jI D 2 r.2.2.2.2.2.2)]
set_option maxHeartbeats 40000000 in
set_option maxRecDepth 100000 in
theorem mX10_fault (l : Launch) (D : jv_D) (F : Nat) (h_t : Nat) (h_t_text : Nat) (h_t_told : Nat) (h_t_touches : Nat) (h_t_has : Nat) (h_t_old : Nat) (h_t_beside : Nat) (h_t_slot : Nat) (h_t_row : Nat) (h_t_free : Nat) (h_t_worth : Nat) (h_t_fore : Nat) (h_t_back : Nat) (h_t_got : Nat) (t_length : Int32) (t_at : Int32) (t_stones : Int32) (t_kept : Int32) (t_done : Int32) (t_rows : Int32) (t_frees : Int32) (t_fewest : Int32) (t_text_ : Nat → Int32) (t_told_ : Nat → Int32) (t_touches_ : Nat → Int32) (t_has_ : Nat → Int32) (t_old_ : Nat → Int32) (t_got_ : Nat → Int32) (r : Int32 × Int32 × (Nat → Int32) × (Nat → Int32) × (Nat → Int32) × (Nat → Int32) × (Nat → Int32)) (h : fX10_fault F t_length t_at t_text_ t_told_ t_touches_ t_has_ t_old_ t_got_ = some r) : MM l yX10_fault (jW yX10_fault cX10_fault 2 (some .int)) ({ frames := 3, cells := 0, slots := 0, locals := 72 }) D [.ref h_t] [(h_t, .inr (8, [.int t_length, .ref h_t_text, .int t_at, .ref h_t_told, .ref h_t_touches, .ref h_t_has, .ref h_t_old, .ref h_t_beside, .int t_stones, .ref h_t_slot, .int t_kept, .int t_done, .int t_rows, .ref h_t_row, .ref h_t_free, .int t_frees, .ref h_t_worth, .ref h_t_fore, .ref h_t_back, .int t_fewest, .ref h_t_got])), (h_t_text, jB D 200 t_text_), (h_t_told, jI D 8 t_told_), (h_t_touches, jZ D 32 t_touches_), (h_t_has, jI D 4 t_has_), (h_t_old, jI D 18 t_old_), (h_t_got, jI D 2 t_got_)] (some (.int r.1)) (oX10_fault D h_t h_t_text h_t_told h_t_touches h_t_has h_t_old h_t_beside h_t_slot h_t_row h_t_free h_t_worth h_t_fore h_t_back h_t_got t_length t_stones t_kept t_done t_rows t_frees t_fewest t_text_ r) := by
  refine mn_of hpX10_fault (Nat.le_of_ble_eq_true rfl) ?_
  intro X hXl C E0 hN
  subst hXl
  replace C : JC D X 2 RX10 cX10_fault ({ frames := 3, cells := 0, slots := 0, locals := 72 }) := C
  have E : JE D X 0 0 (some .int) (fun _ : Unit => (some (.int r.1))) (fun _ : Unit => (oX10_fault D h_t h_t_text h_t_told h_t_touches h_t_has h_t_old h_t_beside h_t_slot h_t_row h_t_free h_t_worth h_t_fore h_t_back h_t_got t_length t_stones t_kept t_done t_rows t_frees t_fewest t_text_ r)) := E0 0 0 rfl rfl
  clear E0 hN
  show JJ D X 2 0 0 0 [(0, .ref h_t)] [] [(h_t, .inr (8, [.int t_length, .ref h_t_text, .int t_at, .ref h_t_told, .ref h_t_touches, .ref h_t_has, .ref h_t_old, .ref h_t_beside, .int t_stones, .ref h_t_slot, .int t_kept, .int t_done, .int t_rows, .ref h_t_row, .ref h_t_free, .int t_frees, .ref h_t_worth, .ref h_t_fore, .ref h_t_back, .int t_fewest, .ref h_t_got])), (h_t_text, jB D 200 t_text_), (h_t_told, jI D 8 t_told_), (h_t_touches, jZ D 32 t_touches_), (h_t_has, jI D 4 t_has_), (h_t_old, jI D 18 t_old_), (h_t_got, jI D 2 t_got_)]
  unfold fX10_fault at h
  have L9 : ∀ (m_t_at_3 : Int32) (m_t_told__4 : Nat → Int32) (m_t_touches__5 : Nat → Int32) (m_t_has__6 : Nat → Int32) (m_t_old__7 : Nat → Int32) (m_t_got__8 : Nat → Int32), lX10_fault_9 F t_length t_text_  F m_t_at_3 m_t_told__4 m_t_touches__5 m_t_has__6 m_t_old__7 m_t_got__8 = some r → JJ D X 2 0 0 9 [(0, .ref h_t)] [] [(h_t, .inr (8, [.int t_length, .ref h_t_text, .int m_t_at_3, .ref h_t_told, .ref h_t_touches, .ref h_t_has, .ref h_t_old, .ref h_t_beside, .int t_stones, .ref h_t_slot, .int t_kept, .int t_done, .int t_rows, .ref h_t_row, .ref h_t_free, .int t_frees, .ref h_t_worth, .ref h_t_fore, .ref h_t_back, .int t_fewest, .ref h_t_got])), (h_t_text, jB D 200 t_text_), (h_t_told, jI D 8 m_t_told__4), (h_t_touches, jZ D 32 m_t_touches__5), (h_t_has, jI D 4 m_t_has__6), (h_t_old, jI D 18 m_t_old__7), (h_t_got, jI D 2 m_t_got__8)] := by
    intro m_t_at_3 m_t_told__4 m_t_touches__5 m_t_has__6 m_t_old__7 m_t_got__8 h
    refine jl_ind6 (fun m_t_at_3 m_t_told__4 m_t_touches__5 m_t_has__6 m_t_old__7 m_t_got__8 => JJ D X 2 0 0 9 [(0, .ref h_t)] [] [(h_t, .inr (8, [.int t_length, .ref h_t_text, .int m_t_at_3, .ref h_t_told, .ref h_t_touches, .ref h_t_has, .ref h_t_old, .ref h_t_beside, .int t_stones, .ref h_t_slot, .int t_kept, .int t_done, .int t_rows, .ref h_t_row, .ref h_t_free, .int t_frees, .ref h_t_worth, .ref h_t_fore, .ref h_t_back, .int t_fewest, .ref h_t_got])), (h_t_text, jB D 200 t_text_), (h_t_told, jI D 8 m_t_told__4), (h_t_touches, jZ D 32 m_t_touches__5), (h_t_has, jI D 4 m_t_has__6), (h_t_old, jI D 18 m_t_old__7), (h_t_got, jI D 2 m_t_got__8)]) ?_ F m_t_at_3 m_t_told__4 m_t_touches__5 m_t_has__6 m_t_old__7 m_t_got__8 h
    clear h m_t_at_3 m_t_told__4 m_t_touches__5 m_t_has__6 m_t_old__7 m_t_got__8
    intro k9 i9 m_t_at_3 m_t_told__4 m_t_touches__5 m_t_has__6 m_t_old__7 m_t_got__8 h
    replace i9 : ∀ (m_t_at_3 : Int32) (m_t_told__4 : Nat → Int32) (m_t_touches__5 : Nat → Int32) (m_t_has__6 : Nat → Int32) (m_t_old__7 : Nat → Int32) (m_t_got__8 : Nat → Int32), k9 m_t_at_3 m_t_told__4 m_t_touches__5 m_t_has__6 m_t_old__7 m_t_got__8 = some r → JJ D X 2 0 0 9 [(0, .ref h_t)] [] [(h_t, .inr (8, [.int t_length, .ref h_t_text, .int m_t_at_3, .ref h_t_told, .ref h_t_touches, .ref h_t_has, .ref h_t_old, .ref h_t_beside, .int t_stones, .ref h_t_slot, .int t_kept, .int t_done, .int t_rows, .ref h_t_row, .ref h_t_free, .int t_frees, .ref h_t_worth, .ref h_t_fore, .ref h_t_back, .int t_fewest, .ref h_t_got])), (h_t_text, jB D 200 t_text_), (h_t_told, jI D 8 m_t_told__4), (h_t_touches, jZ D 32 m_t_touches__5), (h_t_has, jI D 4 m_t_has__6), (h_t_old, jI D 18 m_t_old__7), (h_t_got, jI D 2 m_t_got__8)] := i9
    show JJ D X 2 0 0 9 [(0, .ref h_t)] [] [(h_t, .inr (8, [.int t_length, .ref h_t_text, .int m_t_at_3, .ref h_t_told, .ref h_t_touches, .ref h_t_has, .ref h_t_old, .ref h_t_beside, .int t_stones, .ref h_t_slot, .int t_kept, .int t_done, .int t_rows, .ref h_t_row, .ref h_t_free, .int t_frees, .ref h_t_worth, .ref h_t_fore, .ref h_t_back, .int t_fewest, .ref h_t_got])), (h_t_text, jB D 200 t_text_), (h_t_told, jI D 8 m_t_told__4), (h_t_touches, jZ D 32 m_t_touches__5), (h_t_has, jI D 4 m_t_has__6), (h_t_old, jI D 18 m_t_old__7), (h_t_got, jI D 2 m_t_got__8)]
    unfold bX10_fault_9 at h
    refine j_aload_n C dX10_fault_9 rfl 0 rfl ?_
    refine j_get C ibX10 (ci := 8) 0 rfl rfl 2 (by decide) bfX10_68 (v := .int m_t_at_3) rfl dX10_fault_10 ?_
    refine j_aload_n C dX10_fault_13 rfl 0 rfl ?_
    refine j_get C ibX10 (ci := 8) 0 rfl rfl 0 (by decide) bfX10_64 (v := .int t_length) rfl dX10_fault_14 ?_
    refine j_icmp_ge C (tgt := 37) dX10_fault_17 (by decide) h (fun c9 h => ?_) (fun c9 h => ?_)
    · refine j_bipush C dX10_fault_37 (v := (-4 : Int32)) (by decide) ?_
      exact j_iretR C (r := r) (rtf := fun r => (some (.int r.1))) (wff := fun r => (oX10_fault D h_t h_t_text h_t_told h_t_touches h_t_has h_t_old h_t_beside h_t_slot h_t_row h_t_free h_t_worth h_t_fore h_t_back h_t_got t_length t_stones t_kept t_done t_rows t_frees t_fewest t_text_ r)) E h rfl rfl dX10_fault_39
    · refine j_aload_n C dX10_fault_20 rfl 0 rfl ?_
      refine j_get C ibX10 (ci := 8) 0 rfl rfl 2 (by decide) bfX10_68 (v := .int m_t_at_3) rfl dX10_fault_21 ?_
      refine j_istore_nC C dX10_fault_24 rfl (lv' := [(1, .int m_t_at_3), (0, .ref h_t)]) (by decide) rfl ?_
      refine j_aload_n C dX10_fault_25 rfl 1 rfl ?_
      obtain ⟨r10, q11, h⟩ := jl_bind h
      refine j_cV1 C (mX10_isItem (jlaunch X) D F h_t h_t_text h_t_told h_t_touches h_t_has h_t_old h_t_beside h_t_slot h_t_row h_t_free h_t_worth h_t_fore h_t_back h_t_got t_length m_t_at_3 t_stones t_kept t_done t_rows t_frees t_fewest t_text_ m_t_told__4 m_t_touches__5 m_t_has__6 m_t_old__7 m_t_got__8 r10 q11) bmX10_103 biX10_isItem bsX10_isItem bzX10 bcX10_isItem rfl hX10_isItem (rest := []) rfl (jroom_of rfl) 0 (ci := 8) rfl rfl rfl [0, 1, 2, 3, 4, 5, 6] [] [0, 1, 2, 3, 4, 5, 6] (wr := []) (ws2 := [(h_t, .inr (8, [.int t_length, .ref h_t_text, .int r10.2.1, .ref h_t_told, .ref h_t_touches, .ref h_t_has, .ref h_t_old, .ref h_t_beside, .int t_stones, .ref h_t_slot, .int t_kept, .int t_done, .int t_rows, .ref h_t_row, .ref h_t_free, .int t_frees, .ref h_t_worth, .ref h_t_fore, .ref h_t_back, .int t_fewest, .ref h_t_got])), (h_t_text, jB D 200 t_text_), (h_t_told, jI D 8 r10.2.2.1), (h_t_touches, jZ D 32 r10.2.2.2.1), (h_t_has, jI D 4 r10.2.2.2.2.1), (h_t_old, jI D 18 r10.2.2.2.2.2.1), (h_t_got, jI D 2 r10.2.2.2.2.2.2)]) rfl rfl rfl rfl rfl (Nat.le_of_ble_eq_true rfl) dX10_fault_26 ?_
      refine j_if_ne C (tgt := 34) dX10_fault_29 (by decide) h (fun c12 h => ?_) (fun c12 h => ?_)
      · refine j_iload_n C dX10_fault_32 rfl 0 rfl ?_
        exact j_iretR C (r := r) (rtf := fun r => (some (.int r.1))) (wff := fun r => (oX10_fault D h_t h_t_text h_t_told h_t_touches h_t_has h_t_old h_t_beside h_t_slot h_t_row h_t_free h_t_worth h_t_fore h_t_back h_t_got t_length t_stones t_kept t_done t_rows t_frees t_fewest t_text_ r)) E h rfl rfl dX10_fault_33
      · refine j_goto C dX10_fault_34 (tgt := 9) (by decide) ?_
        refine j_sub (lv' := [(0, .ref h_t)]) [1] rfl ?_
        exact i9 r10.2.1 r10.2.2.1 r10.2.2.2.1 r10.2.2.2.2.1 r10.2.2.2.2.2.1 r10.2.2.2.2.2.2 h
  refine j_aload_n C dX10_fault_0 rfl 0 rfl ?_
  refine j_iconst C dX10_fault_1 (v := (0 : Int32)) (by decide) ?_
  refine j_put C ibX10 tyX10 tyX10_ok nmX10 (ci := 8) 0 rfl rfl 2 (by decide) bfX10_68 rfl rfl rfl (Nat.le_of_ble_eq_true rfl) dX10_fault_2 (ws' := [(h_t, .inr (8, [.int t_length, .ref h_t_text, .int ((0 : Int32)), .ref h_t_told, .ref h_t_touches, .ref h_t_has, .ref h_t_old, .ref h_t_beside, .int t_stones, .ref h_t_slot, .int t_kept, .int t_done, .int t_rows, .ref h_t_row, .ref h_t_free, .int t_frees, .ref h_t_worth, .ref h_t_fore, .ref h_t_back, .int t_fewest, .ref h_t_got])), (h_t_text, jB D 200 t_text_), (h_t_told, jI D 8 t_told_), (h_t_touches, jZ D 32 t_touches_), (h_t_has, jI D 4 t_has_), (h_t_old, jI D 18 t_old_), (h_t_got, jI D 2 t_got_)]) rfl ?_
  refine j_aload_n C dX10_fault_5 rfl 0 rfl ?_
  obtain ⟨r1, q2, h⟩ := jl_bind h
  refine j_cV0 C (mX10_begins (jlaunch X) D F h_t h_t_text h_t_told h_t_touches h_t_has h_t_old h_t_beside h_t_slot h_t_row h_t_free h_t_worth h_t_fore h_t_back h_t_got t_length ((0 : Int32)) t_stones t_kept t_done t_rows t_frees t_fewest t_told_ t_touches_ t_has_ t_old_ r1 q2) bmX10_52 biX10_begins bsX10_begins bzX10 bcX10_begins rfl hX10_begins (rest := []) rfl (jroom_of rfl) 0 (ci := 8) rfl rfl rfl [0, 2, 3, 4, 5] [1, 6] [2, 0, 3, 4, 5, 6, 1] (wr := [(h_t_text, jB D 200 t_text_), (h_t_got, jI D 2 t_got_)]) (ws2 := [(h_t, .inr (8, [.int t_length, .ref h_t_text, .int ((0 : Int32)), .ref h_t_told, .ref h_t_touches, .ref h_t_has, .ref h_t_old, .ref h_t_beside, .int t_stones, .ref h_t_slot, .int t_kept, .int t_done, .int t_rows, .ref h_t_row, .ref h_t_free, .int t_frees, .ref h_t_worth, .ref h_t_fore, .ref h_t_back, .int t_fewest, .ref h_t_got])), (h_t_text, jB D 200 t_text_), (h_t_told, jI D 8 r1.1), (h_t_touches, jZ D 32 r1.2.1), (h_t_has, jI D 4 r1.2.2.1), (h_t_old, jI D 18 r1.2.2.2), (h_t_got, jI D 2 t_got_)]) rfl rfl rfl rfl rfl (Nat.le_of_ble_eq_true rfl) dX10_fault_6 ?_
  refine j_sub (lv' := [(0, .ref h_t)]) [0] rfl ?_
  exact L9 ((0 : Int32)) r1.1 r1.2.1 r1.2.2.1 r1.2.2.2 t_got_ h
theorem dX10_areWell_0 : decode cX10_areWell 0 = .ok (.iload_n 1, 1) := by decide +kernel
theorem dX10_areWell_1 : decode cX10_areWell 1 = .ok (.ifCond .eq 35, 3) := by decide +kernel
theorem dX10_areWell_4 : decode cX10_areWell 4 = .ok (.iload_n 2, 1) := by decide +kernel
theorem dX10_areWell_5 : decode cX10_areWell 5 = .ok (.ifCond .eq 31, 3) := by decide +kernel
theorem dX10_areWell_8 : decode cX10_areWell 8 = .ok (.iload_n 1, 1) := by decide +kernel
theorem dX10_areWell_9 : decode cX10_areWell 9 = .ok (.bipush 9, 2) := by decide +kernel
theorem dX10_areWell_11 : decode cX10_areWell 11 = .ok (.if_icmp .eq 25, 3) := by decide +kernel
theorem dX10_areWell_14 : decode cX10_areWell 14 = .ok (.iload_n 2, 1) := by decide +kernel
theorem dX10_areWell_15 : decode cX10_areWell 15 = .ok (.bipush 9, 2) := by decide +kernel
theorem dX10_areWell_17 : decode cX10_areWell 17 = .ok (.if_icmp .eq 19, 3) := by decide +kernel
theorem dX10_areWell_20 : decode cX10_areWell 20 = .ok (.aload_n 0, 1) := by decide +kernel
theorem dX10_areWell_21 : decode cX10_areWell 21 = .ok (.getfield 17, 3) := by decide +kernel
theorem dX10_areWell_24 : decode cX10_areWell 24 = .ok (.bipush 16, 2) := by decide +kernel
theorem dX10_areWell_26 : decode cX10_areWell 26 = .ok (.iconst 4, 1) := by decide +kernel
theorem dX10_areWell_27 : decode cX10_areWell 27 = .ok (.iload_n 1, 1) := by decide +kernel
theorem dX10_areWell_28 : decode cX10_areWell 28 = .ok (.imul, 1) := by decide +kernel
theorem dX10_areWell_29 : decode cX10_areWell 29 = .ok (.iadd, 1) := by decide +kernel
theorem dX10_areWell_30 : decode cX10_areWell 30 = .ok (.iload_n 2, 1) := by decide +kernel
theorem dX10_areWell_31 : decode cX10_areWell 31 = .ok (.iadd, 1) := by decide +kernel
theorem dX10_areWell_32 : decode cX10_areWell 32 = .ok (.baload, 1) := by decide +kernel
theorem dX10_areWell_33 : decode cX10_areWell 33 = .ok (.ifCond .eq 7, 3) := by decide +kernel
theorem dX10_areWell_36 : decode cX10_areWell 36 = .ok (.iconst 1, 1) := by decide +kernel
theorem dX10_areWell_37 : decode cX10_areWell 37 = .ok (.goto 4, 3) := by decide +kernel
theorem dX10_areWell_40 : decode cX10_areWell 40 = .ok (.iconst 0, 1) := by decide +kernel
theorem dX10_areWell_41 : decode cX10_areWell 41 = .ok (.ireturn, 1) := by decide +kernel
def fX10_areWell (t_touches_ : Nat → Int32) (p1 : Int32) (p2 : Int32) : Option (Int32) :=
(if p1 = 0 then
(some ((1 : Int32)))
else
(if p2 = 0 then
(some ((1 : Int32)))
else
(if p1 = ((9 : Int32)) then
(some ((1 : Int32)))
else
(if p2 = ((9 : Int32)) then
(some ((1 : Int32)))
else
(if ((((16 : Int32)) + (((4 : Int32)) * p1)) + p2) < 0 ∨ 32 ≤ ((((16 : Int32)) + (((4 : Int32)) * p1)) + p2).toNatClampNeg then none else
(if (t_touches_ ((((16 : Int32)) + (((4 : Int32)) * p1)) + p2).toNatClampNeg) = 0 then
(some ((0 : Int32)))
else
(some ((1 : Int32)))))))))
def oX10_areWell (D : jv_D) (h_t : Nat) (h_t_text : Nat) (h_t_told : Nat) (h_t_touches : Nat) (h_t_has : Nat) (h_t_old : Nat) (h_t_beside : Nat) (h_t_slot : Nat) (h_t_row : Nat) (h_t_free : Nat) (h_t_worth : Nat) (h_t_fore : Nat) (h_t_back : Nat) (h_t_got : Nat) (t_length : Int32) (t_at : Int32) (t_stones : Int32) (t_kept : Int32) (t_done : Int32) (t_rows : Int32) (t_frees : Int32) (t_fewest : Int32) (t_touches_ : Nat → Int32) (r : Int32) : va_W := [(h_t, .inr (8, [.int t_length, .ref h_t_text, .int t_at, .ref h_t_told, .ref h_t_touches, .ref h_t_has, .ref h_t_old, .ref h_t_beside, .int t_stones, .ref h_t_slot, .int t_kept, .int t_done, .int t_rows, .ref h_t_row, .ref h_t_free, .int t_frees, .ref h_t_worth, .ref h_t_fore, .ref h_t_back, .int t_fewest, .ref h_t_got])), (h_t_touches, jZ D 32 t_touches_)]
set_option maxHeartbeats 40000000 in
set_option maxRecDepth 100000 in
theorem mX10_areWell (l : Launch) (D : jv_D) (h_t : Nat) (h_t_text : Nat) (h_t_told : Nat) (h_t_touches : Nat) (h_t_has : Nat) (h_t_old : Nat) (h_t_beside : Nat) (h_t_slot : Nat) (h_t_row : Nat) (h_t_free : Nat) (h_t_worth : Nat) (h_t_fore : Nat) (h_t_back : Nat) (h_t_got : Nat) (t_length : Int32) (t_at : Int32) (t_stones : Int32) (t_kept : Int32) (t_done : Int32) (t_rows : Int32) (t_frees : Int32) (t_fewest : Int32) (t_touches_ : Nat → Int32) (p1 : Int32) (p2 : Int32) (r : Int32) (h : fX10_areWell t_touches_ p1 p2 = some r) : MM l yX10_areWell (jW yX10_areWell cX10_areWell 3 (some .boolean)) ({ frames := 0, cells := 0, slots := 0, locals := 0 }) D [.ref h_t, .int p1, .int p2] [(h_t, .inr (8, [.int t_length, .ref h_t_text, .int t_at, .ref h_t_told, .ref h_t_touches, .ref h_t_has, .ref h_t_old, .ref h_t_beside, .int t_stones, .ref h_t_slot, .int t_kept, .int t_done, .int t_rows, .ref h_t_row, .ref h_t_free, .int t_frees, .ref h_t_worth, .ref h_t_fore, .ref h_t_back, .int t_fewest, .ref h_t_got])), (h_t_touches, jZ D 32 t_touches_)] (some (.int r)) (oX10_areWell D h_t h_t_text h_t_told h_t_touches h_t_has h_t_old h_t_beside h_t_slot h_t_row h_t_free h_t_worth h_t_fore h_t_back h_t_got t_length t_at t_stones t_kept t_done t_rows t_frees t_fewest t_touches_ r) := by
  refine mn_of hpX10_areWell (Nat.le_of_ble_eq_true rfl) ?_
  intro X hXl C E0 hN
  subst hXl
  replace C : JC D X 3 RX10 cX10_areWell ({ frames := 0, cells := 0, slots := 0, locals := 0 }) := C
  have E : JE D X 0 0 (some .boolean) (fun _ : Unit => (some (.int r))) (fun _ : Unit => (oX10_areWell D h_t h_t_text h_t_told h_t_touches h_t_has h_t_old h_t_beside h_t_slot h_t_row h_t_free h_t_worth h_t_fore h_t_back h_t_got t_length t_at t_stones t_kept t_done t_rows t_frees t_fewest t_touches_ r)) := E0 0 0 rfl rfl
  clear E0 hN
  show JJ D X 3 0 0 0 [(0, .ref h_t), (1, .int p1), (2, .int p2)] [] [(h_t, .inr (8, [.int t_length, .ref h_t_text, .int t_at, .ref h_t_told, .ref h_t_touches, .ref h_t_has, .ref h_t_old, .ref h_t_beside, .int t_stones, .ref h_t_slot, .int t_kept, .int t_done, .int t_rows, .ref h_t_row, .ref h_t_free, .int t_frees, .ref h_t_worth, .ref h_t_fore, .ref h_t_back, .int t_fewest, .ref h_t_got])), (h_t_touches, jZ D 32 t_touches_)]
  unfold fX10_areWell at h
  refine j_iload_n C dX10_areWell_0 rfl 1 rfl ?_
  refine j_if_eq C (tgt := 36) dX10_areWell_1 (by decide) h (fun c1 h => ?_) (fun c1 h => ?_)
  · refine j_iconst C dX10_areWell_36 (v := (1 : Int32)) (by decide) ?_
    refine j_goto C dX10_areWell_37 (tgt := 41) (by decide) ?_
    exact j_zretR C (r := r) (rtf := fun r => (some (.int r))) (wff := fun r => (oX10_areWell D h_t h_t_text h_t_told h_t_touches h_t_has h_t_old h_t_beside h_t_slot h_t_row h_t_free h_t_worth h_t_fore h_t_back h_t_got t_length t_at t_stones t_kept t_done t_rows t_frees t_fewest t_touches_ r)) E rfl h rfl rfl dX10_areWell_41
  · refine j_iload_n C dX10_areWell_4 rfl 2 rfl ?_
    refine j_if_eq C (tgt := 36) dX10_areWell_5 (by decide) h (fun c2 h => ?_) (fun c2 h => ?_)
    · refine j_iconst C dX10_areWell_36 (v := (1 : Int32)) (by decide) ?_
      refine j_goto C dX10_areWell_37 (tgt := 41) (by decide) ?_
      exact j_zretR C (r := r) (rtf := fun r => (some (.int r))) (wff := fun r => (oX10_areWell D h_t h_t_text h_t_told h_t_touches h_t_has h_t_old h_t_beside h_t_slot h_t_row h_t_free h_t_worth h_t_fore h_t_back h_t_got t_length t_at t_stones t_kept t_done t_rows t_frees t_fewest t_touches_ r)) E rfl h rfl rfl dX10_areWell_41
    · refine j_iload_n C dX10_areWell_8 rfl 1 rfl ?_
      refine j_bipush C dX10_areWell_9 (v := (9 : Int32)) (by decide) ?_
      refine j_icmp_eq C (tgt := 36) dX10_areWell_11 (by decide) h (fun c3 h => ?_) (fun c3 h => ?_)
      · refine j_iconst C dX10_areWell_36 (v := (1 : Int32)) (by decide) ?_
        refine j_goto C dX10_areWell_37 (tgt := 41) (by decide) ?_
        exact j_zretR C (r := r) (rtf := fun r => (some (.int r))) (wff := fun r => (oX10_areWell D h_t h_t_text h_t_told h_t_touches h_t_has h_t_old h_t_beside h_t_slot h_t_row h_t_free h_t_worth h_t_fore h_t_back h_t_got t_length t_at t_stones t_kept t_done t_rows t_frees t_fewest t_touches_ r)) E rfl h rfl rfl dX10_areWell_41
      · refine j_iload_n C dX10_areWell_14 rfl 2 rfl ?_
        refine j_bipush C dX10_areWell_15 (v := (9 : Int32)) (by decide) ?_
        refine j_icmp_eq C (tgt := 36) dX10_areWell_17 (by decide) h (fun c4 h => ?_) (fun c4 h => ?_)
        · refine j_iconst C dX10_areWell_36 (v := (1 : Int32)) (by decide) ?_
          refine j_goto C dX10_areWell_37 (tgt := 41) (by decide) ?_
          exact j_zretR C (r := r) (rtf := fun r => (some (.int r))) (wff := fun r => (oX10_areWell D h_t h_t_text h_t_told h_t_touches h_t_has h_t_old h_t_beside h_t_slot h_t_row h_t_free h_t_worth h_t_fore h_t_back h_t_got t_length t_at t_stones t_kept t_done t_rows t_frees t_fewest t_touches_ r)) E rfl h rfl rfl dX10_areWell_41
        · refine j_aload_n C dX10_areWell_20 rfl 0 rfl ?_
          refine j_get C ibX10 (ci := 8) 0 rfl rfl 4 (by decide) bfX10_17 (v := .ref h_t_touches) rfl dX10_areWell_21 ?_
          refine j_bipush C dX10_areWell_24 (v := (16 : Int32)) (by decide) ?_
          refine j_iconst C dX10_areWell_26 (v := (4 : Int32)) (by decide) ?_
          refine j_iload_n C dX10_areWell_27 rfl 1 rfl ?_
          refine j_imul C dX10_areWell_28 ?_
          refine j_iadd C dX10_areWell_29 ?_
          refine j_iload_n C dX10_areWell_30 rfl 2 rfl ?_
          refine j_iadd C dX10_areWell_31 ?_
          refine jl_inb h (fun b5 h => ?_)
          refine j_zald C 1 rfl b5 dX10_areWell_32 ?_
          refine j_if_eq C (tgt := 40) dX10_areWell_33 (by decide) h (fun c6 h => ?_) (fun c6 h => ?_)
          · refine j_iconst C dX10_areWell_40 (v := (0 : Int32)) (by decide) ?_
            exact j_zretR C (r := r) (rtf := fun r => (some (.int r))) (wff := fun r => (oX10_areWell D h_t h_t_text h_t_told h_t_touches h_t_has h_t_old h_t_beside h_t_slot h_t_row h_t_free h_t_worth h_t_fore h_t_back h_t_got t_length t_at t_stones t_kept t_done t_rows t_frees t_fewest t_touches_ r)) E rfl h rfl rfl dX10_areWell_41
          · refine j_iconst C dX10_areWell_36 (v := (1 : Int32)) (by decide) ?_
            refine j_goto C dX10_areWell_37 (tgt := 41) (by decide) ?_
            exact j_zretR C (r := r) (rtf := fun r => (some (.int r))) (wff := fun r => (oX10_areWell D h_t h_t_text h_t_told h_t_touches h_t_has h_t_old h_t_beside h_t_slot h_t_row h_t_free h_t_worth h_t_fore h_t_back h_t_got t_length t_at t_stones t_kept t_done t_rows t_frees t_fewest t_touches_ r)) E rfl h rfl rfl dX10_areWell_41
theorem dX10_isSound_0 : decode cX10_isSound 0 = .ok (.aload_n 0, 1) := by decide +kernel
theorem dX10_isSound_1 : decode cX10_isSound 1 = .ok (.getfield 13, 3) := by decide +kernel
theorem dX10_isSound_4 : decode cX10_isSound 4 = .ok (.iconst 5, 1) := by decide +kernel
theorem dX10_isSound_5 : decode cX10_isSound 5 = .ok (.iaload, 1) := by decide +kernel
theorem dX10_isSound_6 : decode cX10_isSound 6 = .ok (.istore_n 1, 1) := by decide +kernel
theorem dX10_isSound_7 : decode cX10_isSound 7 = .ok (.iconst 1, 1) := by decide +kernel
theorem dX10_isSound_8 : decode cX10_isSound 8 = .ok (.istore_n 2, 1) := by decide +kernel
theorem dX10_isSound_9 : decode cX10_isSound 9 = .ok (.iconst 0, 1) := by decide +kernel
theorem dX10_isSound_10 : decode cX10_isSound 10 = .ok (.istore_n 3, 1) := by decide +kernel
theorem dX10_isSound_11 : decode cX10_isSound 11 = .ok (.iload_n 3, 1) := by decide +kernel
theorem dX10_isSound_12 : decode cX10_isSound 12 = .ok (.aload_n 0, 1) := by decide +kernel
theorem dX10_isSound_13 : decode cX10_isSound 13 = .ok (.getfield 13, 3) := by decide +kernel
theorem dX10_isSound_16 : decode cX10_isSound 16 = .ok (.iconst 4, 1) := by decide +kernel
theorem dX10_isSound_17 : decode cX10_isSound 17 = .ok (.iaload, 1) := by decide +kernel
theorem dX10_isSound_18 : decode cX10_isSound 18 = .ok (.iload_n 1, 1) := by decide +kernel
theorem dX10_isSound_19 : decode cX10_isSound 19 = .ok (.imul, 1) := by decide +kernel
theorem dX10_isSound_20 : decode cX10_isSound 20 = .ok (.if_icmp .ge 118, 3) := by decide +kernel
theorem dX10_isSound_23 : decode cX10_isSound 23 = .ok (.iload_n 3, 1) := by decide +kernel
theorem dX10_isSound_24 : decode cX10_isSound 24 = .ok (.iload_n 1, 1) := by decide +kernel
theorem dX10_isSound_25 : decode cX10_isSound 25 = .ok (.irem, 1) := by decide +kernel
theorem dX10_isSound_26 : decode cX10_isSound 26 = .ok (.iconst 1, 1) := by decide +kernel
theorem dX10_isSound_27 : decode cX10_isSound 27 = .ok (.iadd, 1) := by decide +kernel
theorem dX10_isSound_28 : decode cX10_isSound 28 = .ok (.iload_n 1, 1) := by decide +kernel
theorem dX10_isSound_29 : decode cX10_isSound 29 = .ok (.if_icmp .ge 7, 3) := by decide +kernel
theorem dX10_isSound_32 : decode cX10_isSound 32 = .ok (.iconst 1, 1) := by decide +kernel
theorem dX10_isSound_33 : decode cX10_isSound 33 = .ok (.goto 4, 3) := by decide +kernel
theorem dX10_isSound_36 : decode cX10_isSound 36 = .ok (.iconst 0, 1) := by decide +kernel
theorem dX10_isSound_37 : decode cX10_isSound 37 = .ok (.istore 4, 2) := by decide +kernel
theorem dX10_isSound_39 : decode cX10_isSound 39 = .ok (.iload_n 3, 1) := by decide +kernel
theorem dX10_isSound_40 : decode cX10_isSound 40 = .ok (.iload_n 1, 1) := by decide +kernel
theorem dX10_isSound_41 : decode cX10_isSound 41 = .ok (.iadd, 1) := by decide +kernel
theorem dX10_isSound_42 : decode cX10_isSound 42 = .ok (.aload_n 0, 1) := by decide +kernel
theorem dX10_isSound_43 : decode cX10_isSound 43 = .ok (.getfield 13, 3) := by decide +kernel
theorem dX10_isSound_46 : decode cX10_isSound 46 = .ok (.iconst 4, 1) := by decide +kernel
theorem dX10_isSound_47 : decode cX10_isSound 47 = .ok (.iaload, 1) := by decide +kernel
theorem dX10_isSound_48 : decode cX10_isSound 48 = .ok (.iload_n 1, 1) := by decide +kernel
theorem dX10_isSound_49 : decode cX10_isSound 49 = .ok (.imul, 1) := by decide +kernel
theorem dX10_isSound_50 : decode cX10_isSound 50 = .ok (.if_icmp .ge 7, 3) := by decide +kernel
theorem dX10_isSound_53 : decode cX10_isSound 53 = .ok (.iconst 1, 1) := by decide +kernel
theorem dX10_isSound_54 : decode cX10_isSound 54 = .ok (.goto 4, 3) := by decide +kernel
theorem dX10_isSound_57 : decode cX10_isSound 57 = .ok (.iconst 0, 1) := by decide +kernel
theorem dX10_isSound_58 : decode cX10_isSound 58 = .ok (.istore 5, 2) := by decide +kernel
theorem dX10_isSound_60 : decode cX10_isSound 60 = .ok (.iload_n 2, 1) := by decide +kernel
theorem dX10_isSound_61 : decode cX10_isSound 61 = .ok (.ifCond .eq 69, 3) := by decide +kernel
theorem dX10_isSound_64 : decode cX10_isSound 64 = .ok (.iload 4, 2) := by decide +kernel
theorem dX10_isSound_66 : decode cX10_isSound 66 = .ok (.ifCond .eq 28, 3) := by decide +kernel
theorem dX10_isSound_69 : decode cX10_isSound 69 = .ok (.aload_n 0, 1) := by decide +kernel
theorem dX10_isSound_70 : decode cX10_isSound 70 = .ok (.aload_n 0, 1) := by decide +kernel
theorem dX10_isSound_71 : decode cX10_isSound 71 = .ok (.getfield 24, 3) := by decide +kernel
theorem dX10_isSound_74 : decode cX10_isSound 74 = .ok (.bipush 9, 2) := by decide +kernel
theorem dX10_isSound_76 : decode cX10_isSound 76 = .ok (.iload_n 3, 1) := by decide +kernel
theorem dX10_isSound_77 : decode cX10_isSound 77 = .ok (.iadd, 1) := by decide +kernel
theorem dX10_isSound_78 : decode cX10_isSound 78 = .ok (.iaload, 1) := by decide +kernel
theorem dX10_isSound_79 : decode cX10_isSound 79 = .ok (.aload_n 0, 1) := by decide +kernel
theorem dX10_isSound_80 : decode cX10_isSound 80 = .ok (.getfield 24, 3) := by decide +kernel
theorem dX10_isSound_83 : decode cX10_isSound 83 = .ok (.bipush 10, 2) := by decide +kernel
theorem dX10_isSound_85 : decode cX10_isSound 85 = .ok (.iload_n 3, 1) := by decide +kernel
theorem dX10_isSound_86 : decode cX10_isSound 86 = .ok (.iadd, 1) := by decide +kernel
theorem dX10_isSound_87 : decode cX10_isSound 87 = .ok (.iaload, 1) := by decide +kernel
theorem dX10_isSound_88 : decode cX10_isSound 88 = .ok (.invokevirtual 107, 3) := by decide +kernel
theorem dX10_isSound_91 : decode cX10_isSound 91 = .ok (.ifCond .eq 39, 3) := by decide +kernel
theorem dX10_isSound_94 : decode cX10_isSound 94 = .ok (.iload 5, 2) := by decide +kernel
theorem dX10_isSound_96 : decode cX10_isSound 96 = .ok (.ifCond .eq 30, 3) := by decide +kernel
theorem dX10_isSound_99 : decode cX10_isSound 99 = .ok (.aload_n 0, 1) := by decide +kernel
theorem dX10_isSound_100 : decode cX10_isSound 100 = .ok (.aload_n 0, 1) := by decide +kernel
theorem dX10_isSound_101 : decode cX10_isSound 101 = .ok (.getfield 24, 3) := by decide +kernel
theorem dX10_isSound_104 : decode cX10_isSound 104 = .ok (.bipush 9, 2) := by decide +kernel
theorem dX10_isSound_106 : decode cX10_isSound 106 = .ok (.iload_n 3, 1) := by decide +kernel
theorem dX10_isSound_107 : decode cX10_isSound 107 = .ok (.iadd, 1) := by decide +kernel
theorem dX10_isSound_108 : decode cX10_isSound 108 = .ok (.iaload, 1) := by decide +kernel
theorem dX10_isSound_109 : decode cX10_isSound 109 = .ok (.aload_n 0, 1) := by decide +kernel
theorem dX10_isSound_110 : decode cX10_isSound 110 = .ok (.getfield 24, 3) := by decide +kernel
theorem dX10_isSound_113 : decode cX10_isSound 113 = .ok (.bipush 9, 2) := by decide +kernel
theorem dX10_isSound_115 : decode cX10_isSound 115 = .ok (.iload_n 3, 1) := by decide +kernel
theorem dX10_isSound_116 : decode cX10_isSound 116 = .ok (.iadd, 1) := by decide +kernel
theorem dX10_isSound_117 : decode cX10_isSound 117 = .ok (.iload_n 1, 1) := by decide +kernel
theorem dX10_isSound_118 : decode cX10_isSound 118 = .ok (.iadd, 1) := by decide +kernel
theorem dX10_isSound_119 : decode cX10_isSound 119 = .ok (.iaload, 1) := by decide +kernel
theorem dX10_isSound_120 : decode cX10_isSound 120 = .ok (.invokevirtual 107, 3) := by decide +kernel
theorem dX10_isSound_123 : decode cX10_isSound 123 = .ok (.ifCond .eq 7, 3) := by decide +kernel
theorem dX10_isSound_126 : decode cX10_isSound 126 = .ok (.iconst 1, 1) := by decide +kernel
theorem dX10_isSound_127 : decode cX10_isSound 127 = .ok (.goto 4, 3) := by decide +kernel
theorem dX10_isSound_130 : decode cX10_isSound 130 = .ok (.iconst 0, 1) := by decide +kernel
theorem dX10_isSound_131 : decode cX10_isSound 131 = .ok (.istore_n 2, 1) := by decide +kernel
theorem dX10_isSound_132 : decode cX10_isSound 132 = .ok (.iinc 3 1, 3) := by decide +kernel
theorem dX10_isSound_135 : decode cX10_isSound 135 = .ok (.goto (-124), 3) := by decide +kernel
theorem dX10_isSound_138 : decode cX10_isSound 138 = .ok (.iload_n 2, 1) := by decide +kernel
theorem dX10_isSound_139 : decode cX10_isSound 139 = .ok (.ireturn, 1) := by decide +kernel
def fX10_isSound_131 (F : Nat) (t_told_ : Nat → Int32) (t_touches_ : Nat → Int32) (t_old_ : Nat → Int32) (k11 : Int32 → Int32 → Int32 → Option (Int32)) (x31 : Int32) (x32 : Int32) (s33 : Int32) : Option (Int32) :=
(jl_let (x32 + Int32.ofInt (1)) fun v42 =>
(k11 x31 s33 v42))
def fX10_isSound_130 (F : Nat) (t_told_ : Nat → Int32) (t_touches_ : Nat → Int32) (t_old_ : Nat → Int32) (k11 : Int32 → Int32 → Int32 → Option (Int32)) (x20 : Int32) (x21 : Int32) : Option (Int32) :=
(fX10_isSound_131 F t_told_ t_touches_ t_old_ k11 x20 x21 ((0 : Int32)))
def fX10_isSound_126 (F : Nat) (t_told_ : Nat → Int32) (t_touches_ : Nat → Int32) (t_old_ : Nat → Int32) (k11 : Int32 → Int32 → Int32 → Option (Int32)) (x35 : Int32) (x36 : Int32) : Option (Int32) :=
(fX10_isSound_131 F t_told_ t_touches_ t_old_ k11 x35 x36 ((1 : Int32)))
def fX10_isSound_94 (F : Nat) (t_told_ : Nat → Int32) (t_touches_ : Nat → Int32) (t_old_ : Nat → Int32) (k11 : Int32 → Int32 → Int32 → Option (Int32)) (x23 : Int32) (x24 : Int32) (x25 : Int32) : Option (Int32) :=
(if x25 = 0 then
(fX10_isSound_126 F t_told_ t_touches_ t_old_ k11 x23 x24)
else
(if (((9 : Int32)) + x24) < 0 ∨ 18 ≤ (((9 : Int32)) + x24).toNatClampNeg then none else
(if ((((9 : Int32)) + x24) + x23) < 0 ∨ 18 ≤ ((((9 : Int32)) + x24) + x23).toNatClampNeg then none else
((fX10_areWell t_touches_ (t_old_ (((9 : Int32)) + x24).toNatClampNeg) (t_old_ ((((9 : Int32)) + x24) + x23).toNatClampNeg)).bind fun r39 =>
(if r39 = 0 then
(fX10_isSound_130 F t_told_ t_touches_ t_old_ k11 x23 x24)
else
(fX10_isSound_126 F t_told_ t_touches_ t_old_ k11 x23 x24))))))
def fX10_isSound_58 (F : Nat) (t_told_ : Nat → Int32) (t_touches_ : Nat → Int32) (t_old_ : Nat → Int32) (k11 : Int32 → Int32 → Int32 → Option (Int32)) (x14 : Int32) (x15 : Int32) (x16 : Int32) (x17 : Int32) (s18 : Int32) : Option (Int32) :=
(if x15 = 0 then
(fX10_isSound_130 F t_told_ t_touches_ t_old_ k11 x14 x16)
else
(if x17 = 0 then
(fX10_isSound_94 F t_told_ t_touches_ t_old_ k11 x14 x16 s18)
else
(if (((9 : Int32)) + x16) < 0 ∨ 18 ≤ (((9 : Int32)) + x16).toNatClampNeg then none else
(if (((10 : Int32)) + x16) < 0 ∨ 18 ≤ (((10 : Int32)) + x16).toNatClampNeg then none else
((fX10_areWell t_touches_ (t_old_ (((9 : Int32)) + x16).toNatClampNeg) (t_old_ (((10 : Int32)) + x16).toNatClampNeg)).bind fun r28 =>
(if r28 = 0 then
(fX10_isSound_130 F t_told_ t_touches_ t_old_ k11 x14 x16)
else
(fX10_isSound_94 F t_told_ t_touches_ t_old_ k11 x14 x16 s18)))))))
def fX10_isSound_37 (F : Nat) (t_told_ : Nat → Int32) (t_touches_ : Nat → Int32) (t_old_ : Nat → Int32) (k11 : Int32 → Int32 → Int32 → Option (Int32)) (x9 : Int32) (x10 : Int32) (x11 : Int32) (s12 : Int32) : Option (Int32) :=
(if ((t_told_ ((4 : Int32)).toNatClampNeg) * x9) ≤ (x11 + x9) then
(fX10_isSound_58 F t_told_ t_touches_ t_old_ k11 x9 x10 x11 s12 ((0 : Int32)))
else
(fX10_isSound_58 F t_told_ t_touches_ t_old_ k11 x9 x10 x11 s12 ((1 : Int32))))
def bX10_isSound_11 (F : Nat) (t_told_ : Nat → Int32) (t_touches_ : Nat → Int32) (t_old_ : Nat → Int32)  (k11 : Int32 → Int32 → Int32 → Option (Int32)) (x2 : Int32) (x3 : Int32) (x4 : Int32) : Option (Int32) :=
(if ((t_told_ ((4 : Int32)).toNatClampNeg) * x2) ≤ x4 then
(if x3 = 0 ∨ x3 = 1 then (some (x3)) else none)
else
(if x2 = 0 then none else
(if x2 ≤ ((x4 - x4 / x2 * x2) + ((1 : Int32))) then
(fX10_isSound_37 F t_told_ t_touches_ t_old_ k11 x2 x3 x4 ((0 : Int32)))
else
(fX10_isSound_37 F t_told_ t_touches_ t_old_ k11 x2 x3 x4 ((1 : Int32))))))
def lX10_isSound_11 (F : Nat) (t_told_ : Nat → Int32) (t_touches_ : Nat → Int32) (t_old_ : Nat → Int32)  (F2 : Nat) (x2 : Int32) (x3 : Int32) (x4 : Int32) : Option (Int32) := jl_loop3 (bX10_isSound_11 F t_told_ t_touches_ t_old_ ) F2 x2 x3 x4
def fX10_isSound (F : Nat) (t_told_ : Nat → Int32) (t_touches_ : Nat → Int32) (t_old_ : Nat → Int32) : Option (Int32) :=
(jl_let (t_told_ ((5 : Int32)).toNatClampNeg) fun v1 =>
(lX10_isSound_11 F t_told_ t_touches_ t_old_ F v1 ((1 : Int32)) ((0 : Int32))))
def oX10_isSound (D : jv_D) (h_t : Nat) (h_t_text : Nat) (h_t_told : Nat) (h_t_touches : Nat) (h_t_has : Nat) (h_t_old : Nat) (h_t_beside : Nat) (h_t_slot : Nat) (h_t_row : Nat) (h_t_free : Nat) (h_t_worth : Nat) (h_t_fore : Nat) (h_t_back : Nat) (h_t_got : Nat) (t_length : Int32) (t_at : Int32) (t_stones : Int32) (t_kept : Int32) (t_done : Int32) (t_rows : Int32) (t_frees : Int32) (t_fewest : Int32) (t_told_ : Nat → Int32) (t_touches_ : Nat → Int32) (t_old_ : Nat → Int32) (r : Int32) : va_W := [(h_t, .inr (8, [.int t_length, .ref h_t_text, .int t_at, .ref h_t_told, .ref h_t_touches, .ref h_t_has, .ref h_t_old, .ref h_t_beside, .int t_stones, .ref h_t_slot, .int t_kept, .int t_done, .int t_rows, .ref h_t_row, .ref h_t_free, .int t_frees, .ref h_t_worth, .ref h_t_fore, .ref h_t_back, .int t_fewest, .ref h_t_got])), (h_t_told, jI D 8 t_told_), (h_t_touches, jZ D 32 t_touches_), (h_t_old, jI D 18 t_old_)]
set_option maxHeartbeats 40000000 in
set_option maxRecDepth 100000 in
theorem mX10_isSound (l : Launch) (D : jv_D) (F : Nat) (h_t : Nat) (h_t_text : Nat) (h_t_told : Nat) (h_t_touches : Nat) (h_t_has : Nat) (h_t_old : Nat) (h_t_beside : Nat) (h_t_slot : Nat) (h_t_row : Nat) (h_t_free : Nat) (h_t_worth : Nat) (h_t_fore : Nat) (h_t_back : Nat) (h_t_got : Nat) (t_length : Int32) (t_at : Int32) (t_stones : Int32) (t_kept : Int32) (t_done : Int32) (t_rows : Int32) (t_frees : Int32) (t_fewest : Int32) (t_told_ : Nat → Int32) (t_touches_ : Nat → Int32) (t_old_ : Nat → Int32) (r : Int32) (h : fX10_isSound F t_told_ t_touches_ t_old_ = some r) : MM l yX10_isSound (jW yX10_isSound cX10_isSound 6 (some .boolean)) ({ frames := 1, cells := 0, slots := 0, locals := 22 }) D [.ref h_t] [(h_t, .inr (8, [.int t_length, .ref h_t_text, .int t_at, .ref h_t_told, .ref h_t_touches, .ref h_t_has, .ref h_t_old, .ref h_t_beside, .int t_stones, .ref h_t_slot, .int t_kept, .int t_done, .int t_rows, .ref h_t_row, .ref h_t_free, .int t_frees, .ref h_t_worth, .ref h_t_fore, .ref h_t_back, .int t_fewest, .ref h_t_got])), (h_t_told, jI D 8 t_told_), (h_t_touches, jZ D 32 t_touches_), (h_t_old, jI D 18 t_old_)] (some (.int r)) (oX10_isSound D h_t h_t_text h_t_told h_t_touches h_t_has h_t_old h_t_beside h_t_slot h_t_row h_t_free h_t_worth h_t_fore h_t_back h_t_got t_length t_at t_stones t_kept t_done t_rows t_frees t_fewest t_told_ t_touches_ t_old_ r) := by
  refine mn_of hpX10_isSound (Nat.le_of_ble_eq_true rfl) ?_
  intro X hXl C E0 hN
  subst hXl
  replace C : JC D X 6 RX10 cX10_isSound ({ frames := 1, cells := 0, slots := 0, locals := 22 }) := C
  have E : JE D X 0 0 (some .boolean) (fun _ : Unit => (some (.int r))) (fun _ : Unit => (oX10_isSound D h_t h_t_text h_t_told h_t_touches h_t_has h_t_old h_t_beside h_t_slot h_t_row h_t_free h_t_worth h_t_fore h_t_back h_t_got t_length t_at t_stones t_kept t_done t_rows t_frees t_fewest t_told_ t_touches_ t_old_ r)) := E0 0 0 rfl rfl
  clear E0 hN
  show JJ D X 6 0 0 0 [(0, .ref h_t)] [] [(h_t, .inr (8, [.int t_length, .ref h_t_text, .int t_at, .ref h_t_told, .ref h_t_touches, .ref h_t_has, .ref h_t_old, .ref h_t_beside, .int t_stones, .ref h_t_slot, .int t_kept, .int t_done, .int t_rows, .ref h_t_row, .ref h_t_free, .int t_frees, .ref h_t_worth, .ref h_t_fore, .ref h_t_back, .int t_fewest, .ref h_t_got])), (h_t_told, jI D 8 t_told_), (h_t_touches, jZ D 32 t_touches_), (h_t_old, jI D 18 t_old_)]
  unfold fX10_isSound at h
  have L11 : ∀ (x2 : Int32) (x3 : Int32) (x4 : Int32), lX10_isSound_11 F t_told_ t_touches_ t_old_  F x2 x3 x4 = some r → JJ D X 6 0 0 11 [(0, .ref h_t), (1, .int x2), (2, .int x3), (3, .int x4)] [] [(h_t, .inr (8, [.int t_length, .ref h_t_text, .int t_at, .ref h_t_told, .ref h_t_touches, .ref h_t_has, .ref h_t_old, .ref h_t_beside, .int t_stones, .ref h_t_slot, .int t_kept, .int t_done, .int t_rows, .ref h_t_row, .ref h_t_free, .int t_frees, .ref h_t_worth, .ref h_t_fore, .ref h_t_back, .int t_fewest, .ref h_t_got])), (h_t_told, jI D 8 t_told_), (h_t_touches, jZ D 32 t_touches_), (h_t_old, jI D 18 t_old_)] := by
    intro x2 x3 x4 h
    refine jl_ind3 (fun x2 x3 x4 => JJ D X 6 0 0 11 [(0, .ref h_t), (1, .int x2), (2, .int x3), (3, .int x4)] [] [(h_t, .inr (8, [.int t_length, .ref h_t_text, .int t_at, .ref h_t_told, .ref h_t_touches, .ref h_t_has, .ref h_t_old, .ref h_t_beside, .int t_stones, .ref h_t_slot, .int t_kept, .int t_done, .int t_rows, .ref h_t_row, .ref h_t_free, .int t_frees, .ref h_t_worth, .ref h_t_fore, .ref h_t_back, .int t_fewest, .ref h_t_got])), (h_t_told, jI D 8 t_told_), (h_t_touches, jZ D 32 t_touches_), (h_t_old, jI D 18 t_old_)]) ?_ F x2 x3 x4 h
    clear h x2 x3 x4
    intro k11 i11 x2 x3 x4 h
    replace i11 : ∀ (x2 : Int32) (x3 : Int32) (x4 : Int32), k11 x2 x3 x4 = some r → JJ D X 6 0 0 11 [(0, .ref h_t), (1, .int x2), (2, .int x3), (3, .int x4)] [] [(h_t, .inr (8, [.int t_length, .ref h_t_text, .int t_at, .ref h_t_told, .ref h_t_touches, .ref h_t_has, .ref h_t_old, .ref h_t_beside, .int t_stones, .ref h_t_slot, .int t_kept, .int t_done, .int t_rows, .ref h_t_row, .ref h_t_free, .int t_frees, .ref h_t_worth, .ref h_t_fore, .ref h_t_back, .int t_fewest, .ref h_t_got])), (h_t_told, jI D 8 t_told_), (h_t_touches, jZ D 32 t_touches_), (h_t_old, jI D 18 t_old_)] := i11
    show JJ D X 6 0 0 11 [(0, .ref h_t), (1, .int x2), (2, .int x3), (3, .int x4)] [] [(h_t, .inr (8, [.int t_length, .ref h_t_text, .int t_at, .ref h_t_told, .ref h_t_touches, .ref h_t_has, .ref h_t_old, .ref h_t_beside, .int t_stones, .ref h_t_slot, .int t_kept, .int t_done, .int t_rows, .ref h_t_row, .ref h_t_free, .int t_frees, .ref h_t_worth, .ref h_t_fore, .ref h_t_back, .int t_fewest, .ref h_t_got])), (h_t_told, jI D 8 t_told_), (h_t_touches, jZ D 32 t_touches_), (h_t_old, jI D 18 t_old_)]
    unfold bX10_isSound_11 at h
    have L131 : ∀ (x31 : Int32) (x32 : Int32) (s33 : Int32), fX10_isSound_131 F t_told_ t_touches_ t_old_ k11 x31 x32 s33 = some r → JJ D X 6 0 0 131 [(0, .ref h_t), (1, .int x31), (3, .int x32)] [.int s33] [(h_t, .inr (8, [.int t_length, .ref h_t_text, .int t_at, .ref h_t_told, .ref h_t_touches, .ref h_t_has, .ref h_t_old, .ref h_t_beside, .int t_stones, .ref h_t_slot, .int t_kept, .int t_done, .int t_rows, .ref h_t_row, .ref h_t_free, .int t_frees, .ref h_t_worth, .ref h_t_fore, .ref h_t_back, .int t_fewest, .ref h_t_got])), (h_t_told, jI D 8 t_told_), (h_t_touches, jZ D 32 t_touches_), (h_t_old, jI D 18 t_old_)] := by
      intro x31 x32 s33 h
      unfold fX10_isSound_131 at h
      refine j_istore_nC C dX10_isSound_131 rfl (lv' := [(2, .int s33), (0, .ref h_t), (1, .int x31), (3, .int x32)]) (by decide) rfl ?_
      refine j_iinc C dX10_isSound_132 3 rfl (lv' := fun v42 => [(3, .int v42), (2, .int s33), (0, .ref h_t), (1, .int x31)]) (by decide) (fun _ => rfl) h (fun v42 h => ?_)
      refine j_goto C dX10_isSound_135 (tgt := 11) (by decide) ?_
      refine j_sub (lv' := [(0, .ref h_t), (1, .int x31), (2, .int s33), (3, .int v42)]) [2, 3, 1, 0] rfl ?_
      exact i11 x31 s33 v42 h
    have L130 : ∀ (x20 : Int32) (x21 : Int32), fX10_isSound_130 F t_told_ t_touches_ t_old_ k11 x20 x21 = some r → JJ D X 6 0 0 130 [(0, .ref h_t), (1, .int x20), (3, .int x21)] [] [(h_t, .inr (8, [.int t_length, .ref h_t_text, .int t_at, .ref h_t_told, .ref h_t_touches, .ref h_t_has, .ref h_t_old, .ref h_t_beside, .int t_stones, .ref h_t_slot, .int t_kept, .int t_done, .int t_rows, .ref h_t_row, .ref h_t_free, .int t_frees, .ref h_t_worth, .ref h_t_fore, .ref h_t_back, .int t_fewest, .ref h_t_got])), (h_t_told, jI D 8 t_told_), (h_t_touches, jZ D 32 t_touches_), (h_t_old, jI D 18 t_old_)] := by
      intro x20 x21 h
      unfold fX10_isSound_130 at h
      refine j_iconst C dX10_isSound_130 (v := (0 : Int32)) (by decide) ?_
      refine j_sub (lv' := [(0, .ref h_t), (1, .int x20), (3, .int x21)]) [0, 1, 2] rfl ?_
      exact L131 x20 x21 ((0 : Int32)) h
    have L126 : ∀ (x35 : Int32) (x36 : Int32), fX10_isSound_126 F t_told_ t_touches_ t_old_ k11 x35 x36 = some r → JJ D X 6 0 0 126 [(0, .ref h_t), (1, .int x35), (3, .int x36)] [] [(h_t, .inr (8, [.int t_length, .ref h_t_text, .int t_at, .ref h_t_told, .ref h_t_touches, .ref h_t_has, .ref h_t_old, .ref h_t_beside, .int t_stones, .ref h_t_slot, .int t_kept, .int t_done, .int t_rows, .ref h_t_row, .ref h_t_free, .int t_frees, .ref h_t_worth, .ref h_t_fore, .ref h_t_back, .int t_fewest, .ref h_t_got])), (h_t_told, jI D 8 t_told_), (h_t_touches, jZ D 32 t_touches_), (h_t_old, jI D 18 t_old_)] := by
      intro x35 x36 h
      unfold fX10_isSound_126 at h
      refine j_iconst C dX10_isSound_126 (v := (1 : Int32)) (by decide) ?_
      refine j_goto C dX10_isSound_127 (tgt := 131) (by decide) ?_
      refine j_sub (lv' := [(0, .ref h_t), (1, .int x35), (3, .int x36)]) [0, 1, 2] rfl ?_
      exact L131 x35 x36 ((1 : Int32)) h
    have L94 : ∀ (x23 : Int32) (x24 : Int32) (x25 : Int32), fX10_isSound_94 F t_told_ t_touches_ t_old_ k11 x23 x24 x25 = some r → JJ D X 6 0 0 94 [(0, .ref h_t), (1, .int x23), (3, .int x24), (5, .int x25)] [] [(h_t, .inr (8, [.int t_length, .ref h_t_text, .int t_at, .ref h_t_told, .ref h_t_touches, .ref h_t_has, .ref h_t_old, .ref h_t_beside, .int t_stones, .ref h_t_slot, .int t_kept, .int t_done, .int t_rows, .ref h_t_row, .ref h_t_free, .int t_frees, .ref h_t_worth, .ref h_t_fore, .ref h_t_back, .int t_fewest, .ref h_t_got])), (h_t_told, jI D 8 t_told_), (h_t_touches, jZ D 32 t_touches_), (h_t_old, jI D 18 t_old_)] := by
      intro x23 x24 x25 h
      unfold fX10_isSound_94 at h
      refine j_iload C dX10_isSound_94 3 rfl ?_
      refine j_if_eq C (tgt := 126) dX10_isSound_96 (by decide) h (fun c34 h => ?_) (fun c34 h => ?_)
      · refine j_sub (lv' := [(0, .ref h_t), (1, .int x23), (3, .int x24)]) [0, 1, 2] rfl ?_
        exact L126 x23 x24 h
      · refine j_aload_n C dX10_isSound_99 rfl 0 rfl ?_
        refine j_aload_n C dX10_isSound_100 rfl 0 rfl ?_
        refine j_get C ibX10 (ci := 8) 0 rfl rfl 6 (by decide) bfX10_24 (v := .ref h_t_old) rfl dX10_isSound_101 ?_
        refine j_bipush C dX10_isSound_104 (v := (9 : Int32)) (by decide) ?_
        refine j_iload_n C dX10_isSound_106 rfl 2 rfl ?_
        refine j_iadd C dX10_isSound_107 ?_
        refine jl_inb h (fun b37 h => ?_)
        refine j_iald C 3 rfl b37 dX10_isSound_108 ?_
        refine j_aload_n C dX10_isSound_109 rfl 0 rfl ?_
        refine j_get C ibX10 (ci := 8) 0 rfl rfl 6 (by decide) bfX10_24 (v := .ref h_t_old) rfl dX10_isSound_110 ?_
        refine j_bipush C dX10_isSound_113 (v := (9 : Int32)) (by decide) ?_
        refine j_iload_n C dX10_isSound_115 rfl 2 rfl ?_
        refine j_iadd C dX10_isSound_116 ?_
        refine j_iload_n C dX10_isSound_117 rfl 1 rfl ?_
        refine j_iadd C dX10_isSound_118 ?_
        refine jl_inb h (fun b38 h => ?_)
        refine j_iald C 3 rfl b38 dX10_isSound_119 ?_
        obtain ⟨r39, q40, h⟩ := jl_bind h
        refine j_cV1 C (mX10_areWell (jlaunch X) D h_t h_t_text h_t_told h_t_touches h_t_has h_t_old h_t_beside h_t_slot h_t_row h_t_free h_t_worth h_t_fore h_t_back h_t_got t_length t_at t_stones t_kept t_done t_rows t_frees t_fewest t_touches_ (t_old_ (((9 : Int32)) + x24).toNatClampNeg) (t_old_ ((((9 : Int32)) + x24) + x23).toNatClampNeg) r39 q40) bmX10_107 biX10_areWell bsX10_areWell bzX10 bcX10_areWell rfl hX10_areWell (rest := []) rfl (jroom_of rfl) 0 (ci := 8) rfl rfl rfl [0, 2] [1, 3] [2, 0, 3, 1] (wr := [(h_t_told, jI D 8 t_told_), (h_t_old, jI D 18 t_old_)]) (ws2 := [(h_t, .inr (8, [.int t_length, .ref h_t_text, .int t_at, .ref h_t_told, .ref h_t_touches, .ref h_t_has, .ref h_t_old, .ref h_t_beside, .int t_stones, .ref h_t_slot, .int t_kept, .int t_done, .int t_rows, .ref h_t_row, .ref h_t_free, .int t_frees, .ref h_t_worth, .ref h_t_fore, .ref h_t_back, .int t_fewest, .ref h_t_got])), (h_t_told, jI D 8 t_told_), (h_t_touches, jZ D 32 t_touches_), (h_t_old, jI D 18 t_old_)]) rfl rfl rfl rfl rfl (Nat.le_of_ble_eq_true rfl) dX10_isSound_120 ?_
        refine j_if_eq C (tgt := 130) dX10_isSound_123 (by decide) h (fun c41 h => ?_) (fun c41 h => ?_)
        · refine j_sub (lv' := [(0, .ref h_t), (1, .int x23), (3, .int x24)]) [0, 1, 2] rfl ?_
          exact L130 x23 x24 h
        · refine j_sub (lv' := [(0, .ref h_t), (1, .int x23), (3, .int x24)]) [0, 1, 2] rfl ?_
          exact L126 x23 x24 h
    have L58 : ∀ (x14 : Int32) (x15 : Int32) (x16 : Int32) (x17 : Int32) (s18 : Int32), fX10_isSound_58 F t_told_ t_touches_ t_old_ k11 x14 x15 x16 x17 s18 = some r → JJ D X 6 0 0 58 [(0, .ref h_t), (1, .int x14), (2, .int x15), (3, .int x16), (4, .int x17)] [.int s18] [(h_t, .inr (8, [.int t_length, .ref h_t_text, .int t_at, .ref h_t_told, .ref h_t_touches, .ref h_t_has, .ref h_t_old, .ref h_t_beside, .int t_stones, .ref h_t_slot, .int t_kept, .int t_done, .int t_rows, .ref h_t_row, .ref h_t_free, .int t_frees, .ref h_t_worth, .ref h_t_fore, .ref h_t_back, .int t_fewest, .ref h_t_got])), (h_t_told, jI D 8 t_told_), (h_t_touches, jZ D 32 t_touches_), (h_t_old, jI D 18 t_old_)] := by
      intro x14 x15 x16 x17 s18 h
      unfold fX10_isSound_58 at h
      refine j_istoreC C dX10_isSound_58 (lv' := [(5, .int s18), (0, .ref h_t), (1, .int x14), (2, .int x15), (3, .int x16), (4, .int x17)]) (by decide) rfl ?_
      refine j_iload_n C dX10_isSound_60 rfl 3 rfl ?_
      refine j_if_eq C (tgt := 130) dX10_isSound_61 (by decide) h (fun c19 h => ?_) (fun c19 h => ?_)
      · refine j_sub (lv' := [(0, .ref h_t), (1, .int x14), (3, .int x16)]) [1, 2, 4] rfl ?_
        exact L130 x14 x16 h
      · refine j_iload C dX10_isSound_64 5 rfl ?_
        refine j_if_eq C (tgt := 94) dX10_isSound_66 (by decide) h (fun c22 h => ?_) (fun c22 h => ?_)
        · refine j_sub (lv' := [(0, .ref h_t), (1, .int x14), (3, .int x16), (5, .int s18)]) [1, 2, 4, 0] rfl ?_
          exact L94 x14 x16 s18 h
        · refine j_aload_n C dX10_isSound_69 rfl 1 rfl ?_
          refine j_aload_n C dX10_isSound_70 rfl 1 rfl ?_
          refine j_get C ibX10 (ci := 8) 0 rfl rfl 6 (by decide) bfX10_24 (v := .ref h_t_old) rfl dX10_isSound_71 ?_
          refine j_bipush C dX10_isSound_74 (v := (9 : Int32)) (by decide) ?_
          refine j_iload_n C dX10_isSound_76 rfl 4 rfl ?_
          refine j_iadd C dX10_isSound_77 ?_
          refine jl_inb h (fun b26 h => ?_)
          refine j_iald C 3 rfl b26 dX10_isSound_78 ?_
          refine j_aload_n C dX10_isSound_79 rfl 1 rfl ?_
          refine j_get C ibX10 (ci := 8) 0 rfl rfl 6 (by decide) bfX10_24 (v := .ref h_t_old) rfl dX10_isSound_80 ?_
          refine j_bipush C dX10_isSound_83 (v := (10 : Int32)) (by decide) ?_
          refine j_iload_n C dX10_isSound_85 rfl 4 rfl ?_
          refine j_iadd C dX10_isSound_86 ?_
          refine jl_inb h (fun b27 h => ?_)
          refine j_iald C 3 rfl b27 dX10_isSound_87 ?_
          obtain ⟨r28, q29, h⟩ := jl_bind h
          refine j_cV1 C (mX10_areWell (jlaunch X) D h_t h_t_text h_t_told h_t_touches h_t_has h_t_old h_t_beside h_t_slot h_t_row h_t_free h_t_worth h_t_fore h_t_back h_t_got t_length t_at t_stones t_kept t_done t_rows t_frees t_fewest t_touches_ (t_old_ (((9 : Int32)) + x16).toNatClampNeg) (t_old_ (((10 : Int32)) + x16).toNatClampNeg) r28 q29) bmX10_107 biX10_areWell bsX10_areWell bzX10 bcX10_areWell rfl hX10_areWell (rest := []) rfl (jroom_of rfl) 0 (ci := 8) rfl rfl rfl [0, 2] [1, 3] [2, 0, 3, 1] (wr := [(h_t_told, jI D 8 t_told_), (h_t_old, jI D 18 t_old_)]) (ws2 := [(h_t, .inr (8, [.int t_length, .ref h_t_text, .int t_at, .ref h_t_told, .ref h_t_touches, .ref h_t_has, .ref h_t_old, .ref h_t_beside, .int t_stones, .ref h_t_slot, .int t_kept, .int t_done, .int t_rows, .ref h_t_row, .ref h_t_free, .int t_frees, .ref h_t_worth, .ref h_t_fore, .ref h_t_back, .int t_fewest, .ref h_t_got])), (h_t_told, jI D 8 t_told_), (h_t_touches, jZ D 32 t_touches_), (h_t_old, jI D 18 t_old_)]) rfl rfl rfl rfl rfl (Nat.le_of_ble_eq_true rfl) dX10_isSound_88 ?_
          refine j_if_eq C (tgt := 130) dX10_isSound_91 (by decide) h (fun c30 h => ?_) (fun c30 h => ?_)
          · refine j_sub (lv' := [(0, .ref h_t), (1, .int x14), (3, .int x16)]) [1, 2, 4] rfl ?_
            exact L130 x14 x16 h
          · refine j_sub (lv' := [(0, .ref h_t), (1, .int x14), (3, .int x16), (5, .int s18)]) [1, 2, 4, 0] rfl ?_
            exact L94 x14 x16 s18 h
    have L37 : ∀ (x9 : Int32) (x10 : Int32) (x11 : Int32) (s12 : Int32), fX10_isSound_37 F t_told_ t_touches_ t_old_ k11 x9 x10 x11 s12 = some r → JJ D X 6 0 0 37 [(0, .ref h_t), (1, .int x9), (2, .int x10), (3, .int x11)] [.int s12] [(h_t, .inr (8, [.int t_length, .ref h_t_text, .int t_at, .ref h_t_told, .ref h_t_touches, .ref h_t_has, .ref h_t_old, .ref h_t_beside, .int t_stones, .ref h_t_slot, .int t_kept, .int t_done, .int t_rows, .ref h_t_row, .ref h_t_free, .int t_frees, .ref h_t_worth, .ref h_t_fore, .ref h_t_back, .int t_fewest, .ref h_t_got])), (h_t_told, jI D 8 t_told_), (h_t_touches, jZ D 32 t_touches_), (h_t_old, jI D 18 t_old_)] := by
      intro x9 x10 x11 s12 h
      unfold fX10_isSound_37 at h
      refine j_istoreC C dX10_isSound_37 (lv' := [(4, .int s12), (0, .ref h_t), (1, .int x9), (2, .int x10), (3, .int x11)]) (by decide) rfl ?_
      refine j_iload_n C dX10_isSound_39 rfl 4 rfl ?_
      refine j_iload_n C dX10_isSound_40 rfl 2 rfl ?_
      refine j_iadd C dX10_isSound_41 ?_
      refine j_aload_n C dX10_isSound_42 rfl 1 rfl ?_
      refine j_get C ibX10 (ci := 8) 0 rfl rfl 3 (by decide) bfX10_13 (v := .ref h_t_told) rfl dX10_isSound_43 ?_
      refine j_iconst C dX10_isSound_46 (v := (4 : Int32)) (by decide) ?_
      refine j_iald C 1 rfl (by unfold vp_in; decide) dX10_isSound_47 ?_
      refine j_iload_n C dX10_isSound_48 rfl 2 rfl ?_
      refine j_imul C dX10_isSound_49 ?_
      refine j_icmp_ge C (tgt := 57) dX10_isSound_50 (by decide) h (fun c13 h => ?_) (fun c13 h => ?_)
      · refine j_iconst C dX10_isSound_57 (v := (0 : Int32)) (by decide) ?_
        refine j_sub (lv' := [(0, .ref h_t), (1, .int x9), (2, .int x10), (3, .int x11), (4, .int s12)]) [1, 2, 3, 4, 0] rfl ?_
        exact L58 x9 x10 x11 s12 ((0 : Int32)) h
      · refine j_iconst C dX10_isSound_53 (v := (1 : Int32)) (by decide) ?_
        refine j_goto C dX10_isSound_54 (tgt := 58) (by decide) ?_
        refine j_sub (lv' := [(0, .ref h_t), (1, .int x9), (2, .int x10), (3, .int x11), (4, .int s12)]) [1, 2, 3, 4, 0] rfl ?_
        exact L58 x9 x10 x11 s12 ((1 : Int32)) h
    refine j_iload_n C dX10_isSound_11 rfl 3 rfl ?_
    refine j_aload_n C dX10_isSound_12 rfl 0 rfl ?_
    refine j_get C ibX10 (ci := 8) 0 rfl rfl 3 (by decide) bfX10_13 (v := .ref h_t_told) rfl dX10_isSound_13 ?_
    refine j_iconst C dX10_isSound_16 (v := (4 : Int32)) (by decide) ?_
    refine j_iald C 1 rfl (by unfold vp_in; decide) dX10_isSound_17 ?_
    refine j_iload_n C dX10_isSound_18 rfl 1 rfl ?_
    refine j_imul C dX10_isSound_19 ?_
    refine j_icmp_ge C (tgt := 138) dX10_isSound_20 (by decide) h (fun c5 h => ?_) (fun c5 h => ?_)
    · refine j_iload_n C dX10_isSound_138 rfl 2 rfl ?_
      refine jl_grd2 h (fun b6 h => ?_)
      exact j_zretR C (r := r) (rtf := fun r => (some (.int r))) (wff := fun r => (oX10_isSound D h_t h_t_text h_t_told h_t_touches h_t_has h_t_old h_t_beside h_t_slot h_t_row h_t_free h_t_worth h_t_fore h_t_back h_t_got t_length t_at t_stones t_kept t_done t_rows t_frees t_fewest t_told_ t_touches_ t_old_ r)) E (jl_z01 b6) h rfl rfl dX10_isSound_139
    · refine j_iload_n C dX10_isSound_23 rfl 3 rfl ?_
      refine j_iload_n C dX10_isSound_24 rfl 1 rfl ?_
      refine jl_grd h (fun b7 h => ?_)
      refine j_irem C dX10_isSound_25 b7 ?_
      refine j_iconst C dX10_isSound_26 (v := (1 : Int32)) (by decide) ?_
      refine j_iadd C dX10_isSound_27 ?_
      refine j_iload_n C dX10_isSound_28 rfl 1 rfl ?_
      refine j_icmp_ge C (tgt := 36) dX10_isSound_29 (by decide) h (fun c8 h => ?_) (fun c8 h => ?_)
      · refine j_iconst C dX10_isSound_36 (v := (0 : Int32)) (by decide) ?_
        refine j_sub (lv' := [(0, .ref h_t), (1, .int x2), (2, .int x3), (3, .int x4)]) [0, 1, 2, 3] rfl ?_
        exact L37 x2 x3 x4 ((0 : Int32)) h
      · refine j_iconst C dX10_isSound_32 (v := (1 : Int32)) (by decide) ?_
        refine j_goto C dX10_isSound_33 (tgt := 37) (by decide) ?_
        refine j_sub (lv' := [(0, .ref h_t), (1, .int x2), (2, .int x3), (3, .int x4)]) [0, 1, 2, 3] rfl ?_
        exact L37 x2 x3 x4 ((1 : Int32)) h
  refine j_aload_n C dX10_isSound_0 rfl 0 rfl ?_
  refine j_get C ibX10 (ci := 8) 0 rfl rfl 3 (by decide) bfX10_13 (v := .ref h_t_told) rfl dX10_isSound_1 ?_
  refine j_iconst C dX10_isSound_4 (v := (5 : Int32)) (by decide) ?_
  refine j_iald C 1 rfl (by unfold vp_in; decide) dX10_isSound_5 ?_
  refine j_istore_n C dX10_isSound_6 rfl (lv' := fun v1 => [(1, .int v1), (0, .ref h_t)]) (by decide) (fun _ => rfl) h (fun v1 h => ?_)
  refine j_iconst C dX10_isSound_7 (v := (1 : Int32)) (by decide) ?_
  refine j_istore_nC C dX10_isSound_8 rfl (lv' := [(2, .int ((1 : Int32))), (1, .int v1), (0, .ref h_t)]) (by decide) rfl ?_
  refine j_iconst C dX10_isSound_9 (v := (0 : Int32)) (by decide) ?_
  refine j_istore_nC C dX10_isSound_10 rfl (lv' := [(3, .int ((0 : Int32))), (2, .int ((1 : Int32))), (1, .int v1), (0, .ref h_t)]) (by decide) rfl ?_
  refine j_sub (lv' := [(0, .ref h_t), (1, .int v1), (2, .int ((1 : Int32))), (3, .int ((0 : Int32)))]) [3, 2, 1, 0] rfl ?_
  exact L11 v1 ((1 : Int32)) ((0 : Int32)) h
theorem dX10_lay_0 : decode cX10_lay 0 = .ok (.aload_n 0, 1) := by decide +kernel
theorem dX10_lay_1 : decode cX10_lay 1 = .ok (.invokevirtual 111, 3) := by decide +kernel
theorem dX10_lay_4 : decode cX10_lay 4 = .ok (.bipush (-4), 2) := by decide +kernel
theorem dX10_lay_6 : decode cX10_lay 6 = .ok (.if_icmp .ne 10, 3) := by decide +kernel
theorem dX10_lay_9 : decode cX10_lay 9 = .ok (.aload_n 0, 1) := by decide +kernel
theorem dX10_lay_10 : decode cX10_lay 10 = .ok (.invokevirtual 114, 3) := by decide +kernel
theorem dX10_lay_13 : decode cX10_lay 13 = .ok (.ifCond .ne 6, 3) := by decide +kernel
theorem dX10_lay_16 : decode cX10_lay 16 = .ok (.bipush (-2), 2) := by decide +kernel
theorem dX10_lay_18 : decode cX10_lay 18 = .ok (.ireturn, 1) := by decide +kernel
theorem dX10_lay_19 : decode cX10_lay 19 = .ok (.aload_n 0, 1) := by decide +kernel
theorem dX10_lay_20 : decode cX10_lay 20 = .ok (.invokevirtual 55, 3) := by decide +kernel
theorem dX10_lay_23 : decode cX10_lay 23 = .ok (.aload_n 0, 1) := by decide +kernel
theorem dX10_lay_24 : decode cX10_lay 24 = .ok (.getfield 91, 3) := by decide +kernel
theorem dX10_lay_27 : decode cX10_lay 27 = .ok (.ireturn, 1) := by decide +kernel
def fX10_lay (F : Nat) (t_length : Int32) (t_at : Int32) (t_stones : Int32) (t_kept : Int32) (t_done : Int32) (t_rows : Int32) (t_text_ : Nat → Int32) (t_told_ : Nat → Int32) (t_touches_ : Nat → Int32) (t_has_ : Nat → Int32) (t_old_ : Nat → Int32) (t_beside_ : Nat → Int32) (t_slot_ : Nat → Int32) (t_got_ : Nat → Int32) : Option (Int32 × Int32 × Int32 × Int32 × Int32 × Int32 × (Nat → Int32) × (Nat → Int32) × (Nat → Int32) × (Nat → Int32) × (Nat → Int32) × (Nat → Int32) × (Nat → Int32)) :=
((fX10_fault F t_length t_at t_text_ t_told_ t_touches_ t_has_ t_old_ t_got_).bind fun r1 =>
(if r1.1 = ((-4 : Int32)) then
((fX10_isSound F r1.2.2.1 r1.2.2.2.1 r1.2.2.2.2.2.1).bind fun r4 =>
(if r4 = 0 then
(some ((-2 : Int32), r1.2.1, t_stones, t_kept, t_done, t_rows, r1.2.2.1, r1.2.2.2.1, r1.2.2.2.2.1, r1.2.2.2.2.2.1, t_beside_, t_slot_, r1.2.2.2.2.2.2))
else
((fX10_takes F t_stones t_kept t_done t_rows r1.2.2.1 r1.2.2.2.1 r1.2.2.2.2.1 r1.2.2.2.2.2.1 t_beside_ t_slot_).bind fun r7 =>
(some (r7.1, r1.2.1, r7.1, r7.2.1, r7.2.2.1, r7.2.2.2.1, r7.2.2.2.2.1, r7.2.2.2.2.2.1, r7.2.2.2.2.2.2.1, r7.2.2.2.2.2.2.2.1, r7.2.2.2.2.2.2.2.2.1, r7.2.2.2.2.2.2.2.2.2, r1.2.2.2.2.2.2)))))
else
(some ((-2 : Int32), r1.2.1, t_stones, t_kept, t_done, t_rows, r1.2.2.1, r1.2.2.2.1, r1.2.2.2.2.1, r1.2.2.2.2.2.1, t_beside_, t_slot_, r1.2.2.2.2.2.2))))
def oX10_lay (D : jv_D) (h_t : Nat) (h_t_text : Nat) (h_t_told : Nat) (h_t_touches : Nat) (h_t_has : Nat) (h_t_old : Nat) (h_t_beside : Nat) (h_t_slot : Nat) (h_t_row : Nat) (h_t_free : Nat) (h_t_worth : Nat) (h_t_fore : Nat) (h_t_back : Nat) (h_t_got : Nat) (t_length : Int32) (t_frees : Int32) (t_fewest : Int32) (t_text_ : Nat → Int32) (r : Int32 × Int32 × Int32 × Int32 × Int32 × Int32 × (Nat → Int32) × (Nat → Int32) × (Nat → Int32) × (Nat → Int32) × (Nat → Int32) × (Nat → Int32) × (Nat → Int32)) : va_W := [(h_t, .inr (8, [.int t_length, .ref h_t_text, .int r.2.1, .ref h_t_told, .ref h_t_touches, .ref h_t_has, .ref h_t_old, .ref h_t_beside, .int r.2.2.1, .ref h_t_slot, .int r.2.2.2.1, .int r.2.2.2.2.1, .int r.2.2.2.2.2.1, .ref h_t_row, .ref h_t_free, .int t_frees, .ref h_t_worth, .ref h_t_fore, .ref h_t_back, .int t_fewest, .ref h_t_got])), (h_t_text, jB D 200 t_text_), (h_t_told, jI D 8 r.2.2.2.2.2.2.1), (h_t_touches, jZ D 32 r.2.2.2.2.2.2.2.1), (h_t_has, jI D 4 r.2.2.2.2.2.2.2.2.1), (h_t_old, jI D 18 r.2.2.2.2.2.2.2.2.2.1), (h_t_beside, jI D 9 r.2.2.2.2.2.2.2.2.2.2.1), (h_t_slot, jI D 240 r.2.2.2.2.2.2.2.2.2.2.2.1), (h_t_got, jI D 2 r.2.2.2.2.2.2.2.2.2.2.2.2)]
set_option maxHeartbeats 40000000 in
set_option maxRecDepth 100000 in
theorem mX10_lay (l : Launch) (D : jv_D) (F : Nat) (h_t : Nat) (h_t_text : Nat) (h_t_told : Nat) (h_t_touches : Nat) (h_t_has : Nat) (h_t_old : Nat) (h_t_beside : Nat) (h_t_slot : Nat) (h_t_row : Nat) (h_t_free : Nat) (h_t_worth : Nat) (h_t_fore : Nat) (h_t_back : Nat) (h_t_got : Nat) (t_length : Int32) (t_at : Int32) (t_stones : Int32) (t_kept : Int32) (t_done : Int32) (t_rows : Int32) (t_frees : Int32) (t_fewest : Int32) (t_text_ : Nat → Int32) (t_told_ : Nat → Int32) (t_touches_ : Nat → Int32) (t_has_ : Nat → Int32) (t_old_ : Nat → Int32) (t_beside_ : Nat → Int32) (t_slot_ : Nat → Int32) (t_got_ : Nat → Int32) (r : Int32 × Int32 × Int32 × Int32 × Int32 × Int32 × (Nat → Int32) × (Nat → Int32) × (Nat → Int32) × (Nat → Int32) × (Nat → Int32) × (Nat → Int32) × (Nat → Int32)) (h : fX10_lay F t_length t_at t_stones t_kept t_done t_rows t_text_ t_told_ t_touches_ t_has_ t_old_ t_beside_ t_slot_ t_got_ = some r) : MM l yX10_lay (jW yX10_lay cX10_lay 1 (some .int)) ({ frames := 4, cells := 0, slots := 0, locals := 93 }) D [.ref h_t] [(h_t, .inr (8, [.int t_length, .ref h_t_text, .int t_at, .ref h_t_told, .ref h_t_touches, .ref h_t_has, .ref h_t_old, .ref h_t_beside, .int t_stones, .ref h_t_slot, .int t_kept, .int t_done, .int t_rows, .ref h_t_row, .ref h_t_free, .int t_frees, .ref h_t_worth, .ref h_t_fore, .ref h_t_back, .int t_fewest, .ref h_t_got])), (h_t_text, jB D 200 t_text_), (h_t_told, jI D 8 t_told_), (h_t_touches, jZ D 32 t_touches_), (h_t_has, jI D 4 t_has_), (h_t_old, jI D 18 t_old_), (h_t_beside, jI D 9 t_beside_), (h_t_slot, jI D 240 t_slot_), (h_t_got, jI D 2 t_got_)] (some (.int r.1)) (oX10_lay D h_t h_t_text h_t_told h_t_touches h_t_has h_t_old h_t_beside h_t_slot h_t_row h_t_free h_t_worth h_t_fore h_t_back h_t_got t_length t_frees t_fewest t_text_ r) := by
  refine mn_of hpX10_lay (Nat.le_of_ble_eq_true rfl) ?_
  intro X hXl C E0 hN
  subst hXl
  replace C : JC D X 1 RX10 cX10_lay ({ frames := 4, cells := 0, slots := 0, locals := 93 }) := C
  have E : JE D X 0 0 (some .int) (fun _ : Unit => (some (.int r.1))) (fun _ : Unit => (oX10_lay D h_t h_t_text h_t_told h_t_touches h_t_has h_t_old h_t_beside h_t_slot h_t_row h_t_free h_t_worth h_t_fore h_t_back h_t_got t_length t_frees t_fewest t_text_ r)) := E0 0 0 rfl rfl
  clear E0 hN
  show JJ D X 1 0 0 0 [(0, .ref h_t)] [] [(h_t, .inr (8, [.int t_length, .ref h_t_text, .int t_at, .ref h_t_told, .ref h_t_touches, .ref h_t_has, .ref h_t_old, .ref h_t_beside, .int t_stones, .ref h_t_slot, .int t_kept, .int t_done, .int t_rows, .ref h_t_row, .ref h_t_free, .int t_frees, .ref h_t_worth, .ref h_t_fore, .ref h_t_back, .int t_fewest, .ref h_t_got])), (h_t_text, jB D 200 t_text_), (h_t_told, jI D 8 t_told_), (h_t_touches, jZ D 32 t_touches_), (h_t_has, jI D 4 t_has_), (h_t_old, jI D 18 t_old_), (h_t_beside, jI D 9 t_beside_), (h_t_slot, jI D 240 t_slot_), (h_t_got, jI D 2 t_got_)]
  unfold fX10_lay at h
  refine j_aload_n C dX10_lay_0 rfl 0 rfl ?_
  obtain ⟨r1, q2, h⟩ := jl_bind h
  refine j_cV1 C (mX10_fault (jlaunch X) D F h_t h_t_text h_t_told h_t_touches h_t_has h_t_old h_t_beside h_t_slot h_t_row h_t_free h_t_worth h_t_fore h_t_back h_t_got t_length t_at t_stones t_kept t_done t_rows t_frees t_fewest t_text_ t_told_ t_touches_ t_has_ t_old_ t_got_ r1 q2) bmX10_111 biX10_fault bsX10_fault bzX10 bcX10_fault rfl hX10_fault (rest := []) rfl (jroom_of rfl) 0 (ci := 8) rfl rfl rfl [0, 1, 2, 3, 4, 5, 8] [6, 7] [2, 3, 4, 5, 6, 7, 0, 1, 8] (wr := [(h_t_beside, jI D 9 t_beside_), (h_t_slot, jI D 240 t_slot_)]) (ws2 := [(h_t, .inr (8, [.int t_length, .ref h_t_text, .int r1.2.1, .ref h_t_told, .ref h_t_touches, .ref h_t_has, .ref h_t_old, .ref h_t_beside, .int t_stones, .ref h_t_slot, .int t_kept, .int t_done, .int t_rows, .ref h_t_row, .ref h_t_free, .int t_frees, .ref h_t_worth, .ref h_t_fore, .ref h_t_back, .int t_fewest, .ref h_t_got])), (h_t_text, jB D 200 t_text_), (h_t_told, jI D 8 r1.2.2.1), (h_t_touches, jZ D 32 r1.2.2.2.1), (h_t_has, jI D 4 r1.2.2.2.2.1), (h_t_old, jI D 18 r1.2.2.2.2.2.1), (h_t_beside, jI D 9 t_beside_), (h_t_slot, jI D 240 t_slot_), (h_t_got, jI D 2 r1.2.2.2.2.2.2)]) rfl rfl rfl rfl rfl (Nat.le_of_ble_eq_true rfl) dX10_lay_1 ?_
  refine j_bipush C dX10_lay_4 (v := (-4 : Int32)) (by decide) ?_
  refine j_icmp_ne C (tgt := 16) dX10_lay_6 (by decide) h (fun c3 h => ?_) (fun c3 h => ?_)
  · refine j_aload_n C dX10_lay_9 rfl 0 rfl ?_
    obtain ⟨r4, q5, h⟩ := jl_bind h
    refine j_cV1 C (mX10_isSound (jlaunch X) D F h_t h_t_text h_t_told h_t_touches h_t_has h_t_old h_t_beside h_t_slot h_t_row h_t_free h_t_worth h_t_fore h_t_back h_t_got t_length r1.2.1 t_stones t_kept t_done t_rows t_frees t_fewest r1.2.2.1 r1.2.2.2.1 r1.2.2.2.2.2.1 r4 q5) bmX10_114 biX10_isSound bsX10_isSound bzX10 bcX10_isSound rfl hX10_isSound (rest := []) rfl (jroom_of rfl) 0 (ci := 8) rfl rfl rfl [0, 2, 3, 5] [1, 4, 6, 7, 8] [5, 0, 6, 7, 1, 8, 2, 3, 4] (wr := [(h_t_text, jB D 200 t_text_), (h_t_has, jI D 4 r1.2.2.2.2.1), (h_t_beside, jI D 9 t_beside_), (h_t_slot, jI D 240 t_slot_), (h_t_got, jI D 2 r1.2.2.2.2.2.2)]) (ws2 := [(h_t, .inr (8, [.int t_length, .ref h_t_text, .int r1.2.1, .ref h_t_told, .ref h_t_touches, .ref h_t_has, .ref h_t_old, .ref h_t_beside, .int t_stones, .ref h_t_slot, .int t_kept, .int t_done, .int t_rows, .ref h_t_row, .ref h_t_free, .int t_frees, .ref h_t_worth, .ref h_t_fore, .ref h_t_back, .int t_fewest, .ref h_t_got])), (h_t_text, jB D 200 t_text_), (h_t_told, jI D 8 r1.2.2.1), (h_t_touches, jZ D 32 r1.2.2.2.1), (h_t_has, jI D 4 r1.2.2.2.2.1), (h_t_old, jI D 18 r1.2.2.2.2.2.1), (h_t_beside, jI D 9 t_beside_), (h_t_slot, jI D 240 t_slot_), (h_t_got, jI D 2 r1.2.2.2.2.2.2)]) rfl rfl rfl rfl rfl (Nat.le_of_ble_eq_true rfl) dX10_lay_10 ?_
    refine j_if_ne C (tgt := 19) dX10_lay_13 (by decide) h (fun c6 h => ?_) (fun c6 h => ?_)
    · refine j_bipush C dX10_lay_16 (v := (-2 : Int32)) (by decide) ?_
      exact j_iretR C (r := r) (rtf := fun r => (some (.int r.1))) (wff := fun r => (oX10_lay D h_t h_t_text h_t_told h_t_touches h_t_has h_t_old h_t_beside h_t_slot h_t_row h_t_free h_t_worth h_t_fore h_t_back h_t_got t_length t_frees t_fewest t_text_ r)) E h rfl rfl dX10_lay_18
    · refine j_aload_n C dX10_lay_19 rfl 0 rfl ?_
      obtain ⟨r7, q8, h⟩ := jl_bind h
      refine j_cV0 C (mX10_takes (jlaunch X) D F h_t h_t_text h_t_told h_t_touches h_t_has h_t_old h_t_beside h_t_slot h_t_row h_t_free h_t_worth h_t_fore h_t_back h_t_got t_length r1.2.1 t_stones t_kept t_done t_rows t_frees t_fewest r1.2.2.1 r1.2.2.2.1 r1.2.2.2.2.1 r1.2.2.2.2.2.1 t_beside_ t_slot_ r7 q8) bmX10_55 biX10_takes bsX10_takes bzX10 bcX10_takes rfl hX10_takes (rest := []) rfl (jroom_of rfl) 0 (ci := 8) rfl rfl rfl [0, 2, 3, 4, 5, 6, 7] [1, 8] [2, 0, 3, 4, 5, 6, 7, 8, 1] (wr := [(h_t_text, jB D 200 t_text_), (h_t_got, jI D 2 r1.2.2.2.2.2.2)]) (ws2 := [(h_t, .inr (8, [.int t_length, .ref h_t_text, .int r1.2.1, .ref h_t_told, .ref h_t_touches, .ref h_t_has, .ref h_t_old, .ref h_t_beside, .int r7.1, .ref h_t_slot, .int r7.2.1, .int r7.2.2.1, .int r7.2.2.2.1, .ref h_t_row, .ref h_t_free, .int t_frees, .ref h_t_worth, .ref h_t_fore, .ref h_t_back, .int t_fewest, .ref h_t_got])), (h_t_text, jB D 200 t_text_), (h_t_told, jI D 8 r7.2.2.2.2.1), (h_t_touches, jZ D 32 r7.2.2.2.2.2.1), (h_t_has, jI D 4 r7.2.2.2.2.2.2.1), (h_t_old, jI D 18 r7.2.2.2.2.2.2.2.1), (h_t_beside, jI D 9 r7.2.2.2.2.2.2.2.2.1), (h_t_slot, jI D 240 r7.2.2.2.2.2.2.2.2.2), (h_t_got, jI D 2 r1.2.2.2.2.2.2)]) rfl rfl rfl rfl rfl (Nat.le_of_ble_eq_true rfl) dX10_lay_20 ?_
      refine j_aload_n C dX10_lay_23 rfl 0 rfl ?_
      refine j_get C ibX10 (ci := 8) 0 rfl rfl 8 (by decide) bfX10_91 (v := .int r7.1) rfl dX10_lay_24 ?_
      exact j_iretR C (r := r) (rtf := fun r => (some (.int r.1))) (wff := fun r => (oX10_lay D h_t h_t_text h_t_told h_t_touches h_t_has h_t_old h_t_beside h_t_slot h_t_row h_t_free h_t_worth h_t_fore h_t_back h_t_got t_length t_frees t_fewest t_text_ r)) E h rfl rfl dX10_lay_27
  · refine j_bipush C dX10_lay_16 (v := (-2 : Int32)) (by decide) ?_
    exact j_iretR C (r := r) (rtf := fun r => (some (.int r.1))) (wff := fun r => (oX10_lay D h_t h_t_text h_t_told h_t_touches h_t_has h_t_old h_t_beside h_t_slot h_t_row h_t_free h_t_worth h_t_fore h_t_back h_t_got t_length t_frees t_fewest t_text_ r)) E h rfl rfl dX10_lay_18
theorem dX10_isStone_0 : decode cX10_isStone 0 = .ok (.iload_n 1, 1) := by decide +kernel
theorem dX10_isStone_1 : decode cX10_isStone 1 = .ok (.i2l, 1) := by decide +kernel
theorem dX10_isStone_2 : decode cX10_isStone 2 = .ok (.lconst 0, 1) := by decide +kernel
theorem dX10_isStone_3 : decode cX10_isStone 3 = .ok (.aload_n 0, 1) := by decide +kernel
theorem dX10_isStone_4 : decode cX10_isStone 4 = .ok (.getfield 91, 3) := by decide +kernel
theorem dX10_isStone_7 : decode cX10_isStone 7 = .ok (.iconst 1, 1) := by decide +kernel
theorem dX10_isStone_8 : decode cX10_isStone 8 = .ok (.isub, 1) := by decide +kernel
theorem dX10_isStone_9 : decode cX10_isStone 9 = .ok (.i2l, 1) := by decide +kernel
theorem dX10_isStone_10 : decode cX10_isStone 10 = .ok (.invokestatic 60, 3) := by decide +kernel
theorem dX10_isStone_13 : decode cX10_isStone 13 = .ok (.ireturn, 1) := by decide +kernel
def fX10_isStone (t_stones : Int32) (p1 : Int32) : Option (Int32) :=
((fX10_in p1.toInt64 ((0 : Int64)) ((t_stones - ((1 : Int32))).toInt64)).bind fun r1 =>
(if r1 = 0 ∨ r1 = 1 then (some (r1)) else none))
def oX10_isStone (D : jv_D) (h_t : Nat) (h_t_text : Nat) (h_t_told : Nat) (h_t_touches : Nat) (h_t_has : Nat) (h_t_old : Nat) (h_t_beside : Nat) (h_t_slot : Nat) (h_t_row : Nat) (h_t_free : Nat) (h_t_worth : Nat) (h_t_fore : Nat) (h_t_back : Nat) (h_t_got : Nat) (t_length : Int32) (t_at : Int32) (t_stones : Int32) (t_kept : Int32) (t_done : Int32) (t_rows : Int32) (t_frees : Int32) (t_fewest : Int32) (r : Int32) : va_W := [(h_t, .inr (8, [.int t_length, .ref h_t_text, .int t_at, .ref h_t_told, .ref h_t_touches, .ref h_t_has, .ref h_t_old, .ref h_t_beside, .int t_stones, .ref h_t_slot, .int t_kept, .int t_done, .int t_rows, .ref h_t_row, .ref h_t_free, .int t_frees, .ref h_t_worth, .ref h_t_fore, .ref h_t_back, .int t_fewest, .ref h_t_got]))]
set_option maxHeartbeats 40000000 in
set_option maxRecDepth 100000 in
theorem mX10_isStone (l : Launch) (D : jv_D) (h_t : Nat) (h_t_text : Nat) (h_t_told : Nat) (h_t_touches : Nat) (h_t_has : Nat) (h_t_old : Nat) (h_t_beside : Nat) (h_t_slot : Nat) (h_t_row : Nat) (h_t_free : Nat) (h_t_worth : Nat) (h_t_fore : Nat) (h_t_back : Nat) (h_t_got : Nat) (t_length : Int32) (t_at : Int32) (t_stones : Int32) (t_kept : Int32) (t_done : Int32) (t_rows : Int32) (t_frees : Int32) (t_fewest : Int32) (p1 : Int32) (r : Int32) (h : fX10_isStone t_stones p1 = some r) : MM l yX10_isStone (jW yX10_isStone cX10_isStone 2 (some .boolean)) ({ frames := 1, cells := 0, slots := 0, locals := 25 }) D [.ref h_t, .int p1] [(h_t, .inr (8, [.int t_length, .ref h_t_text, .int t_at, .ref h_t_told, .ref h_t_touches, .ref h_t_has, .ref h_t_old, .ref h_t_beside, .int t_stones, .ref h_t_slot, .int t_kept, .int t_done, .int t_rows, .ref h_t_row, .ref h_t_free, .int t_frees, .ref h_t_worth, .ref h_t_fore, .ref h_t_back, .int t_fewest, .ref h_t_got]))] (some (.int r)) (oX10_isStone D h_t h_t_text h_t_told h_t_touches h_t_has h_t_old h_t_beside h_t_slot h_t_row h_t_free h_t_worth h_t_fore h_t_back h_t_got t_length t_at t_stones t_kept t_done t_rows t_frees t_fewest r) := by
  refine mn_of hpX10_isStone (Nat.le_of_ble_eq_true rfl) ?_
  intro X hXl C E0 hN
  subst hXl
  replace C : JC D X 2 RX10 cX10_isStone ({ frames := 1, cells := 0, slots := 0, locals := 25 }) := C
  have E : JE D X 0 0 (some .boolean) (fun _ : Unit => (some (.int r))) (fun _ : Unit => (oX10_isStone D h_t h_t_text h_t_told h_t_touches h_t_has h_t_old h_t_beside h_t_slot h_t_row h_t_free h_t_worth h_t_fore h_t_back h_t_got t_length t_at t_stones t_kept t_done t_rows t_frees t_fewest r)) := E0 0 0 rfl rfl
  clear E0 hN
  show JJ D X 2 0 0 0 [(0, .ref h_t), (1, .int p1)] [] [(h_t, .inr (8, [.int t_length, .ref h_t_text, .int t_at, .ref h_t_told, .ref h_t_touches, .ref h_t_has, .ref h_t_old, .ref h_t_beside, .int t_stones, .ref h_t_slot, .int t_kept, .int t_done, .int t_rows, .ref h_t_row, .ref h_t_free, .int t_frees, .ref h_t_worth, .ref h_t_fore, .ref h_t_back, .int t_fewest, .ref h_t_got]))]
  unfold fX10_isStone at h
  refine j_iload_n C dX10_isStone_0 rfl 1 rfl ?_
  refine j_i2l C dX10_isStone_1 ?_
  refine j_lconst C dX10_isStone_2 (v := (0 : Int64)) (by decide) ?_
  refine j_aload_n C dX10_isStone_3 rfl 0 rfl ?_
  refine j_get C ibX10 (ci := 8) 0 rfl rfl 8 (by decide) bfX10_91 (v := .int t_stones) rfl dX10_isStone_4 ?_
  refine j_iconst C dX10_isStone_7 (v := (1 : Int32)) (by decide) ?_
  refine j_isub C dX10_isStone_8 ?_
  refine j_i2l C dX10_isStone_9 ?_
  obtain ⟨r1, q2, h⟩ := jl_bind h
  refine j_cS1 C (mX10_in (jlaunch X) D p1.toInt64 ((0 : Int64)) ((t_stones - ((1 : Int32))).toInt64) r1 q2) bmX10_60 btX10_in bzX10 bcX10_in hX10_in (rest := []) rfl (jroom_of rfl) [] [0] [0] (wr := [(h_t, .inr (8, [.int t_length, .ref h_t_text, .int t_at, .ref h_t_told, .ref h_t_touches, .ref h_t_has, .ref h_t_old, .ref h_t_beside, .int t_stones, .ref h_t_slot, .int t_kept, .int t_done, .int t_rows, .ref h_t_row, .ref h_t_free, .int t_frees, .ref h_t_worth, .ref h_t_fore, .ref h_t_back, .int t_fewest, .ref h_t_got]))]) (ws2 := [(h_t, .inr (8, [.int t_length, .ref h_t_text, .int t_at, .ref h_t_told, .ref h_t_touches, .ref h_t_has, .ref h_t_old, .ref h_t_beside, .int t_stones, .ref h_t_slot, .int t_kept, .int t_done, .int t_rows, .ref h_t_row, .ref h_t_free, .int t_frees, .ref h_t_worth, .ref h_t_fore, .ref h_t_back, .int t_fewest, .ref h_t_got]))]) rfl rfl rfl rfl rfl (Nat.le_of_ble_eq_true rfl) dX10_isStone_10 ?_
  refine jl_grd2 h (fun b3 h => ?_)
  exact j_zretR C (r := r) (rtf := fun r => (some (.int r))) (wff := fun r => (oX10_isStone D h_t h_t_text h_t_told h_t_touches h_t_has h_t_old h_t_beside h_t_slot h_t_row h_t_free h_t_worth h_t_fore h_t_back h_t_got t_length t_at t_stones t_kept t_done t_rows t_frees t_fewest r)) E (jl_z01 b3) h rfl rfl dX10_isStone_13
theorem dX10_isPaint_0 : decode cX10_isPaint 0 = .ok (.iload_n 1, 1) := by decide +kernel
theorem dX10_isPaint_1 : decode cX10_isPaint 1 = .ok (.i2l, 1) := by decide +kernel
theorem dX10_isPaint_2 : decode cX10_isPaint 2 = .ok (.lconst 1, 1) := by decide +kernel
theorem dX10_isPaint_3 : decode cX10_isPaint 3 = .ok (.aload_n 0, 1) := by decide +kernel
theorem dX10_isPaint_4 : decode cX10_isPaint 4 = .ok (.getfield 13, 3) := by decide +kernel
theorem dX10_isPaint_7 : decode cX10_isPaint 7 = .ok (.iconst 2, 1) := by decide +kernel
theorem dX10_isPaint_8 : decode cX10_isPaint 8 = .ok (.iaload, 1) := by decide +kernel
theorem dX10_isPaint_9 : decode cX10_isPaint 9 = .ok (.i2l, 1) := by decide +kernel
theorem dX10_isPaint_10 : decode cX10_isPaint 10 = .ok (.invokestatic 60, 3) := by decide +kernel
theorem dX10_isPaint_13 : decode cX10_isPaint 13 = .ok (.ireturn, 1) := by decide +kernel
def fX10_isPaint (t_told_ : Nat → Int32) (p1 : Int32) : Option (Int32) :=
((fX10_in p1.toInt64 ((1 : Int64)) ((t_told_ ((2 : Int32)).toNatClampNeg).toInt64)).bind fun r1 =>
(if r1 = 0 ∨ r1 = 1 then (some (r1)) else none))
def oX10_isPaint (D : jv_D) (h_t : Nat) (h_t_text : Nat) (h_t_told : Nat) (h_t_touches : Nat) (h_t_has : Nat) (h_t_old : Nat) (h_t_beside : Nat) (h_t_slot : Nat) (h_t_row : Nat) (h_t_free : Nat) (h_t_worth : Nat) (h_t_fore : Nat) (h_t_back : Nat) (h_t_got : Nat) (t_length : Int32) (t_at : Int32) (t_stones : Int32) (t_kept : Int32) (t_done : Int32) (t_rows : Int32) (t_frees : Int32) (t_fewest : Int32) (t_told_ : Nat → Int32) (r : Int32) : va_W := [(h_t, .inr (8, [.int t_length, .ref h_t_text, .int t_at, .ref h_t_told, .ref h_t_touches, .ref h_t_has, .ref h_t_old, .ref h_t_beside, .int t_stones, .ref h_t_slot, .int t_kept, .int t_done, .int t_rows, .ref h_t_row, .ref h_t_free, .int t_frees, .ref h_t_worth, .ref h_t_fore, .ref h_t_back, .int t_fewest, .ref h_t_got])), (h_t_told, jI D 8 t_told_)]
set_option maxHeartbeats 40000000 in
set_option maxRecDepth 100000 in
theorem mX10_isPaint (l : Launch) (D : jv_D) (h_t : Nat) (h_t_text : Nat) (h_t_told : Nat) (h_t_touches : Nat) (h_t_has : Nat) (h_t_old : Nat) (h_t_beside : Nat) (h_t_slot : Nat) (h_t_row : Nat) (h_t_free : Nat) (h_t_worth : Nat) (h_t_fore : Nat) (h_t_back : Nat) (h_t_got : Nat) (t_length : Int32) (t_at : Int32) (t_stones : Int32) (t_kept : Int32) (t_done : Int32) (t_rows : Int32) (t_frees : Int32) (t_fewest : Int32) (t_told_ : Nat → Int32) (p1 : Int32) (r : Int32) (h : fX10_isPaint t_told_ p1 = some r) : MM l yX10_isPaint (jW yX10_isPaint cX10_isPaint 2 (some .boolean)) ({ frames := 1, cells := 0, slots := 0, locals := 25 }) D [.ref h_t, .int p1] [(h_t, .inr (8, [.int t_length, .ref h_t_text, .int t_at, .ref h_t_told, .ref h_t_touches, .ref h_t_has, .ref h_t_old, .ref h_t_beside, .int t_stones, .ref h_t_slot, .int t_kept, .int t_done, .int t_rows, .ref h_t_row, .ref h_t_free, .int t_frees, .ref h_t_worth, .ref h_t_fore, .ref h_t_back, .int t_fewest, .ref h_t_got])), (h_t_told, jI D 8 t_told_)] (some (.int r)) (oX10_isPaint D h_t h_t_text h_t_told h_t_touches h_t_has h_t_old h_t_beside h_t_slot h_t_row h_t_free h_t_worth h_t_fore h_t_back h_t_got t_length t_at t_stones t_kept t_done t_rows t_frees t_fewest t_told_ r) := by
  refine mn_of hpX10_isPaint (Nat.le_of_ble_eq_true rfl) ?_
  intro X hXl C E0 hN
  subst hXl
  replace C : JC D X 2 RX10 cX10_isPaint ({ frames := 1, cells := 0, slots := 0, locals := 25 }) := C
  have E : JE D X 0 0 (some .boolean) (fun _ : Unit => (some (.int r))) (fun _ : Unit => (oX10_isPaint D h_t h_t_text h_t_told h_t_touches h_t_has h_t_old h_t_beside h_t_slot h_t_row h_t_free h_t_worth h_t_fore h_t_back h_t_got t_length t_at t_stones t_kept t_done t_rows t_frees t_fewest t_told_ r)) := E0 0 0 rfl rfl
  clear E0 hN
  show JJ D X 2 0 0 0 [(0, .ref h_t), (1, .int p1)] [] [(h_t, .inr (8, [.int t_length, .ref h_t_text, .int t_at, .ref h_t_told, .ref h_t_touches, .ref h_t_has, .ref h_t_old, .ref h_t_beside, .int t_stones, .ref h_t_slot, .int t_kept, .int t_done, .int t_rows, .ref h_t_row, .ref h_t_free, .int t_frees, .ref h_t_worth, .ref h_t_fore, .ref h_t_back, .int t_fewest, .ref h_t_got])), (h_t_told, jI D 8 t_told_)]
  unfold fX10_isPaint at h
  refine j_iload_n C dX10_isPaint_0 rfl 1 rfl ?_
  refine j_i2l C dX10_isPaint_1 ?_
  refine j_lconst C dX10_isPaint_2 (v := (1 : Int64)) (by decide) ?_
  refine j_aload_n C dX10_isPaint_3 rfl 0 rfl ?_
  refine j_get C ibX10 (ci := 8) 0 rfl rfl 3 (by decide) bfX10_13 (v := .ref h_t_told) rfl dX10_isPaint_4 ?_
  refine j_iconst C dX10_isPaint_7 (v := (2 : Int32)) (by decide) ?_
  refine j_iald C 1 rfl (by unfold vp_in; decide) dX10_isPaint_8 ?_
  refine j_i2l C dX10_isPaint_9 ?_
  obtain ⟨r1, q2, h⟩ := jl_bind h
  refine j_cS1 C (mX10_in (jlaunch X) D p1.toInt64 ((1 : Int64)) ((t_told_ ((2 : Int32)).toNatClampNeg).toInt64) r1 q2) bmX10_60 btX10_in bzX10 bcX10_in hX10_in (rest := []) rfl (jroom_of rfl) [] [0, 1] [0, 1] (wr := [(h_t, .inr (8, [.int t_length, .ref h_t_text, .int t_at, .ref h_t_told, .ref h_t_touches, .ref h_t_has, .ref h_t_old, .ref h_t_beside, .int t_stones, .ref h_t_slot, .int t_kept, .int t_done, .int t_rows, .ref h_t_row, .ref h_t_free, .int t_frees, .ref h_t_worth, .ref h_t_fore, .ref h_t_back, .int t_fewest, .ref h_t_got])), (h_t_told, jI D 8 t_told_)]) (ws2 := [(h_t, .inr (8, [.int t_length, .ref h_t_text, .int t_at, .ref h_t_told, .ref h_t_touches, .ref h_t_has, .ref h_t_old, .ref h_t_beside, .int t_stones, .ref h_t_slot, .int t_kept, .int t_done, .int t_rows, .ref h_t_row, .ref h_t_free, .int t_frees, .ref h_t_worth, .ref h_t_fore, .ref h_t_back, .int t_fewest, .ref h_t_got])), (h_t_told, jI D 8 t_told_)]) rfl rfl rfl rfl rfl (Nat.le_of_ble_eq_true rfl) dX10_isPaint_10 ?_
  refine jl_grd2 h (fun b3 h => ?_)
  exact j_zretR C (r := r) (rtf := fun r => (some (.int r))) (wff := fun r => (oX10_isPaint D h_t h_t_text h_t_told h_t_touches h_t_has h_t_old h_t_beside h_t_slot h_t_row h_t_free h_t_worth h_t_fore h_t_back h_t_got t_length t_at t_stones t_kept t_done t_rows t_frees t_fewest t_told_ r)) E (jl_z01 b3) h rfl rfl dX10_isPaint_13
theorem dX10_stone_0 : decode cX10_stone 0 = .ok (.aload_n 0, 1) := by decide +kernel
theorem dX10_stone_1 : decode cX10_stone 1 = .ok (.iload_n 1, 1) := by decide +kernel
theorem dX10_stone_2 : decode cX10_stone 2 = .ok (.invokevirtual 117, 3) := by decide +kernel
theorem dX10_stone_5 : decode cX10_stone 5 = .ok (.ifCond .eq 15, 3) := by decide +kernel
theorem dX10_stone_8 : decode cX10_stone 8 = .ok (.iload_n 2, 1) := by decide +kernel
theorem dX10_stone_9 : decode cX10_stone 9 = .ok (.i2l, 1) := by decide +kernel
theorem dX10_stone_10 : decode cX10_stone 10 = .ok (.lconst 0, 1) := by decide +kernel
theorem dX10_stone_11 : decode cX10_stone 11 = .ok (.ldc2_w 75, 3) := by decide +kernel
theorem dX10_stone_14 : decode cX10_stone 14 = .ok (.invokestatic 60, 3) := by decide +kernel
theorem dX10_stone_17 : decode cX10_stone 17 = .ok (.ifCond .ne 5, 3) := by decide +kernel
theorem dX10_stone_20 : decode cX10_stone 20 = .ok (.iconst (-1), 1) := by decide +kernel
theorem dX10_stone_21 : decode cX10_stone 21 = .ok (.ireturn, 1) := by decide +kernel
theorem dX10_stone_22 : decode cX10_stone 22 = .ok (.iload_n 2, 1) := by decide +kernel
theorem dX10_stone_23 : decode cX10_stone 23 = .ok (.ifCond .ne 12, 3) := by decide +kernel
theorem dX10_stone_26 : decode cX10_stone 26 = .ok (.aload_n 0, 1) := by decide +kernel
theorem dX10_stone_27 : decode cX10_stone 27 = .ok (.getfield 30, 3) := by decide +kernel
theorem dX10_stone_30 : decode cX10_stone 30 = .ok (.iload_n 1, 1) := by decide +kernel
theorem dX10_stone_31 : decode cX10_stone 31 = .ok (.iaload, 1) := by decide +kernel
theorem dX10_stone_32 : decode cX10_stone 32 = .ok (.goto 39, 3) := by decide +kernel
theorem dX10_stone_35 : decode cX10_stone 35 = .ok (.iload_n 2, 1) := by decide +kernel
theorem dX10_stone_36 : decode cX10_stone 36 = .ok (.iconst 1, 1) := by decide +kernel
theorem dX10_stone_37 : decode cX10_stone 37 = .ok (.if_icmp .ne 28, 3) := by decide +kernel
theorem dX10_stone_40 : decode cX10_stone 40 = .ok (.aload_n 0, 1) := by decide +kernel
theorem dX10_stone_41 : decode cX10_stone 41 = .ok (.getfield 24, 3) := by decide +kernel
theorem dX10_stone_44 : decode cX10_stone 44 = .ok (.iload_n 1, 1) := by decide +kernel
theorem dX10_stone_45 : decode cX10_stone 45 = .ok (.iaload, 1) := by decide +kernel
theorem dX10_stone_46 : decode cX10_stone 46 = .ok (.i2l, 1) := by decide +kernel
theorem dX10_stone_47 : decode cX10_stone 47 = .ok (.lconst 1, 1) := by decide +kernel
theorem dX10_stone_48 : decode cX10_stone 48 = .ok (.ldc2_w 89, 3) := by decide +kernel
theorem dX10_stone_51 : decode cX10_stone 51 = .ok (.invokestatic 60, 3) := by decide +kernel
theorem dX10_stone_54 : decode cX10_stone 54 = .ok (.ifCond .eq 7, 3) := by decide +kernel
theorem dX10_stone_57 : decode cX10_stone 57 = .ok (.iconst 1, 1) := by decide +kernel
theorem dX10_stone_58 : decode cX10_stone 58 = .ok (.goto 13, 3) := by decide +kernel
theorem dX10_stone_61 : decode cX10_stone 61 = .ok (.iconst 0, 1) := by decide +kernel
theorem dX10_stone_62 : decode cX10_stone 62 = .ok (.goto 9, 3) := by decide +kernel
theorem dX10_stone_65 : decode cX10_stone 65 = .ok (.aload_n 0, 1) := by decide +kernel
theorem dX10_stone_66 : decode cX10_stone 66 = .ok (.getfield 27, 3) := by decide +kernel
theorem dX10_stone_69 : decode cX10_stone 69 = .ok (.iload_n 1, 1) := by decide +kernel
theorem dX10_stone_70 : decode cX10_stone 70 = .ok (.iaload, 1) := by decide +kernel
theorem dX10_stone_71 : decode cX10_stone 71 = .ok (.ireturn, 1) := by decide +kernel
def fX10_stone (t_stones : Int32) (t_old_ : Nat → Int32) (t_beside_ : Nat → Int32) (t_slot_ : Nat → Int32) (p1 : Int32) (p2 : Int32) : Option (Int32) :=
((fX10_isStone t_stones p1).bind fun r1 =>
(if r1 = 0 then
(some ((-1 : Int32)))
else
((fX10_in p2.toInt64 ((0 : Int64)) ((2 : Int64))).bind fun r4 =>
(if r4 = 0 then
(some ((-1 : Int32)))
else
(if p2 = 0 then
(if p1 < 0 ∨ 240 ≤ p1.toNatClampNeg then none else
(some (t_slot_ p1.toNatClampNeg)))
else
(if p2 = ((1 : Int32)) then
(if p1 < 0 ∨ 18 ≤ p1.toNatClampNeg then none else
((fX10_in ((t_old_ p1.toNatClampNeg).toInt64) ((1 : Int64)) ((3 : Int64))).bind fun r11 =>
(if r11 = 0 then
(some ((0 : Int32)))
else
(some ((1 : Int32))))))
else
(if p1 < 0 ∨ 9 ≤ p1.toNatClampNeg then none else
(some (t_beside_ p1.toNatClampNeg)))))))))
def oX10_stone (D : jv_D) (h_t : Nat) (h_t_text : Nat) (h_t_told : Nat) (h_t_touches : Nat) (h_t_has : Nat) (h_t_old : Nat) (h_t_beside : Nat) (h_t_slot : Nat) (h_t_row : Nat) (h_t_free : Nat) (h_t_worth : Nat) (h_t_fore : Nat) (h_t_back : Nat) (h_t_got : Nat) (t_length : Int32) (t_at : Int32) (t_stones : Int32) (t_kept : Int32) (t_done : Int32) (t_rows : Int32) (t_frees : Int32) (t_fewest : Int32) (t_old_ : Nat → Int32) (t_beside_ : Nat → Int32) (t_slot_ : Nat → Int32) (r : Int32) : va_W := [(h_t, .inr (8, [.int t_length, .ref h_t_text, .int t_at, .ref h_t_told, .ref h_t_touches, .ref h_t_has, .ref h_t_old, .ref h_t_beside, .int t_stones, .ref h_t_slot, .int t_kept, .int t_done, .int t_rows, .ref h_t_row, .ref h_t_free, .int t_frees, .ref h_t_worth, .ref h_t_fore, .ref h_t_back, .int t_fewest, .ref h_t_got])), (h_t_old, jI D 18 t_old_), (h_t_beside, jI D 9 t_beside_), (h_t_slot, jI D 240 t_slot_)]
set_option maxHeartbeats 40000000 in
set_option maxRecDepth 100000 in
theorem mX10_stone (l : Launch) (D : jv_D) (h_t : Nat) (h_t_text : Nat) (h_t_told : Nat) (h_t_touches : Nat) (h_t_has : Nat) (h_t_old : Nat) (h_t_beside : Nat) (h_t_slot : Nat) (h_t_row : Nat) (h_t_free : Nat) (h_t_worth : Nat) (h_t_fore : Nat) (h_t_back : Nat) (h_t_got : Nat) (t_length : Int32) (t_at : Int32) (t_stones : Int32) (t_kept : Int32) (t_done : Int32) (t_rows : Int32) (t_frees : Int32) (t_fewest : Int32) (t_old_ : Nat → Int32) (t_beside_ : Nat → Int32) (t_slot_ : Nat → Int32) (p1 : Int32) (p2 : Int32) (r : Int32) (h : fX10_stone t_stones t_old_ t_beside_ t_slot_ p1 p2 = some r) : MM l yX10_stone (jW yX10_stone cX10_stone 3 (some .int)) ({ frames := 2, cells := 0, slots := 0, locals := 46 }) D [.ref h_t, .int p1, .int p2] [(h_t, .inr (8, [.int t_length, .ref h_t_text, .int t_at, .ref h_t_told, .ref h_t_touches, .ref h_t_has, .ref h_t_old, .ref h_t_beside, .int t_stones, .ref h_t_slot, .int t_kept, .int t_done, .int t_rows, .ref h_t_row, .ref h_t_free, .int t_frees, .ref h_t_worth, .ref h_t_fore, .ref h_t_back, .int t_fewest, .ref h_t_got])), (h_t_old, jI D 18 t_old_), (h_t_beside, jI D 9 t_beside_), (h_t_slot, jI D 240 t_slot_)] (some (.int r)) (oX10_stone D h_t h_t_text h_t_told h_t_touches h_t_has h_t_old h_t_beside h_t_slot h_t_row h_t_free h_t_worth h_t_fore h_t_back h_t_got t_length t_at t_stones t_kept t_done t_rows t_frees t_fewest t_old_ t_beside_ t_slot_ r) := by
  refine mn_of hpX10_stone (Nat.le_of_ble_eq_true rfl) ?_
  intro X hXl C E0 hN
  subst hXl
  replace C : JC D X 3 RX10 cX10_stone ({ frames := 2, cells := 0, slots := 0, locals := 46 }) := C
  have E : JE D X 0 0 (some .int) (fun _ : Unit => (some (.int r))) (fun _ : Unit => (oX10_stone D h_t h_t_text h_t_told h_t_touches h_t_has h_t_old h_t_beside h_t_slot h_t_row h_t_free h_t_worth h_t_fore h_t_back h_t_got t_length t_at t_stones t_kept t_done t_rows t_frees t_fewest t_old_ t_beside_ t_slot_ r)) := E0 0 0 rfl rfl
  clear E0 hN
  show JJ D X 3 0 0 0 [(0, .ref h_t), (1, .int p1), (2, .int p2)] [] [(h_t, .inr (8, [.int t_length, .ref h_t_text, .int t_at, .ref h_t_told, .ref h_t_touches, .ref h_t_has, .ref h_t_old, .ref h_t_beside, .int t_stones, .ref h_t_slot, .int t_kept, .int t_done, .int t_rows, .ref h_t_row, .ref h_t_free, .int t_frees, .ref h_t_worth, .ref h_t_fore, .ref h_t_back, .int t_fewest, .ref h_t_got])), (h_t_old, jI D 18 t_old_), (h_t_beside, jI D 9 t_beside_), (h_t_slot, jI D 240 t_slot_)]
  unfold fX10_stone at h
  refine j_aload_n C dX10_stone_0 rfl 0 rfl ?_
  refine j_iload_n C dX10_stone_1 rfl 1 rfl ?_
  obtain ⟨r1, q2, h⟩ := jl_bind h
  refine j_cV1 C (mX10_isStone (jlaunch X) D h_t h_t_text h_t_told h_t_touches h_t_has h_t_old h_t_beside h_t_slot h_t_row h_t_free h_t_worth h_t_fore h_t_back h_t_got t_length t_at t_stones t_kept t_done t_rows t_frees t_fewest p1 r1 q2) bmX10_117 biX10_isStone bsX10_isStone bzX10 bcX10_isStone rfl hX10_isStone (rest := []) rfl (jroom_of rfl) 0 (ci := 8) rfl rfl rfl [0] [1, 2, 3] [3, 0, 1, 2] (wr := [(h_t_old, jI D 18 t_old_), (h_t_beside, jI D 9 t_beside_), (h_t_slot, jI D 240 t_slot_)]) (ws2 := [(h_t, .inr (8, [.int t_length, .ref h_t_text, .int t_at, .ref h_t_told, .ref h_t_touches, .ref h_t_has, .ref h_t_old, .ref h_t_beside, .int t_stones, .ref h_t_slot, .int t_kept, .int t_done, .int t_rows, .ref h_t_row, .ref h_t_free, .int t_frees, .ref h_t_worth, .ref h_t_fore, .ref h_t_back, .int t_fewest, .ref h_t_got])), (h_t_old, jI D 18 t_old_), (h_t_beside, jI D 9 t_beside_), (h_t_slot, jI D 240 t_slot_)]) rfl rfl rfl rfl rfl (Nat.le_of_ble_eq_true rfl) dX10_stone_2 ?_
  refine j_if_eq C (tgt := 20) dX10_stone_5 (by decide) h (fun c3 h => ?_) (fun c3 h => ?_)
  · refine j_iconst C dX10_stone_20 (v := (-1 : Int32)) (by decide) ?_
    exact j_iretR C (r := r) (rtf := fun r => (some (.int r))) (wff := fun r => (oX10_stone D h_t h_t_text h_t_told h_t_touches h_t_has h_t_old h_t_beside h_t_slot h_t_row h_t_free h_t_worth h_t_fore h_t_back h_t_got t_length t_at t_stones t_kept t_done t_rows t_frees t_fewest t_old_ t_beside_ t_slot_ r)) E h rfl rfl dX10_stone_21
  · refine j_iload_n C dX10_stone_8 rfl 2 rfl ?_
    refine j_i2l C dX10_stone_9 ?_
    refine j_lconst C dX10_stone_10 (v := (0 : Int64)) (by decide) ?_
    refine j_ldc2_w C bKX10_75 dX10_stone_11 ?_
    obtain ⟨r4, q5, h⟩ := jl_bind h
    refine j_cS1 C (mX10_in (jlaunch X) D p2.toInt64 ((0 : Int64)) ((2 : Int64)) r4 q5) bmX10_60 btX10_in bzX10 bcX10_in hX10_in (rest := []) rfl (jroom_of rfl) [] [0, 1, 2, 3] [0, 1, 2, 3] (wr := [(h_t, .inr (8, [.int t_length, .ref h_t_text, .int t_at, .ref h_t_told, .ref h_t_touches, .ref h_t_has, .ref h_t_old, .ref h_t_beside, .int t_stones, .ref h_t_slot, .int t_kept, .int t_done, .int t_rows, .ref h_t_row, .ref h_t_free, .int t_frees, .ref h_t_worth, .ref h_t_fore, .ref h_t_back, .int t_fewest, .ref h_t_got])), (h_t_old, jI D 18 t_old_), (h_t_beside, jI D 9 t_beside_), (h_t_slot, jI D 240 t_slot_)]) (ws2 := [(h_t, .inr (8, [.int t_length, .ref h_t_text, .int t_at, .ref h_t_told, .ref h_t_touches, .ref h_t_has, .ref h_t_old, .ref h_t_beside, .int t_stones, .ref h_t_slot, .int t_kept, .int t_done, .int t_rows, .ref h_t_row, .ref h_t_free, .int t_frees, .ref h_t_worth, .ref h_t_fore, .ref h_t_back, .int t_fewest, .ref h_t_got])), (h_t_old, jI D 18 t_old_), (h_t_beside, jI D 9 t_beside_), (h_t_slot, jI D 240 t_slot_)]) rfl rfl rfl rfl rfl (Nat.le_of_ble_eq_true rfl) dX10_stone_14 ?_
    refine j_if_ne C (tgt := 22) dX10_stone_17 (by decide) h (fun c6 h => ?_) (fun c6 h => ?_)
    · refine j_iconst C dX10_stone_20 (v := (-1 : Int32)) (by decide) ?_
      exact j_iretR C (r := r) (rtf := fun r => (some (.int r))) (wff := fun r => (oX10_stone D h_t h_t_text h_t_told h_t_touches h_t_has h_t_old h_t_beside h_t_slot h_t_row h_t_free h_t_worth h_t_fore h_t_back h_t_got t_length t_at t_stones t_kept t_done t_rows t_frees t_fewest t_old_ t_beside_ t_slot_ r)) E h rfl rfl dX10_stone_21
    · refine j_iload_n C dX10_stone_22 rfl 2 rfl ?_
      refine j_if_ne C (tgt := 35) dX10_stone_23 (by decide) h (fun c7 h => ?_) (fun c7 h => ?_)
      · refine j_aload_n C dX10_stone_26 rfl 0 rfl ?_
        refine j_get C ibX10 (ci := 8) 0 rfl rfl 9 (by decide) bfX10_30 (v := .ref h_t_slot) rfl dX10_stone_27 ?_
        refine j_iload_n C dX10_stone_30 rfl 1 rfl ?_
        refine jl_inb h (fun b8 h => ?_)
        refine j_iald C 3 rfl b8 dX10_stone_31 ?_
        refine j_goto C dX10_stone_32 (tgt := 71) (by decide) ?_
        exact j_iretR C (r := r) (rtf := fun r => (some (.int r))) (wff := fun r => (oX10_stone D h_t h_t_text h_t_told h_t_touches h_t_has h_t_old h_t_beside h_t_slot h_t_row h_t_free h_t_worth h_t_fore h_t_back h_t_got t_length t_at t_stones t_kept t_done t_rows t_frees t_fewest t_old_ t_beside_ t_slot_ r)) E h rfl rfl dX10_stone_71
      · refine j_iload_n C dX10_stone_35 rfl 2 rfl ?_
        refine j_iconst C dX10_stone_36 (v := (1 : Int32)) (by decide) ?_
        refine j_icmp_ne C (tgt := 65) dX10_stone_37 (by decide) h (fun c9 h => ?_) (fun c9 h => ?_)
        · refine j_aload_n C dX10_stone_40 rfl 0 rfl ?_
          refine j_get C ibX10 (ci := 8) 0 rfl rfl 6 (by decide) bfX10_24 (v := .ref h_t_old) rfl dX10_stone_41 ?_
          refine j_iload_n C dX10_stone_44 rfl 1 rfl ?_
          refine jl_inb h (fun b10 h => ?_)
          refine j_iald C 1 rfl b10 dX10_stone_45 ?_
          refine j_i2l C dX10_stone_46 ?_
          refine j_lconst C dX10_stone_47 (v := (1 : Int64)) (by decide) ?_
          refine j_ldc2_w C bKX10_89 dX10_stone_48 ?_
          obtain ⟨r11, q12, h⟩ := jl_bind h
          refine j_cS1 C (mX10_in (jlaunch X) D ((t_old_ p1.toNatClampNeg).toInt64) ((1 : Int64)) ((3 : Int64)) r11 q12) bmX10_60 btX10_in bzX10 bcX10_in hX10_in (rest := []) rfl (jroom_of rfl) [] [0, 1, 2, 3] [0, 1, 2, 3] (wr := [(h_t, .inr (8, [.int t_length, .ref h_t_text, .int t_at, .ref h_t_told, .ref h_t_touches, .ref h_t_has, .ref h_t_old, .ref h_t_beside, .int t_stones, .ref h_t_slot, .int t_kept, .int t_done, .int t_rows, .ref h_t_row, .ref h_t_free, .int t_frees, .ref h_t_worth, .ref h_t_fore, .ref h_t_back, .int t_fewest, .ref h_t_got])), (h_t_old, jI D 18 t_old_), (h_t_beside, jI D 9 t_beside_), (h_t_slot, jI D 240 t_slot_)]) (ws2 := [(h_t, .inr (8, [.int t_length, .ref h_t_text, .int t_at, .ref h_t_told, .ref h_t_touches, .ref h_t_has, .ref h_t_old, .ref h_t_beside, .int t_stones, .ref h_t_slot, .int t_kept, .int t_done, .int t_rows, .ref h_t_row, .ref h_t_free, .int t_frees, .ref h_t_worth, .ref h_t_fore, .ref h_t_back, .int t_fewest, .ref h_t_got])), (h_t_old, jI D 18 t_old_), (h_t_beside, jI D 9 t_beside_), (h_t_slot, jI D 240 t_slot_)]) rfl rfl rfl rfl rfl (Nat.le_of_ble_eq_true rfl) dX10_stone_51 ?_
          refine j_if_eq C (tgt := 61) dX10_stone_54 (by decide) h (fun c13 h => ?_) (fun c13 h => ?_)
          · refine j_iconst C dX10_stone_61 (v := (0 : Int32)) (by decide) ?_
            refine j_goto C dX10_stone_62 (tgt := 71) (by decide) ?_
            exact j_iretR C (r := r) (rtf := fun r => (some (.int r))) (wff := fun r => (oX10_stone D h_t h_t_text h_t_told h_t_touches h_t_has h_t_old h_t_beside h_t_slot h_t_row h_t_free h_t_worth h_t_fore h_t_back h_t_got t_length t_at t_stones t_kept t_done t_rows t_frees t_fewest t_old_ t_beside_ t_slot_ r)) E h rfl rfl dX10_stone_71
          · refine j_iconst C dX10_stone_57 (v := (1 : Int32)) (by decide) ?_
            refine j_goto C dX10_stone_58 (tgt := 71) (by decide) ?_
            exact j_iretR C (r := r) (rtf := fun r => (some (.int r))) (wff := fun r => (oX10_stone D h_t h_t_text h_t_told h_t_touches h_t_has h_t_old h_t_beside h_t_slot h_t_row h_t_free h_t_worth h_t_fore h_t_back h_t_got t_length t_at t_stones t_kept t_done t_rows t_frees t_fewest t_old_ t_beside_ t_slot_ r)) E h rfl rfl dX10_stone_71
        · refine j_aload_n C dX10_stone_65 rfl 0 rfl ?_
          refine j_get C ibX10 (ci := 8) 0 rfl rfl 7 (by decide) bfX10_27 (v := .ref h_t_beside) rfl dX10_stone_66 ?_
          refine j_iload_n C dX10_stone_69 rfl 1 rfl ?_
          refine jl_inb h (fun b14 h => ?_)
          refine j_iald C 2 rfl b14 dX10_stone_70 ?_
          exact j_iretR C (r := r) (rtf := fun r => (some (.int r))) (wff := fun r => (oX10_stone D h_t h_t_text h_t_told h_t_touches h_t_has h_t_old h_t_beside h_t_slot h_t_row h_t_free h_t_worth h_t_fore h_t_back h_t_got t_length t_at t_stones t_kept t_done t_rows t_frees t_fewest t_old_ t_beside_ t_slot_ r)) E h rfl rfl dX10_stone_71
theorem dX10_touch_0 : decode cX10_touch 0 = .ok (.aload_n 0, 1) := by decide +kernel
theorem dX10_touch_1 : decode cX10_touch 1 = .ok (.iload_n 1, 1) := by decide +kernel
theorem dX10_touch_2 : decode cX10_touch 2 = .ok (.invokevirtual 120, 3) := by decide +kernel
theorem dX10_touch_5 : decode cX10_touch 5 = .ok (.ifCond .eq 11, 3) := by decide +kernel
theorem dX10_touch_8 : decode cX10_touch 8 = .ok (.aload_n 0, 1) := by decide +kernel
theorem dX10_touch_9 : decode cX10_touch 9 = .ok (.iload_n 2, 1) := by decide +kernel
theorem dX10_touch_10 : decode cX10_touch 10 = .ok (.invokevirtual 120, 3) := by decide +kernel
theorem dX10_touch_13 : decode cX10_touch 13 = .ok (.ifCond .ne 7, 3) := by decide +kernel
theorem dX10_touch_16 : decode cX10_touch 16 = .ok (.iconst (-1), 1) := by decide +kernel
theorem dX10_touch_17 : decode cX10_touch 17 = .ok (.goto 21, 3) := by decide +kernel
theorem dX10_touch_20 : decode cX10_touch 20 = .ok (.aload_n 0, 1) := by decide +kernel
theorem dX10_touch_21 : decode cX10_touch 21 = .ok (.getfield 17, 3) := by decide +kernel
theorem dX10_touch_24 : decode cX10_touch 24 = .ok (.iconst 4, 1) := by decide +kernel
theorem dX10_touch_25 : decode cX10_touch 25 = .ok (.iload_n 1, 1) := by decide +kernel
theorem dX10_touch_26 : decode cX10_touch 26 = .ok (.imul, 1) := by decide +kernel
theorem dX10_touch_27 : decode cX10_touch 27 = .ok (.iload_n 2, 1) := by decide +kernel
theorem dX10_touch_28 : decode cX10_touch 28 = .ok (.iadd, 1) := by decide +kernel
theorem dX10_touch_29 : decode cX10_touch 29 = .ok (.baload, 1) := by decide +kernel
theorem dX10_touch_30 : decode cX10_touch 30 = .ok (.ifCond .eq 7, 3) := by decide +kernel
theorem dX10_touch_33 : decode cX10_touch 33 = .ok (.iconst 1, 1) := by decide +kernel
theorem dX10_touch_34 : decode cX10_touch 34 = .ok (.goto 4, 3) := by decide +kernel
theorem dX10_touch_37 : decode cX10_touch 37 = .ok (.iconst 0, 1) := by decide +kernel
theorem dX10_touch_38 : decode cX10_touch 38 = .ok (.ireturn, 1) := by decide +kernel
def fX10_touch (t_told_ : Nat → Int32) (t_touches_ : Nat → Int32) (p1 : Int32) (p2 : Int32) : Option (Int32) :=
((fX10_isPaint t_told_ p1).bind fun r1 =>
(if r1 = 0 then
(some ((-1 : Int32)))
else
((fX10_isPaint t_told_ p2).bind fun r4 =>
(if r4 = 0 then
(some ((-1 : Int32)))
else
(if ((((4 : Int32)) * p1) + p2) < 0 ∨ 32 ≤ ((((4 : Int32)) * p1) + p2).toNatClampNeg then none else
(if (t_touches_ ((((4 : Int32)) * p1) + p2).toNatClampNeg) = 0 then
(some ((0 : Int32)))
else
(some ((1 : Int32)))))))))
def oX10_touch (D : jv_D) (h_t : Nat) (h_t_text : Nat) (h_t_told : Nat) (h_t_touches : Nat) (h_t_has : Nat) (h_t_old : Nat) (h_t_beside : Nat) (h_t_slot : Nat) (h_t_row : Nat) (h_t_free : Nat) (h_t_worth : Nat) (h_t_fore : Nat) (h_t_back : Nat) (h_t_got : Nat) (t_length : Int32) (t_at : Int32) (t_stones : Int32) (t_kept : Int32) (t_done : Int32) (t_rows : Int32) (t_frees : Int32) (t_fewest : Int32) (t_told_ : Nat → Int32) (t_touches_ : Nat → Int32) (r : Int32) : va_W := [(h_t, .inr (8, [.int t_length, .ref h_t_text, .int t_at, .ref h_t_told, .ref h_t_touches, .ref h_t_has, .ref h_t_old, .ref h_t_beside, .int t_stones, .ref h_t_slot, .int t_kept, .int t_done, .int t_rows, .ref h_t_row, .ref h_t_free, .int t_frees, .ref h_t_worth, .ref h_t_fore, .ref h_t_back, .int t_fewest, .ref h_t_got])), (h_t_told, jI D 8 t_told_), (h_t_touches, jZ D 32 t_touches_)]
set_option maxHeartbeats 40000000 in
set_option maxRecDepth 100000 in
theorem mX10_touch (l : Launch) (D : jv_D) (h_t : Nat) (h_t_text : Nat) (h_t_told : Nat) (h_t_touches : Nat) (h_t_has : Nat) (h_t_old : Nat) (h_t_beside : Nat) (h_t_slot : Nat) (h_t_row : Nat) (h_t_free : Nat) (h_t_worth : Nat) (h_t_fore : Nat) (h_t_back : Nat) (h_t_got : Nat) (t_length : Int32) (t_at : Int32) (t_stones : Int32) (t_kept : Int32) (t_done : Int32) (t_rows : Int32) (t_frees : Int32) (t_fewest : Int32) (t_told_ : Nat → Int32) (t_touches_ : Nat → Int32) (p1 : Int32) (p2 : Int32) (r : Int32) (h : fX10_touch t_told_ t_touches_ p1 p2 = some r) : MM l yX10_touch (jW yX10_touch cX10_touch 3 (some .int)) ({ frames := 2, cells := 0, slots := 0, locals := 46 }) D [.ref h_t, .int p1, .int p2] [(h_t, .inr (8, [.int t_length, .ref h_t_text, .int t_at, .ref h_t_told, .ref h_t_touches, .ref h_t_has, .ref h_t_old, .ref h_t_beside, .int t_stones, .ref h_t_slot, .int t_kept, .int t_done, .int t_rows, .ref h_t_row, .ref h_t_free, .int t_frees, .ref h_t_worth, .ref h_t_fore, .ref h_t_back, .int t_fewest, .ref h_t_got])), (h_t_told, jI D 8 t_told_), (h_t_touches, jZ D 32 t_touches_)] (some (.int r)) (oX10_touch D h_t h_t_text h_t_told h_t_touches h_t_has h_t_old h_t_beside h_t_slot h_t_row h_t_free h_t_worth h_t_fore h_t_back h_t_got t_length t_at t_stones t_kept t_done t_rows t_frees t_fewest t_told_ t_touches_ r) := by
  refine mn_of hpX10_touch (Nat.le_of_ble_eq_true rfl) ?_
  intro X hXl C E0 hN
  subst hXl
  replace C : JC D X 3 RX10 cX10_touch ({ frames := 2, cells := 0, slots := 0, locals := 46 }) := C
  have E : JE D X 0 0 (some .int) (fun _ : Unit => (some (.int r))) (fun _ : Unit => (oX10_touch D h_t h_t_text h_t_told h_t_touches h_t_has h_t_old h_t_beside h_t_slot h_t_row h_t_free h_t_worth h_t_fore h_t_back h_t_got t_length t_at t_stones t_kept t_done t_rows t_frees t_fewest t_told_ t_touches_ r)) := E0 0 0 rfl rfl
  clear E0 hN
  show JJ D X 3 0 0 0 [(0, .ref h_t), (1, .int p1), (2, .int p2)] [] [(h_t, .inr (8, [.int t_length, .ref h_t_text, .int t_at, .ref h_t_told, .ref h_t_touches, .ref h_t_has, .ref h_t_old, .ref h_t_beside, .int t_stones, .ref h_t_slot, .int t_kept, .int t_done, .int t_rows, .ref h_t_row, .ref h_t_free, .int t_frees, .ref h_t_worth, .ref h_t_fore, .ref h_t_back, .int t_fewest, .ref h_t_got])), (h_t_told, jI D 8 t_told_), (h_t_touches, jZ D 32 t_touches_)]
  unfold fX10_touch at h
  refine j_aload_n C dX10_touch_0 rfl 0 rfl ?_
  refine j_iload_n C dX10_touch_1 rfl 1 rfl ?_
  obtain ⟨r1, q2, h⟩ := jl_bind h
  refine j_cV1 C (mX10_isPaint (jlaunch X) D h_t h_t_text h_t_told h_t_touches h_t_has h_t_old h_t_beside h_t_slot h_t_row h_t_free h_t_worth h_t_fore h_t_back h_t_got t_length t_at t_stones t_kept t_done t_rows t_frees t_fewest t_told_ p1 r1 q2) bmX10_120 biX10_isPaint bsX10_isPaint bzX10 bcX10_isPaint rfl hX10_isPaint (rest := []) rfl (jroom_of rfl) 0 (ci := 8) rfl rfl rfl [0, 1] [2] [1, 2, 0] (wr := [(h_t_touches, jZ D 32 t_touches_)]) (ws2 := [(h_t, .inr (8, [.int t_length, .ref h_t_text, .int t_at, .ref h_t_told, .ref h_t_touches, .ref h_t_has, .ref h_t_old, .ref h_t_beside, .int t_stones, .ref h_t_slot, .int t_kept, .int t_done, .int t_rows, .ref h_t_row, .ref h_t_free, .int t_frees, .ref h_t_worth, .ref h_t_fore, .ref h_t_back, .int t_fewest, .ref h_t_got])), (h_t_told, jI D 8 t_told_), (h_t_touches, jZ D 32 t_touches_)]) rfl rfl rfl rfl rfl (Nat.le_of_ble_eq_true rfl) dX10_touch_2 ?_
  refine j_if_eq C (tgt := 16) dX10_touch_5 (by decide) h (fun c3 h => ?_) (fun c3 h => ?_)
  · refine j_iconst C dX10_touch_16 (v := (-1 : Int32)) (by decide) ?_
    refine j_goto C dX10_touch_17 (tgt := 38) (by decide) ?_
    exact j_iretR C (r := r) (rtf := fun r => (some (.int r))) (wff := fun r => (oX10_touch D h_t h_t_text h_t_told h_t_touches h_t_has h_t_old h_t_beside h_t_slot h_t_row h_t_free h_t_worth h_t_fore h_t_back h_t_got t_length t_at t_stones t_kept t_done t_rows t_frees t_fewest t_told_ t_touches_ r)) E h rfl rfl dX10_touch_38
  · refine j_aload_n C dX10_touch_8 rfl 0 rfl ?_
    refine j_iload_n C dX10_touch_9 rfl 2 rfl ?_
    obtain ⟨r4, q5, h⟩ := jl_bind h
    refine j_cV1 C (mX10_isPaint (jlaunch X) D h_t h_t_text h_t_told h_t_touches h_t_has h_t_old h_t_beside h_t_slot h_t_row h_t_free h_t_worth h_t_fore h_t_back h_t_got t_length t_at t_stones t_kept t_done t_rows t_frees t_fewest t_told_ p2 r4 q5) bmX10_120 biX10_isPaint bsX10_isPaint bzX10 bcX10_isPaint rfl hX10_isPaint (rest := []) rfl (jroom_of rfl) 0 (ci := 8) rfl rfl rfl [0, 1] [2] [1, 2, 0] (wr := [(h_t_touches, jZ D 32 t_touches_)]) (ws2 := [(h_t, .inr (8, [.int t_length, .ref h_t_text, .int t_at, .ref h_t_told, .ref h_t_touches, .ref h_t_has, .ref h_t_old, .ref h_t_beside, .int t_stones, .ref h_t_slot, .int t_kept, .int t_done, .int t_rows, .ref h_t_row, .ref h_t_free, .int t_frees, .ref h_t_worth, .ref h_t_fore, .ref h_t_back, .int t_fewest, .ref h_t_got])), (h_t_told, jI D 8 t_told_), (h_t_touches, jZ D 32 t_touches_)]) rfl rfl rfl rfl rfl (Nat.le_of_ble_eq_true rfl) dX10_touch_10 ?_
    refine j_if_ne C (tgt := 20) dX10_touch_13 (by decide) h (fun c6 h => ?_) (fun c6 h => ?_)
    · refine j_iconst C dX10_touch_16 (v := (-1 : Int32)) (by decide) ?_
      refine j_goto C dX10_touch_17 (tgt := 38) (by decide) ?_
      exact j_iretR C (r := r) (rtf := fun r => (some (.int r))) (wff := fun r => (oX10_touch D h_t h_t_text h_t_told h_t_touches h_t_has h_t_old h_t_beside h_t_slot h_t_row h_t_free h_t_worth h_t_fore h_t_back h_t_got t_length t_at t_stones t_kept t_done t_rows t_frees t_fewest t_told_ t_touches_ r)) E h rfl rfl dX10_touch_38
    · refine j_aload_n C dX10_touch_20 rfl 0 rfl ?_
      refine j_get C ibX10 (ci := 8) 0 rfl rfl 4 (by decide) bfX10_17 (v := .ref h_t_touches) rfl dX10_touch_21 ?_
      refine j_iconst C dX10_touch_24 (v := (4 : Int32)) (by decide) ?_
      refine j_iload_n C dX10_touch_25 rfl 1 rfl ?_
      refine j_imul C dX10_touch_26 ?_
      refine j_iload_n C dX10_touch_27 rfl 2 rfl ?_
      refine j_iadd C dX10_touch_28 ?_
      refine jl_inb h (fun b7 h => ?_)
      refine j_zald C 2 rfl b7 dX10_touch_29 ?_
      refine j_if_eq C (tgt := 37) dX10_touch_30 (by decide) h (fun c8 h => ?_) (fun c8 h => ?_)
      · refine j_iconst C dX10_touch_37 (v := (0 : Int32)) (by decide) ?_
        exact j_iretR C (r := r) (rtf := fun r => (some (.int r))) (wff := fun r => (oX10_touch D h_t h_t_text h_t_told h_t_touches h_t_has h_t_old h_t_beside h_t_slot h_t_row h_t_free h_t_worth h_t_fore h_t_back h_t_got t_length t_at t_stones t_kept t_done t_rows t_frees t_fewest t_told_ t_touches_ r)) E h rfl rfl dX10_touch_38
      · refine j_iconst C dX10_touch_33 (v := (1 : Int32)) (by decide) ?_
        refine j_goto C dX10_touch_34 (tgt := 38) (by decide) ?_
        exact j_iretR C (r := r) (rtf := fun r => (some (.int r))) (wff := fun r => (oX10_touch D h_t h_t_text h_t_told h_t_touches h_t_has h_t_old h_t_beside h_t_slot h_t_row h_t_free h_t_worth h_t_fore h_t_back h_t_got t_length t_at t_stones t_kept t_done t_rows t_frees t_fewest t_told_ t_touches_ r)) E h rfl rfl dX10_touch_38
