theorem dX8_init_0 : decode cX8_init 0 = .ok (.aload_n 0, 1) := by decide +kernel
theorem dX8_init_1 : decode cX8_init 1 = .ok (.invokespecial 1, 3) := by decide +kernel
theorem dX8_init_4 : decode cX8_init 4 = .ok (.aload_n 0, 1) := by decide +kernel
theorem dX8_init_5 : decode cX8_init 5 = .ok (.iconst 0, 1) := by decide +kernel
theorem dX8_init_6 : decode cX8_init 6 = .ok (.putfield 7, 3) := by decide +kernel
theorem dX8_init_9 : decode cX8_init 9 = .ok (.aload_n 0, 1) := by decide +kernel
theorem dX8_init_10 : decode cX8_init 10 = .ok (.iconst 0, 1) := by decide +kernel
theorem dX8_init_11 : decode cX8_init 11 = .ok (.putfield 13, 3) := by decide +kernel
theorem dX8_init_14 : decode cX8_init 14 = .ok (.aload_n 0, 1) := by decide +kernel
theorem dX8_init_15 : decode cX8_init 15 = .ok (.bipush 6, 2) := by decide +kernel
theorem dX8_init_17 : decode cX8_init 17 = .ok (.newarray .int, 2) := by decide +kernel
theorem dX8_init_19 : decode cX8_init 19 = .ok (.putfield 16, 3) := by decide +kernel
theorem dX8_init_22 : decode cX8_init 22 = .ok (.aload_n 0, 1) := by decide +kernel
theorem dX8_init_23 : decode cX8_init 23 = .ok (.bipush 6, 2) := by decide +kernel
theorem dX8_init_25 : decode cX8_init 25 = .ok (.newarray .int, 2) := by decide +kernel
theorem dX8_init_27 : decode cX8_init 27 = .ok (.putfield 20, 3) := by decide +kernel
theorem dX8_init_30 : decode cX8_init 30 = .ok (.aload_n 0, 1) := by decide +kernel
theorem dX8_init_31 : decode cX8_init 31 = .ok (.bipush 6, 2) := by decide +kernel
theorem dX8_init_33 : decode cX8_init 33 = .ok (.newarray .int, 2) := by decide +kernel
theorem dX8_init_35 : decode cX8_init 35 = .ok (.putfield 23, 3) := by decide +kernel
theorem dX8_init_38 : decode cX8_init 38 = .ok (.aload_n 0, 1) := by decide +kernel
theorem dX8_init_39 : decode cX8_init 39 = .ok (.bipush 6, 2) := by decide +kernel
theorem dX8_init_41 : decode cX8_init 41 = .ok (.newarray .int, 2) := by decide +kernel
theorem dX8_init_43 : decode cX8_init 43 = .ok (.putfield 26, 3) := by decide +kernel
theorem dX8_init_46 : decode cX8_init 46 = .ok (.aload_n 0, 1) := by decide +kernel
theorem dX8_init_47 : decode cX8_init 47 = .ok (.bipush 24, 2) := by decide +kernel
theorem dX8_init_49 : decode cX8_init 49 = .ok (.newarray .int, 2) := by decide +kernel
theorem dX8_init_51 : decode cX8_init 51 = .ok (.putfield 29, 3) := by decide +kernel
theorem dX8_init_54 : decode cX8_init 54 = .ok (.aload_n 0, 1) := by decide +kernel
theorem dX8_init_55 : decode cX8_init 55 = .ok (.iconst 0, 1) := by decide +kernel
theorem dX8_init_56 : decode cX8_init 56 = .ok (.putfield 32, 3) := by decide +kernel
theorem dX8_init_59 : decode cX8_init 59 = .ok (.aload_n 0, 1) := by decide +kernel
theorem dX8_init_60 : decode cX8_init 60 = .ok (.iconst (-1), 1) := by decide +kernel
theorem dX8_init_61 : decode cX8_init 61 = .ok (.putfield 35, 3) := by decide +kernel
theorem dX8_init_64 : decode cX8_init 64 = .ok (.aload_n 0, 1) := by decide +kernel
theorem dX8_init_65 : decode cX8_init 65 = .ok (.iconst 0, 1) := by decide +kernel
theorem dX8_init_66 : decode cX8_init 66 = .ok (.putfield 38, 3) := by decide +kernel
theorem dX8_init_69 : decode cX8_init 69 = .ok (.aload_n 0, 1) := by decide +kernel
theorem dX8_init_70 : decode cX8_init 70 = .ok (.iconst 0, 1) := by decide +kernel
theorem dX8_init_71 : decode cX8_init 71 = .ok (.putfield 41, 3) := by decide +kernel
theorem dX8_init_74 : decode cX8_init 74 = .ok (.aload_n 0, 1) := by decide +kernel
theorem dX8_init_75 : decode cX8_init 75 = .ok (.iconst 0, 1) := by decide +kernel
theorem dX8_init_76 : decode cX8_init 76 = .ok (.putfield 44, 3) := by decide +kernel
theorem dX8_init_79 : decode cX8_init 79 = .ok (.aload_n 0, 1) := by decide +kernel
theorem dX8_init_80 : decode cX8_init 80 = .ok (.bipush 100, 2) := by decide +kernel
theorem dX8_init_82 : decode cX8_init 82 = .ok (.newarray .int, 2) := by decide +kernel
theorem dX8_init_84 : decode cX8_init 84 = .ok (.putfield 47, 3) := by decide +kernel
theorem dX8_init_87 : decode cX8_init 87 = .ok (.aload_n 0, 1) := by decide +kernel
theorem dX8_init_88 : decode cX8_init 88 = .ok (.bipush 6, 2) := by decide +kernel
theorem dX8_init_90 : decode cX8_init 90 = .ok (.newarray .int, 2) := by decide +kernel
theorem dX8_init_92 : decode cX8_init 92 = .ok (.putfield 50, 3) := by decide +kernel
theorem dX8_init_95 : decode cX8_init 95 = .ok (.aload_n 0, 1) := by decide +kernel
theorem dX8_init_96 : decode cX8_init 96 = .ok (.bipush 60, 2) := by decide +kernel
theorem dX8_init_98 : decode cX8_init 98 = .ok (.newarray .int, 2) := by decide +kernel
theorem dX8_init_100 : decode cX8_init 100 = .ok (.putfield 53, 3) := by decide +kernel
theorem dX8_init_103 : decode cX8_init 103 = .ok (.aload_n 0, 1) := by decide +kernel
theorem dX8_init_104 : decode cX8_init 104 = .ok (.bipush 60, 2) := by decide +kernel
theorem dX8_init_106 : decode cX8_init 106 = .ok (.newarray .int, 2) := by decide +kernel
theorem dX8_init_108 : decode cX8_init 108 = .ok (.putfield 56, 3) := by decide +kernel
theorem dX8_init_111 : decode cX8_init 111 = .ok (.aload_n 0, 1) := by decide +kernel
theorem dX8_init_112 : decode cX8_init 112 = .ok (.bipush 60, 2) := by decide +kernel
theorem dX8_init_114 : decode cX8_init 114 = .ok (.newarray .int, 2) := by decide +kernel
theorem dX8_init_116 : decode cX8_init 116 = .ok (.putfield 59, 3) := by decide +kernel
theorem dX8_init_119 : decode cX8_init 119 = .ok (.aload_n 0, 1) := by decide +kernel
theorem dX8_init_120 : decode cX8_init 120 = .ok (.bipush 60, 2) := by decide +kernel
theorem dX8_init_122 : decode cX8_init 122 = .ok (.newarray .int, 2) := by decide +kernel
theorem dX8_init_124 : decode cX8_init 124 = .ok (.putfield 62, 3) := by decide +kernel
theorem dX8_init_127 : decode cX8_init 127 = .ok (.aload_n 0, 1) := by decide +kernel
theorem dX8_init_128 : decode cX8_init 128 = .ok (.sipush 600, 3) := by decide +kernel
theorem dX8_init_131 : decode cX8_init 131 = .ok (.newarray .int, 2) := by decide +kernel
theorem dX8_init_133 : decode cX8_init 133 = .ok (.putfield 65, 3) := by decide +kernel
theorem dX8_init_136 : decode cX8_init 136 = .ok (.aload_n 0, 1) := by decide +kernel
theorem dX8_init_137 : decode cX8_init 137 = .ok (.bipush 101, 2) := by decide +kernel
theorem dX8_init_139 : decode cX8_init 139 = .ok (.newarray .int, 2) := by decide +kernel
theorem dX8_init_141 : decode cX8_init 141 = .ok (.putfield 68, 3) := by decide +kernel
theorem dX8_init_144 : decode cX8_init 144 = .ok (.aload_n 0, 1) := by decide +kernel
theorem dX8_init_145 : decode cX8_init 145 = .ok (.iconst 0, 1) := by decide +kernel
theorem dX8_init_146 : decode cX8_init 146 = .ok (.putfield 71, 3) := by decide +kernel
theorem dX8_init_149 : decode cX8_init 149 = .ok (.aload_n 0, 1) := by decide +kernel
theorem dX8_init_150 : decode cX8_init 150 = .ok (.iconst 0, 1) := by decide +kernel
theorem dX8_init_151 : decode cX8_init 151 = .ok (.putfield 74, 3) := by decide +kernel
theorem dX8_init_154 : decode cX8_init 154 = .ok (.aload_n 0, 1) := by decide +kernel
theorem dX8_init_155 : decode cX8_init 155 = .ok (.iconst 0, 1) := by decide +kernel
theorem dX8_init_156 : decode cX8_init 156 = .ok (.putfield 77, 3) := by decide +kernel
theorem dX8_init_159 : decode cX8_init 159 = .ok (.aload_n 0, 1) := by decide +kernel
theorem dX8_init_160 : decode cX8_init 160 = .ok (.bipush 20, 2) := by decide +kernel
theorem dX8_init_162 : decode cX8_init 162 = .ok (.newarray .int, 2) := by decide +kernel
theorem dX8_init_164 : decode cX8_init 164 = .ok (.dup, 1) := by decide +kernel
theorem dX8_init_165 : decode cX8_init 165 = .ok (.iconst 0, 1) := by decide +kernel
theorem dX8_init_166 : decode cX8_init 166 = .ok (.bipush 108, 2) := by decide +kernel
theorem dX8_init_168 : decode cX8_init 168 = .ok (.iastore, 1) := by decide +kernel
theorem dX8_init_169 : decode cX8_init 169 = .ok (.dup, 1) := by decide +kernel
theorem dX8_init_170 : decode cX8_init 170 = .ok (.iconst 1, 1) := by decide +kernel
theorem dX8_init_171 : decode cX8_init 171 = .ok (.bipush 111, 2) := by decide +kernel
theorem dX8_init_173 : decode cX8_init 173 = .ok (.iastore, 1) := by decide +kernel
theorem dX8_init_174 : decode cX8_init 174 = .ok (.dup, 1) := by decide +kernel
theorem dX8_init_175 : decode cX8_init 175 = .ok (.iconst 2, 1) := by decide +kernel
theorem dX8_init_176 : decode cX8_init 176 = .ok (.bipush 117, 2) := by decide +kernel
theorem dX8_init_178 : decode cX8_init 178 = .ok (.iastore, 1) := by decide +kernel
theorem dX8_init_179 : decode cX8_init 179 = .ok (.dup, 1) := by decide +kernel
theorem dX8_init_180 : decode cX8_init 180 = .ok (.iconst 3, 1) := by decide +kernel
theorem dX8_init_181 : decode cX8_init 181 = .ok (.bipush 100, 2) := by decide +kernel
theorem dX8_init_183 : decode cX8_init 183 = .ok (.iastore, 1) := by decide +kernel
theorem dX8_init_184 : decode cX8_init 184 = .ok (.dup, 1) := by decide +kernel
theorem dX8_init_185 : decode cX8_init 185 = .ok (.iconst 4, 1) := by decide +kernel
theorem dX8_init_186 : decode cX8_init 186 = .ok (.bipush 115, 2) := by decide +kernel
theorem dX8_init_188 : decode cX8_init 188 = .ok (.iastore, 1) := by decide +kernel
theorem dX8_init_189 : decode cX8_init 189 = .ok (.dup, 1) := by decide +kernel
theorem dX8_init_190 : decode cX8_init 190 = .ok (.iconst 5, 1) := by decide +kernel
theorem dX8_init_191 : decode cX8_init 191 = .ok (.bipush 111, 2) := by decide +kernel
theorem dX8_init_193 : decode cX8_init 193 = .ok (.iastore, 1) := by decide +kernel
theorem dX8_init_194 : decode cX8_init 194 = .ok (.dup, 1) := by decide +kernel
theorem dX8_init_195 : decode cX8_init 195 = .ok (.bipush 6, 2) := by decide +kernel
theorem dX8_init_197 : decode cX8_init 197 = .ok (.bipush 102, 2) := by decide +kernel
theorem dX8_init_199 : decode cX8_init 199 = .ok (.iastore, 1) := by decide +kernel
theorem dX8_init_200 : decode cX8_init 200 = .ok (.dup, 1) := by decide +kernel
theorem dX8_init_201 : decode cX8_init 201 = .ok (.bipush 7, 2) := by decide +kernel
theorem dX8_init_203 : decode cX8_init 203 = .ok (.bipush 116, 2) := by decide +kernel
theorem dX8_init_205 : decode cX8_init 205 = .ok (.iastore, 1) := by decide +kernel
theorem dX8_init_206 : decode cX8_init 206 = .ok (.dup, 1) := by decide +kernel
theorem dX8_init_207 : decode cX8_init 207 = .ok (.bipush 8, 2) := by decide +kernel
theorem dX8_init_209 : decode cX8_init 209 = .ok (.bipush 119, 2) := by decide +kernel
theorem dX8_init_211 : decode cX8_init 211 = .ok (.iastore, 1) := by decide +kernel
theorem dX8_init_212 : decode cX8_init 212 = .ok (.dup, 1) := by decide +kernel
theorem dX8_init_213 : decode cX8_init 213 = .ok (.bipush 9, 2) := by decide +kernel
theorem dX8_init_215 : decode cX8_init 215 = .ok (.bipush 97, 2) := by decide +kernel
theorem dX8_init_217 : decode cX8_init 217 = .ok (.iastore, 1) := by decide +kernel
theorem dX8_init_218 : decode cX8_init 218 = .ok (.dup, 1) := by decide +kernel
theorem dX8_init_219 : decode cX8_init 219 = .ok (.bipush 10, 2) := by decide +kernel
theorem dX8_init_221 : decode cX8_init 221 = .ok (.bipush 108, 2) := by decide +kernel
theorem dX8_init_223 : decode cX8_init 223 = .ok (.iastore, 1) := by decide +kernel
theorem dX8_init_224 : decode cX8_init 224 = .ok (.dup, 1) := by decide +kernel
theorem dX8_init_225 : decode cX8_init 225 = .ok (.bipush 11, 2) := by decide +kernel
theorem dX8_init_227 : decode cX8_init 227 = .ok (.bipush 108, 2) := by decide +kernel
theorem dX8_init_229 : decode cX8_init 229 = .ok (.iastore, 1) := by decide +kernel
theorem dX8_init_230 : decode cX8_init 230 = .ok (.dup, 1) := by decide +kernel
theorem dX8_init_231 : decode cX8_init 231 = .ok (.bipush 12, 2) := by decide +kernel
theorem dX8_init_233 : decode cX8_init 233 = .ok (.bipush 99, 2) := by decide +kernel
theorem dX8_init_235 : decode cX8_init 235 = .ok (.iastore, 1) := by decide +kernel
theorem dX8_init_236 : decode cX8_init 236 = .ok (.dup, 1) := by decide +kernel
theorem dX8_init_237 : decode cX8_init 237 = .ok (.bipush 13, 2) := by decide +kernel
theorem dX8_init_239 : decode cX8_init 239 = .ok (.bipush 97, 2) := by decide +kernel
theorem dX8_init_241 : decode cX8_init 241 = .ok (.iastore, 1) := by decide +kernel
theorem dX8_init_242 : decode cX8_init 242 = .ok (.dup, 1) := by decide +kernel
theorem dX8_init_243 : decode cX8_init 243 = .ok (.bipush 14, 2) := by decide +kernel
theorem dX8_init_245 : decode cX8_init 245 = .ok (.bipush 108, 2) := by decide +kernel
theorem dX8_init_247 : decode cX8_init 247 = .ok (.iastore, 1) := by decide +kernel
theorem dX8_init_248 : decode cX8_init 248 = .ok (.dup, 1) := by decide +kernel
theorem dX8_init_249 : decode cX8_init 249 = .ok (.bipush 15, 2) := by decide +kernel
theorem dX8_init_251 : decode cX8_init 251 = .ok (.bipush 109, 2) := by decide +kernel
theorem dX8_init_253 : decode cX8_init 253 = .ok (.iastore, 1) := by decide +kernel
theorem dX8_init_254 : decode cX8_init 254 = .ok (.dup, 1) := by decide +kernel
theorem dX8_init_255 : decode cX8_init 255 = .ok (.bipush 16, 2) := by decide +kernel
theorem dX8_init_257 : decode cX8_init 257 = .ok (.bipush 119, 2) := by decide +kernel
theorem dX8_init_259 : decode cX8_init 259 = .ok (.iastore, 1) := by decide +kernel
theorem dX8_init_260 : decode cX8_init 260 = .ok (.dup, 1) := by decide +kernel
theorem dX8_init_261 : decode cX8_init 261 = .ok (.bipush 17, 2) := by decide +kernel
theorem dX8_init_263 : decode cX8_init 263 = .ok (.bipush 101, 2) := by decide +kernel
theorem dX8_init_265 : decode cX8_init 265 = .ok (.iastore, 1) := by decide +kernel
theorem dX8_init_266 : decode cX8_init 266 = .ok (.dup, 1) := by decide +kernel
theorem dX8_init_267 : decode cX8_init 267 = .ok (.bipush 18, 2) := by decide +kernel
theorem dX8_init_269 : decode cX8_init 269 = .ok (.bipush 97, 2) := by decide +kernel
theorem dX8_init_271 : decode cX8_init 271 = .ok (.iastore, 1) := by decide +kernel
theorem dX8_init_272 : decode cX8_init 272 = .ok (.dup, 1) := by decide +kernel
theorem dX8_init_273 : decode cX8_init 273 = .ok (.bipush 19, 2) := by decide +kernel
theorem dX8_init_275 : decode cX8_init 275 = .ok (.bipush 114, 2) := by decide +kernel
theorem dX8_init_277 : decode cX8_init 277 = .ok (.iastore, 1) := by decide +kernel
theorem dX8_init_278 : decode cX8_init 278 = .ok (.putfield 80, 3) := by decide +kernel
theorem dX8_init_281 : decode cX8_init 281 = .ok (.aload_n 0, 1) := by decide +kernel
theorem dX8_init_282 : decode cX8_init 282 = .ok (.bipush 100, 2) := by decide +kernel
theorem dX8_init_284 : decode cX8_init 284 = .ok (.newarray .boolean, 2) := by decide +kernel
theorem dX8_init_286 : decode cX8_init 286 = .ok (.putfield 83, 3) := by decide +kernel
theorem dX8_init_289 : decode cX8_init 289 = .ok (.aload_n 0, 1) := by decide +kernel
theorem dX8_init_290 : decode cX8_init 290 = .ok (.iconst 5, 1) := by decide +kernel
theorem dX8_init_291 : decode cX8_init 291 = .ok (.newarray .int, 2) := by decide +kernel
theorem dX8_init_293 : decode cX8_init 293 = .ok (.putfield 87, 3) := by decide +kernel
theorem dX8_init_296 : decode cX8_init 296 = .ok (.aload_n 0, 1) := by decide +kernel
theorem dX8_init_297 : decode cX8_init 297 = .ok (.iconst 0, 1) := by decide +kernel
theorem dX8_init_298 : decode cX8_init 298 = .ok (.putfield 90, 3) := by decide +kernel
theorem dX8_init_301 : decode cX8_init 301 = .ok (.aload_n 0, 1) := by decide +kernel
theorem dX8_init_302 : decode cX8_init 302 = .ok (.bipush 6, 2) := by decide +kernel
theorem dX8_init_304 : decode cX8_init 304 = .ok (.newarray .int, 2) := by decide +kernel
theorem dX8_init_306 : decode cX8_init 306 = .ok (.putfield 93, 3) := by decide +kernel
theorem dX8_init_309 : decode cX8_init 309 = .ok (.aload_n 0, 1) := by decide +kernel
theorem dX8_init_310 : decode cX8_init 310 = .ok (.bipush 6, 2) := by decide +kernel
theorem dX8_init_312 : decode cX8_init 312 = .ok (.newarray .int, 2) := by decide +kernel
theorem dX8_init_314 : decode cX8_init 314 = .ok (.putfield 96, 3) := by decide +kernel
theorem dX8_init_317 : decode cX8_init 317 = .ok (.aload_n 0, 1) := by decide +kernel
theorem dX8_init_318 : decode cX8_init 318 = .ok (.sipush 150, 3) := by decide +kernel
theorem dX8_init_321 : decode cX8_init 321 = .ok (.newarray .int, 2) := by decide +kernel
theorem dX8_init_323 : decode cX8_init 323 = .ok (.putfield 99, 3) := by decide +kernel
theorem dX8_init_326 : decode cX8_init 326 = .ok (.aload_n 0, 1) := by decide +kernel
theorem dX8_init_327 : decode cX8_init 327 = .ok (.bipush 6, 2) := by decide +kernel
theorem dX8_init_329 : decode cX8_init 329 = .ok (.newarray .int, 2) := by decide +kernel
theorem dX8_init_331 : decode cX8_init 331 = .ok (.putfield 102, 3) := by decide +kernel
theorem dX8_init_334 : decode cX8_init 334 = .ok (.aload_n 0, 1) := by decide +kernel
theorem dX8_init_335 : decode cX8_init 335 = .ok (.iconst 0, 1) := by decide +kernel
theorem dX8_init_336 : decode cX8_init 336 = .ok (.putfield 105, 3) := by decide +kernel
theorem dX8_init_339 : decode cX8_init 339 = .ok (.aload_n 0, 1) := by decide +kernel
theorem dX8_init_340 : decode cX8_init 340 = .ok (.iconst 0, 1) := by decide +kernel
theorem dX8_init_341 : decode cX8_init 341 = .ok (.putfield 108, 3) := by decide +kernel
theorem dX8_init_344 : decode cX8_init 344 = .ok (.aload_n 0, 1) := by decide +kernel
theorem dX8_init_345 : decode cX8_init 345 = .ok (.iconst 0, 1) := by decide +kernel
theorem dX8_init_346 : decode cX8_init 346 = .ok (.putfield 111, 3) := by decide +kernel
theorem dX8_init_349 : decode cX8_init 349 = .ok (.aload_n 0, 1) := by decide +kernel
theorem dX8_init_350 : decode cX8_init 350 = .ok (.iconst 5, 1) := by decide +kernel
theorem dX8_init_351 : decode cX8_init 351 = .ok (.newarray .int, 2) := by decide +kernel
theorem dX8_init_353 : decode cX8_init 353 = .ok (.putfield 114, 3) := by decide +kernel
theorem dX8_init_356 : decode cX8_init 356 = .ok (.aload_n 0, 1) := by decide +kernel
theorem dX8_init_357 : decode cX8_init 357 = .ok (.iconst 5, 1) := by decide +kernel
theorem dX8_init_358 : decode cX8_init 358 = .ok (.newarray .int, 2) := by decide +kernel
theorem dX8_init_360 : decode cX8_init 360 = .ok (.putfield 117, 3) := by decide +kernel
theorem dX8_init_363 : decode cX8_init 363 = .ok (.aload_n 0, 1) := by decide +kernel
theorem dX8_init_364 : decode cX8_init 364 = .ok (.iconst 5, 1) := by decide +kernel
theorem dX8_init_365 : decode cX8_init 365 = .ok (.newarray .int, 2) := by decide +kernel
theorem dX8_init_367 : decode cX8_init 367 = .ok (.putfield 120, 3) := by decide +kernel
theorem dX8_init_370 : decode cX8_init 370 = .ok (.aload_n 0, 1) := by decide +kernel
theorem dX8_init_371 : decode cX8_init 371 = .ok (.iconst 0, 1) := by decide +kernel
theorem dX8_init_372 : decode cX8_init 372 = .ok (.putfield 123, 3) := by decide +kernel
theorem dX8_init_375 : decode cX8_init 375 = .ok (.aload_n 0, 1) := by decide +kernel
theorem dX8_init_376 : decode cX8_init 376 = .ok (.iconst 0, 1) := by decide +kernel
theorem dX8_init_377 : decode cX8_init 377 = .ok (.putfield 126, 3) := by decide +kernel
theorem dX8_init_380 : decode cX8_init 380 = .ok (.aload_n 0, 1) := by decide +kernel
theorem dX8_init_381 : decode cX8_init 381 = .ok (.bipush 10, 2) := by decide +kernel
theorem dX8_init_383 : decode cX8_init 383 = .ok (.newarray .int, 2) := by decide +kernel
theorem dX8_init_385 : decode cX8_init 385 = .ok (.putfield 129, 3) := by decide +kernel
theorem dX8_init_388 : decode cX8_init 388 = .ok (.aload_n 0, 1) := by decide +kernel
theorem dX8_init_389 : decode cX8_init 389 = .ok (.bipush 10, 2) := by decide +kernel
theorem dX8_init_391 : decode cX8_init 391 = .ok (.newarray .int, 2) := by decide +kernel
theorem dX8_init_393 : decode cX8_init 393 = .ok (.putfield 132, 3) := by decide +kernel
theorem dX8_init_396 : decode cX8_init 396 = .ok (.aload_n 0, 1) := by decide +kernel
theorem dX8_init_397 : decode cX8_init 397 = .ok (.bipush 8, 2) := by decide +kernel
theorem dX8_init_399 : decode cX8_init 399 = .ok (.newarray .int, 2) := by decide +kernel
theorem dX8_init_401 : decode cX8_init 401 = .ok (.putfield 135, 3) := by decide +kernel
theorem dX8_init_404 : decode cX8_init 404 = .ok (.aload_n 0, 1) := by decide +kernel
theorem dX8_init_405 : decode cX8_init 405 = .ok (.bipush 8, 2) := by decide +kernel
theorem dX8_init_407 : decode cX8_init 407 = .ok (.newarray .int, 2) := by decide +kernel
theorem dX8_init_409 : decode cX8_init 409 = .ok (.putfield 138, 3) := by decide +kernel
theorem dX8_init_412 : decode cX8_init 412 = .ok (.aload_n 0, 1) := by decide +kernel
theorem dX8_init_413 : decode cX8_init 413 = .ok (.iconst 0, 1) := by decide +kernel
theorem dX8_init_414 : decode cX8_init 414 = .ok (.putfield 141, 3) := by decide +kernel
theorem dX8_init_417 : decode cX8_init 417 = .ok (.aload_n 0, 1) := by decide +kernel
theorem dX8_init_418 : decode cX8_init 418 = .ok (.iconst (-1), 1) := by decide +kernel
theorem dX8_init_419 : decode cX8_init 419 = .ok (.putfield 145, 3) := by decide +kernel
theorem dX8_init_422 : decode cX8_init 422 = .ok (.aload_n 0, 1) := by decide +kernel
theorem dX8_init_423 : decode cX8_init 423 = .ok (.iconst 0, 1) := by decide +kernel
theorem dX8_init_424 : decode cX8_init 424 = .ok (.putfield 148, 3) := by decide +kernel
theorem dX8_init_427 : decode cX8_init 427 = .ok (.aload_n 0, 1) := by decide +kernel
theorem dX8_init_428 : decode cX8_init 428 = .ok (.iconst 0, 1) := by decide +kernel
theorem dX8_init_429 : decode cX8_init 429 = .ok (.putfield 151, 3) := by decide +kernel
theorem dX8_init_432 : decode cX8_init 432 = .ok (.aload_n 0, 1) := by decide +kernel
theorem dX8_init_433 : decode cX8_init 433 = .ok (.iconst 0, 1) := by decide +kernel
theorem dX8_init_434 : decode cX8_init 434 = .ok (.putfield 154, 3) := by decide +kernel
theorem dX8_init_437 : decode cX8_init 437 = .ok (.aload_n 0, 1) := by decide +kernel
theorem dX8_init_438 : decode cX8_init 438 = .ok (.iconst 0, 1) := by decide +kernel
theorem dX8_init_439 : decode cX8_init 439 = .ok (.putfield 157, 3) := by decide +kernel
theorem dX8_init_442 : decode cX8_init 442 = .ok (.aload_n 0, 1) := by decide +kernel
theorem dX8_init_443 : decode cX8_init 443 = .ok (.iconst 0, 1) := by decide +kernel
theorem dX8_init_444 : decode cX8_init 444 = .ok (.putfield 160, 3) := by decide +kernel
theorem dX8_init_447 : decode cX8_init 447 = .ok (.aload_n 0, 1) := by decide +kernel
theorem dX8_init_448 : decode cX8_init 448 = .ok (.bipush 6, 2) := by decide +kernel
theorem dX8_init_450 : decode cX8_init 450 = .ok (.newarray .int, 2) := by decide +kernel
theorem dX8_init_452 : decode cX8_init 452 = .ok (.putfield 163, 3) := by decide +kernel
theorem dX8_init_455 : decode cX8_init 455 = .ok (.aload_n 0, 1) := by decide +kernel
theorem dX8_init_456 : decode cX8_init 456 = .ok (.bipush 6, 2) := by decide +kernel
theorem dX8_init_458 : decode cX8_init 458 = .ok (.newarray .int, 2) := by decide +kernel
theorem dX8_init_460 : decode cX8_init 460 = .ok (.putfield 166, 3) := by decide +kernel
theorem dX8_init_463 : decode cX8_init 463 = .ok (.aload_n 0, 1) := by decide +kernel
theorem dX8_init_464 : decode cX8_init 464 = .ok (.bipush 6, 2) := by decide +kernel
theorem dX8_init_466 : decode cX8_init 466 = .ok (.newarray .int, 2) := by decide +kernel
theorem dX8_init_468 : decode cX8_init 468 = .ok (.putfield 169, 3) := by decide +kernel
theorem dX8_init_471 : decode cX8_init 471 = .ok (.aload_n 0, 1) := by decide +kernel
theorem dX8_init_472 : decode cX8_init 472 = .ok (.bipush 6, 2) := by decide +kernel
theorem dX8_init_474 : decode cX8_init 474 = .ok (.newarray .int, 2) := by decide +kernel
theorem dX8_init_476 : decode cX8_init 476 = .ok (.putfield 172, 3) := by decide +kernel
theorem dX8_init_479 : decode cX8_init 479 = .ok (.aload_n 0, 1) := by decide +kernel
theorem dX8_init_480 : decode cX8_init 480 = .ok (.bipush 24, 2) := by decide +kernel
theorem dX8_init_482 : decode cX8_init 482 = .ok (.newarray .int, 2) := by decide +kernel
theorem dX8_init_484 : decode cX8_init 484 = .ok (.putfield 175, 3) := by decide +kernel
theorem dX8_init_487 : decode cX8_init 487 = .ok (.aload_n 0, 1) := by decide +kernel
theorem dX8_init_488 : decode cX8_init 488 = .ok (.iconst 5, 1) := by decide +kernel
theorem dX8_init_489 : decode cX8_init 489 = .ok (.newarray .int, 2) := by decide +kernel
theorem dX8_init_491 : decode cX8_init 491 = .ok (.putfield 178, 3) := by decide +kernel
theorem dX8_init_494 : decode cX8_init 494 = .ok (.aload_n 0, 1) := by decide +kernel
theorem dX8_init_495 : decode cX8_init 495 = .ok (.iconst 5, 1) := by decide +kernel
theorem dX8_init_496 : decode cX8_init 496 = .ok (.newarray .int, 2) := by decide +kernel
theorem dX8_init_498 : decode cX8_init 498 = .ok (.putfield 181, 3) := by decide +kernel
theorem dX8_init_501 : decode cX8_init 501 = .ok (.aload_n 0, 1) := by decide +kernel
theorem dX8_init_502 : decode cX8_init 502 = .ok (.iconst 5, 1) := by decide +kernel
theorem dX8_init_503 : decode cX8_init 503 = .ok (.newarray .int, 2) := by decide +kernel
theorem dX8_init_505 : decode cX8_init 505 = .ok (.putfield 184, 3) := by decide +kernel
theorem dX8_init_508 : decode cX8_init 508 = .ok (.aload_n 0, 1) := by decide +kernel
theorem dX8_init_509 : decode cX8_init 509 = .ok (.bipush 10, 2) := by decide +kernel
theorem dX8_init_511 : decode cX8_init 511 = .ok (.newarray .int, 2) := by decide +kernel
theorem dX8_init_513 : decode cX8_init 513 = .ok (.putfield 187, 3) := by decide +kernel
theorem dX8_init_516 : decode cX8_init 516 = .ok (.aload_n 0, 1) := by decide +kernel
theorem dX8_init_517 : decode cX8_init 517 = .ok (.bipush 10, 2) := by decide +kernel
theorem dX8_init_519 : decode cX8_init 519 = .ok (.newarray .int, 2) := by decide +kernel
theorem dX8_init_521 : decode cX8_init 521 = .ok (.putfield 190, 3) := by decide +kernel
theorem dX8_init_524 : decode cX8_init 524 = .ok (.aload_n 0, 1) := by decide +kernel
theorem dX8_init_525 : decode cX8_init 525 = .ok (.bipush 8, 2) := by decide +kernel
theorem dX8_init_527 : decode cX8_init 527 = .ok (.newarray .int, 2) := by decide +kernel
theorem dX8_init_529 : decode cX8_init 529 = .ok (.putfield 193, 3) := by decide +kernel
theorem dX8_init_532 : decode cX8_init 532 = .ok (.aload_n 0, 1) := by decide +kernel
theorem dX8_init_533 : decode cX8_init 533 = .ok (.bipush 8, 2) := by decide +kernel
theorem dX8_init_535 : decode cX8_init 535 = .ok (.newarray .int, 2) := by decide +kernel
theorem dX8_init_537 : decode cX8_init 537 = .ok (.putfield 196, 3) := by decide +kernel
theorem dX8_init_540 : decode cX8_init 540 = .ok (.aload_n 0, 1) := by decide +kernel
theorem dX8_init_541 : decode cX8_init 541 = .ok (.iconst 0, 1) := by decide +kernel
theorem dX8_init_542 : decode cX8_init 542 = .ok (.putfield 199, 3) := by decide +kernel
theorem dX8_init_545 : decode cX8_init 545 = .ok (.aload_n 0, 1) := by decide +kernel
theorem dX8_init_546 : decode cX8_init 546 = .ok (.bipush 20, 2) := by decide +kernel
theorem dX8_init_548 : decode cX8_init 548 = .ok (.newarray .int, 2) := by decide +kernel
theorem dX8_init_550 : decode cX8_init 550 = .ok (.putfield 202, 3) := by decide +kernel
theorem dX8_init_553 : decode cX8_init 553 = .ok (.aload_n 0, 1) := by decide +kernel
theorem dX8_init_554 : decode cX8_init 554 = .ok (.bipush 6, 2) := by decide +kernel
theorem dX8_init_556 : decode cX8_init 556 = .ok (.newarray .int, 2) := by decide +kernel
theorem dX8_init_558 : decode cX8_init 558 = .ok (.dup, 1) := by decide +kernel
theorem dX8_init_559 : decode cX8_init 559 = .ok (.iconst 0, 1) := by decide +kernel
theorem dX8_init_560 : decode cX8_init 560 = .ok (.iconst (-1), 1) := by decide +kernel
theorem dX8_init_561 : decode cX8_init 561 = .ok (.iastore, 1) := by decide +kernel
theorem dX8_init_562 : decode cX8_init 562 = .ok (.dup, 1) := by decide +kernel
theorem dX8_init_563 : decode cX8_init 563 = .ok (.iconst 1, 1) := by decide +kernel
theorem dX8_init_564 : decode cX8_init 564 = .ok (.iconst (-1), 1) := by decide +kernel
theorem dX8_init_565 : decode cX8_init 565 = .ok (.iastore, 1) := by decide +kernel
theorem dX8_init_566 : decode cX8_init 566 = .ok (.dup, 1) := by decide +kernel
theorem dX8_init_567 : decode cX8_init 567 = .ok (.iconst 2, 1) := by decide +kernel
theorem dX8_init_568 : decode cX8_init 568 = .ok (.iconst (-1), 1) := by decide +kernel
theorem dX8_init_569 : decode cX8_init 569 = .ok (.iastore, 1) := by decide +kernel
theorem dX8_init_570 : decode cX8_init 570 = .ok (.dup, 1) := by decide +kernel
theorem dX8_init_571 : decode cX8_init 571 = .ok (.iconst 3, 1) := by decide +kernel
theorem dX8_init_572 : decode cX8_init 572 = .ok (.iconst (-1), 1) := by decide +kernel
theorem dX8_init_573 : decode cX8_init 573 = .ok (.iastore, 1) := by decide +kernel
theorem dX8_init_574 : decode cX8_init 574 = .ok (.dup, 1) := by decide +kernel
theorem dX8_init_575 : decode cX8_init 575 = .ok (.iconst 4, 1) := by decide +kernel
theorem dX8_init_576 : decode cX8_init 576 = .ok (.iconst (-1), 1) := by decide +kernel
theorem dX8_init_577 : decode cX8_init 577 = .ok (.iastore, 1) := by decide +kernel
theorem dX8_init_578 : decode cX8_init 578 = .ok (.dup, 1) := by decide +kernel
theorem dX8_init_579 : decode cX8_init 579 = .ok (.iconst 5, 1) := by decide +kernel
theorem dX8_init_580 : decode cX8_init 580 = .ok (.iconst (-1), 1) := by decide +kernel
theorem dX8_init_581 : decode cX8_init 581 = .ok (.iastore, 1) := by decide +kernel
theorem dX8_init_582 : decode cX8_init 582 = .ok (.putfield 205, 3) := by decide +kernel
theorem dX8_init_585 : decode cX8_init 585 = .ok (.aload_n 0, 1) := by decide +kernel
theorem dX8_init_586 : decode cX8_init 586 = .ok (.bipush 6, 2) := by decide +kernel
theorem dX8_init_588 : decode cX8_init 588 = .ok (.newarray .int, 2) := by decide +kernel
theorem dX8_init_590 : decode cX8_init 590 = .ok (.putfield 208, 3) := by decide +kernel
theorem dX8_init_593 : decode cX8_init 593 = .ok (.aload_n 0, 1) := by decide +kernel
theorem dX8_init_594 : decode cX8_init 594 = .ok (.sipush 360, 3) := by decide +kernel
theorem dX8_init_597 : decode cX8_init 597 = .ok (.newarray .long, 2) := by decide +kernel
theorem dX8_init_599 : decode cX8_init 599 = .ok (.putfield 211, 3) := by decide +kernel
theorem dX8_init_602 : decode cX8_init 602 = .ok (.aload_n 0, 1) := by decide +kernel
theorem dX8_init_603 : decode cX8_init 603 = .ok (.bipush 60, 2) := by decide +kernel
theorem dX8_init_605 : decode cX8_init 605 = .ok (.newarray .long, 2) := by decide +kernel
theorem dX8_init_607 : decode cX8_init 607 = .ok (.putfield 215, 3) := by decide +kernel
theorem dX8_init_610 : decode cX8_init 610 = .ok (.return_, 1) := by decide +kernel
theorem dX8_in_0 : decode cX8_in 0 = .ok (.iload_n 1, 1) := by decide +kernel
theorem dX8_in_1 : decode cX8_in 1 = .ok (.iload_n 2, 1) := by decide +kernel
theorem dX8_in_2 : decode cX8_in 2 = .ok (.if_icmp .lt 12, 3) := by decide +kernel
theorem dX8_in_5 : decode cX8_in 5 = .ok (.iload_n 1, 1) := by decide +kernel
theorem dX8_in_6 : decode cX8_in 6 = .ok (.iload_n 3, 1) := by decide +kernel
theorem dX8_in_7 : decode cX8_in 7 = .ok (.if_icmp .gt 7, 3) := by decide +kernel
theorem dX8_in_10 : decode cX8_in 10 = .ok (.iconst 1, 1) := by decide +kernel
theorem dX8_in_11 : decode cX8_in 11 = .ok (.goto 4, 3) := by decide +kernel
theorem dX8_in_14 : decode cX8_in 14 = .ok (.iconst 0, 1) := by decide +kernel
theorem dX8_in_15 : decode cX8_in 15 = .ok (.ireturn, 1) := by decide +kernel
theorem dX8_least0_0 : decode cX8_least0 0 = .ok (.iload_n 1, 1) := by decide +kernel
theorem dX8_least0_1 : decode cX8_least0 1 = .ok (.ifCond .ge 7, 3) := by decide +kernel
theorem dX8_least0_4 : decode cX8_least0 4 = .ok (.iconst 0, 1) := by decide +kernel
theorem dX8_least0_5 : decode cX8_least0 5 = .ok (.goto 4, 3) := by decide +kernel
theorem dX8_least0_8 : decode cX8_least0 8 = .ok (.iload_n 1, 1) := by decide +kernel
theorem dX8_least0_9 : decode cX8_least0 9 = .ok (.ireturn, 1) := by decide +kernel
theorem dX8_farOf_0 : decode cX8_farOf 0 = .ok (.iload_n 1, 1) := by decide +kernel
theorem dX8_farOf_1 : decode cX8_farOf 1 = .ok (.iload_n 2, 1) := by decide +kernel
theorem dX8_farOf_2 : decode cX8_farOf 2 = .ok (.if_icmp .le 9, 3) := by decide +kernel
theorem dX8_farOf_5 : decode cX8_farOf 5 = .ok (.iload_n 1, 1) := by decide +kernel
theorem dX8_farOf_6 : decode cX8_farOf 6 = .ok (.iload_n 2, 1) := by decide +kernel
theorem dX8_farOf_7 : decode cX8_farOf 7 = .ok (.isub, 1) := by decide +kernel
theorem dX8_farOf_8 : decode cX8_farOf 8 = .ok (.goto 6, 3) := by decide +kernel
theorem dX8_farOf_11 : decode cX8_farOf 11 = .ok (.iload_n 2, 1) := by decide +kernel
theorem dX8_farOf_12 : decode cX8_farOf 12 = .ok (.iload_n 1, 1) := by decide +kernel
theorem dX8_farOf_13 : decode cX8_farOf 13 = .ok (.isub, 1) := by decide +kernel
theorem dX8_farOf_14 : decode cX8_farOf 14 = .ok (.ireturn, 1) := by decide +kernel
theorem dX8_isSound_0 : decode cX8_isSound 0 = .ok (.aload_n 0, 1) := by decide +kernel
theorem dX8_isSound_1 : decode cX8_isSound 1 = .ok (.iload_n 1, 1) := by decide +kernel
theorem dX8_isSound_2 : decode cX8_isSound 2 = .ok (.iconst 0, 1) := by decide +kernel
theorem dX8_isSound_3 : decode cX8_isSound 3 = .ok (.aload_n 0, 1) := by decide +kernel
theorem dX8_isSound_4 : decode cX8_isSound 4 = .ok (.getfield 7, 3) := by decide +kernel
theorem dX8_isSound_7 : decode cX8_isSound 7 = .ok (.iconst 1, 1) := by decide +kernel
theorem dX8_isSound_8 : decode cX8_isSound 8 = .ok (.isub, 1) := by decide +kernel
theorem dX8_isSound_9 : decode cX8_isSound 9 = .ok (.invokevirtual 218, 3) := by decide +kernel
theorem dX8_isSound_12 : decode cX8_isSound 12 = .ok (.ireturn, 1) := by decide +kernel
theorem dX8_isHouse_0 : decode cX8_isHouse 0 = .ok (.aload_n 0, 1) := by decide +kernel
theorem dX8_isHouse_1 : decode cX8_isHouse 1 = .ok (.iload_n 1, 1) := by decide +kernel
theorem dX8_isHouse_2 : decode cX8_isHouse 2 = .ok (.iconst 0, 1) := by decide +kernel
theorem dX8_isHouse_3 : decode cX8_isHouse 3 = .ok (.iconst 4, 1) := by decide +kernel
theorem dX8_isHouse_4 : decode cX8_isHouse 4 = .ok (.invokevirtual 218, 3) := by decide +kernel
theorem dX8_isHouse_7 : decode cX8_isHouse 7 = .ok (.ireturn, 1) := by decide +kernel
theorem dX8_isLoud_0 : decode cX8_isLoud 0 = .ok (.aload_n 0, 1) := by decide +kernel
theorem dX8_isLoud_1 : decode cX8_isLoud 1 = .ok (.iload_n 1, 1) := by decide +kernel
theorem dX8_isLoud_2 : decode cX8_isLoud 2 = .ok (.iconst 0, 1) := by decide +kernel
theorem dX8_isLoud_3 : decode cX8_isLoud 3 = .ok (.bipush 99, 2) := by decide +kernel
theorem dX8_isLoud_5 : decode cX8_isLoud 5 = .ok (.invokevirtual 218, 3) := by decide +kernel
theorem dX8_isLoud_8 : decode cX8_isLoud 8 = .ok (.ireturn, 1) := by decide +kernel
theorem dX8_isYears_0 : decode cX8_isYears 0 = .ok (.aload_n 0, 1) := by decide +kernel
theorem dX8_isYears_1 : decode cX8_isYears 1 = .ok (.iload_n 1, 1) := by decide +kernel
theorem dX8_isYears_2 : decode cX8_isYears 2 = .ok (.iconst 0, 1) := by decide +kernel
theorem dX8_isYears_3 : decode cX8_isYears 3 = .ok (.bipush 60, 2) := by decide +kernel
theorem dX8_isYears_5 : decode cX8_isYears 5 = .ok (.invokevirtual 218, 3) := by decide +kernel
theorem dX8_isYears_8 : decode cX8_isYears 8 = .ok (.ireturn, 1) := by decide +kernel
theorem dX8_isLost_0 : decode cX8_isLost 0 = .ok (.aload_n 0, 1) := by decide +kernel
theorem dX8_isLost_1 : decode cX8_isLost 1 = .ok (.getfield 26, 3) := by decide +kernel
theorem dX8_isLost_4 : decode cX8_isLost 4 = .ok (.iload_n 1, 1) := by decide +kernel
theorem dX8_isLost_5 : decode cX8_isLost 5 = .ok (.iaload, 1) := by decide +kernel
theorem dX8_isLost_6 : decode cX8_isLost 6 = .ok (.bipush (-5), 2) := by decide +kernel
theorem dX8_isLost_8 : decode cX8_isLost 8 = .ok (.if_icmp .ne 7, 3) := by decide +kernel
theorem dX8_isLost_11 : decode cX8_isLost 11 = .ok (.iconst 1, 1) := by decide +kernel
theorem dX8_isLost_12 : decode cX8_isLost 12 = .ok (.goto 4, 3) := by decide +kernel
theorem dX8_isLost_15 : decode cX8_isLost 15 = .ok (.iconst 0, 1) := by decide +kernel
theorem dX8_isLost_16 : decode cX8_isLost 16 = .ok (.ireturn, 1) := by decide +kernel
theorem dX8_sound_0 : decode cX8_sound 0 = .ok (.aload_n 0, 1) := by decide +kernel
theorem dX8_sound_1 : decode cX8_sound 1 = .ok (.iload_n 1, 1) := by decide +kernel
theorem dX8_sound_2 : decode cX8_sound 2 = .ok (.iconst 0, 1) := by decide +kernel
theorem dX8_sound_3 : decode cX8_sound 3 = .ok (.bipush 6, 2) := by decide +kernel
theorem dX8_sound_5 : decode cX8_sound 5 = .ok (.invokevirtual 218, 3) := by decide +kernel
theorem dX8_sound_8 : decode cX8_sound 8 = .ok (.ifCond .eq 12, 3) := by decide +kernel
theorem dX8_sound_11 : decode cX8_sound 11 = .ok (.aload_n 0, 1) := by decide +kernel
theorem dX8_sound_12 : decode cX8_sound 12 = .ok (.iload 4, 2) := by decide +kernel
theorem dX8_sound_14 : decode cX8_sound 14 = .ok (.invokevirtual 222, 3) := by decide +kernel
theorem dX8_sound_17 : decode cX8_sound 17 = .ok (.ifCond .ne 5, 3) := by decide +kernel
theorem dX8_sound_20 : decode cX8_sound 20 = .ok (.iconst (-1), 1) := by decide +kernel
theorem dX8_sound_21 : decode cX8_sound 21 = .ok (.ireturn, 1) := by decide +kernel
theorem dX8_sound_22 : decode cX8_sound 22 = .ok (.aload_n 0, 1) := by decide +kernel
theorem dX8_sound_23 : decode cX8_sound 23 = .ok (.iload_n 2, 1) := by decide +kernel
theorem dX8_sound_24 : decode cX8_sound 24 = .ok (.iconst 0, 1) := by decide +kernel
theorem dX8_sound_25 : decode cX8_sound 25 = .ok (.bipush 9, 2) := by decide +kernel
theorem dX8_sound_27 : decode cX8_sound 27 = .ok (.invokevirtual 218, 3) := by decide +kernel
theorem dX8_sound_30 : decode cX8_sound 30 = .ok (.ifCond .eq 11, 3) := by decide +kernel
theorem dX8_sound_33 : decode cX8_sound 33 = .ok (.aload_n 0, 1) := by decide +kernel
theorem dX8_sound_34 : decode cX8_sound 34 = .ok (.iload_n 3, 1) := by decide +kernel
theorem dX8_sound_35 : decode cX8_sound 35 = .ok (.invokevirtual 226, 3) := by decide +kernel
theorem dX8_sound_38 : decode cX8_sound 38 = .ok (.ifCond .ne 6, 3) := by decide +kernel
theorem dX8_sound_41 : decode cX8_sound 41 = .ok (.bipush (-2), 2) := by decide +kernel
theorem dX8_sound_43 : decode cX8_sound 43 = .ok (.ireturn, 1) := by decide +kernel
theorem dX8_sound_44 : decode cX8_sound 44 = .ok (.aload_n 0, 1) := by decide +kernel
theorem dX8_sound_45 : decode cX8_sound 45 = .ok (.getfield 7, 3) := by decide +kernel
theorem dX8_sound_48 : decode cX8_sound 48 = .ok (.bipush 6, 2) := by decide +kernel
theorem dX8_sound_50 : decode cX8_sound 50 = .ok (.if_icmp .ne 6, 3) := by decide +kernel
theorem dX8_sound_53 : decode cX8_sound 53 = .ok (.bipush (-4), 2) := by decide +kernel
theorem dX8_sound_55 : decode cX8_sound 55 = .ok (.ireturn, 1) := by decide +kernel
theorem dX8_sound_56 : decode cX8_sound 56 = .ok (.aload_n 0, 1) := by decide +kernel
theorem dX8_sound_57 : decode cX8_sound 57 = .ok (.getfield 16, 3) := by decide +kernel
theorem dX8_sound_60 : decode cX8_sound 60 = .ok (.aload_n 0, 1) := by decide +kernel
theorem dX8_sound_61 : decode cX8_sound 61 = .ok (.getfield 7, 3) := by decide +kernel
theorem dX8_sound_64 : decode cX8_sound 64 = .ok (.iload_n 1, 1) := by decide +kernel
theorem dX8_sound_65 : decode cX8_sound 65 = .ok (.iastore, 1) := by decide +kernel
theorem dX8_sound_66 : decode cX8_sound 66 = .ok (.aload_n 0, 1) := by decide +kernel
theorem dX8_sound_67 : decode cX8_sound 67 = .ok (.getfield 20, 3) := by decide +kernel
theorem dX8_sound_70 : decode cX8_sound 70 = .ok (.aload_n 0, 1) := by decide +kernel
theorem dX8_sound_71 : decode cX8_sound 71 = .ok (.getfield 7, 3) := by decide +kernel
theorem dX8_sound_74 : decode cX8_sound 74 = .ok (.iload_n 2, 1) := by decide +kernel
theorem dX8_sound_75 : decode cX8_sound 75 = .ok (.iastore, 1) := by decide +kernel
theorem dX8_sound_76 : decode cX8_sound 76 = .ok (.aload_n 0, 1) := by decide +kernel
theorem dX8_sound_77 : decode cX8_sound 77 = .ok (.getfield 23, 3) := by decide +kernel
theorem dX8_sound_80 : decode cX8_sound 80 = .ok (.aload_n 0, 1) := by decide +kernel
theorem dX8_sound_81 : decode cX8_sound 81 = .ok (.getfield 7, 3) := by decide +kernel
theorem dX8_sound_84 : decode cX8_sound 84 = .ok (.iload_n 3, 1) := by decide +kernel
theorem dX8_sound_85 : decode cX8_sound 85 = .ok (.iastore, 1) := by decide +kernel
theorem dX8_sound_86 : decode cX8_sound 86 = .ok (.aload_n 0, 1) := by decide +kernel
theorem dX8_sound_87 : decode cX8_sound 87 = .ok (.getfield 26, 3) := by decide +kernel
theorem dX8_sound_90 : decode cX8_sound 90 = .ok (.aload_n 0, 1) := by decide +kernel
theorem dX8_sound_91 : decode cX8_sound 91 = .ok (.getfield 7, 3) := by decide +kernel
theorem dX8_sound_94 : decode cX8_sound 94 = .ok (.iload 4, 2) := by decide +kernel
theorem dX8_sound_96 : decode cX8_sound 96 = .ok (.iastore, 1) := by decide +kernel
theorem dX8_sound_97 : decode cX8_sound 97 = .ok (.iconst 0, 1) := by decide +kernel
theorem dX8_sound_98 : decode cX8_sound 98 = .ok (.istore 5, 2) := by decide +kernel
theorem dX8_sound_100 : decode cX8_sound 100 = .ok (.iload 5, 2) := by decide +kernel
theorem dX8_sound_102 : decode cX8_sound 102 = .ok (.iconst 4, 1) := by decide +kernel
theorem dX8_sound_103 : decode cX8_sound 103 = .ok (.if_icmp .ge 24, 3) := by decide +kernel
theorem dX8_sound_106 : decode cX8_sound 106 = .ok (.aload_n 0, 1) := by decide +kernel
theorem dX8_sound_107 : decode cX8_sound 107 = .ok (.getfield 29, 3) := by decide +kernel
theorem dX8_sound_110 : decode cX8_sound 110 = .ok (.iconst 4, 1) := by decide +kernel
theorem dX8_sound_111 : decode cX8_sound 111 = .ok (.aload_n 0, 1) := by decide +kernel
theorem dX8_sound_112 : decode cX8_sound 112 = .ok (.getfield 7, 3) := by decide +kernel
theorem dX8_sound_115 : decode cX8_sound 115 = .ok (.imul, 1) := by decide +kernel
theorem dX8_sound_116 : decode cX8_sound 116 = .ok (.iload 5, 2) := by decide +kernel
theorem dX8_sound_118 : decode cX8_sound 118 = .ok (.iadd, 1) := by decide +kernel
theorem dX8_sound_119 : decode cX8_sound 119 = .ok (.iconst 0, 1) := by decide +kernel
theorem dX8_sound_120 : decode cX8_sound 120 = .ok (.iastore, 1) := by decide +kernel
theorem dX8_sound_121 : decode cX8_sound 121 = .ok (.iinc 5 1, 3) := by decide +kernel
theorem dX8_sound_124 : decode cX8_sound 124 = .ok (.goto (-24), 3) := by decide +kernel
theorem dX8_sound_127 : decode cX8_sound 127 = .ok (.aload_n 0, 1) := by decide +kernel
theorem dX8_sound_128 : decode cX8_sound 128 = .ok (.dup, 1) := by decide +kernel
theorem dX8_sound_129 : decode cX8_sound 129 = .ok (.getfield 7, 3) := by decide +kernel
theorem dX8_sound_132 : decode cX8_sound 132 = .ok (.iconst 1, 1) := by decide +kernel
theorem dX8_sound_133 : decode cX8_sound 133 = .ok (.iadd, 1) := by decide +kernel
theorem dX8_sound_134 : decode cX8_sound 134 = .ok (.putfield 7, 3) := by decide +kernel
theorem dX8_sound_137 : decode cX8_sound 137 = .ok (.aload_n 0, 1) := by decide +kernel
theorem dX8_sound_138 : decode cX8_sound 138 = .ok (.getfield 7, 3) := by decide +kernel
theorem dX8_sound_141 : decode cX8_sound 141 = .ok (.iconst 1, 1) := by decide +kernel
theorem dX8_sound_142 : decode cX8_sound 142 = .ok (.isub, 1) := by decide +kernel
theorem dX8_sound_143 : decode cX8_sound 143 = .ok (.ireturn, 1) := by decide +kernel
theorem dX8_set_0 : decode cX8_set 0 = .ok (.aload_n 0, 1) := by decide +kernel
theorem dX8_set_1 : decode cX8_set 1 = .ok (.iload_n 1, 1) := by decide +kernel
theorem dX8_set_2 : decode cX8_set 2 = .ok (.invokevirtual 229, 3) := by decide +kernel
theorem dX8_set_5 : decode cX8_set 5 = .ok (.ifCond .ne 5, 3) := by decide +kernel
theorem dX8_set_8 : decode cX8_set 8 = .ok (.iconst (-1), 1) := by decide +kernel
theorem dX8_set_9 : decode cX8_set 9 = .ok (.ireturn, 1) := by decide +kernel
theorem dX8_set_10 : decode cX8_set 10 = .ok (.aload_n 0, 1) := by decide +kernel
theorem dX8_set_11 : decode cX8_set 11 = .ok (.iload_n 2, 1) := by decide +kernel
theorem dX8_set_12 : decode cX8_set 12 = .ok (.invokevirtual 226, 3) := by decide +kernel
theorem dX8_set_15 : decode cX8_set 15 = .ok (.ifCond .ne 6, 3) := by decide +kernel
theorem dX8_set_18 : decode cX8_set 18 = .ok (.bipush (-2), 2) := by decide +kernel
theorem dX8_set_20 : decode cX8_set 20 = .ok (.ireturn, 1) := by decide +kernel
theorem dX8_set_21 : decode cX8_set 21 = .ok (.aload_n 0, 1) := by decide +kernel
theorem dX8_set_22 : decode cX8_set 22 = .ok (.getfield 23, 3) := by decide +kernel
theorem dX8_set_25 : decode cX8_set 25 = .ok (.iload_n 1, 1) := by decide +kernel
theorem dX8_set_26 : decode cX8_set 26 = .ok (.iaload, 1) := by decide +kernel
theorem dX8_set_27 : decode cX8_set 27 = .ok (.istore_n 3, 1) := by decide +kernel
theorem dX8_set_28 : decode cX8_set 28 = .ok (.aload_n 0, 1) := by decide +kernel
theorem dX8_set_29 : decode cX8_set 29 = .ok (.getfield 23, 3) := by decide +kernel
theorem dX8_set_32 : decode cX8_set 32 = .ok (.iload_n 1, 1) := by decide +kernel
theorem dX8_set_33 : decode cX8_set 33 = .ok (.iload_n 2, 1) := by decide +kernel
theorem dX8_set_34 : decode cX8_set 34 = .ok (.iastore, 1) := by decide +kernel
theorem dX8_set_35 : decode cX8_set 35 = .ok (.iload_n 3, 1) := by decide +kernel
theorem dX8_set_36 : decode cX8_set 36 = .ok (.ireturn, 1) := by decide +kernel
theorem dX8_row_0 : decode cX8_row 0 = .ok (.aload_n 0, 1) := by decide +kernel
theorem dX8_row_1 : decode cX8_row 1 = .ok (.iload_n 1, 1) := by decide +kernel
theorem dX8_row_2 : decode cX8_row 2 = .ok (.invokevirtual 229, 3) := by decide +kernel
theorem dX8_row_5 : decode cX8_row 5 = .ok (.ifCond .eq 13, 3) := by decide +kernel
theorem dX8_row_8 : decode cX8_row 8 = .ok (.aload_n 0, 1) := by decide +kernel
theorem dX8_row_9 : decode cX8_row 9 = .ok (.iload_n 2, 1) := by decide +kernel
theorem dX8_row_10 : decode cX8_row 10 = .ok (.iconst 0, 1) := by decide +kernel
theorem dX8_row_11 : decode cX8_row 11 = .ok (.iconst 3, 1) := by decide +kernel
theorem dX8_row_12 : decode cX8_row 12 = .ok (.invokevirtual 218, 3) := by decide +kernel
theorem dX8_row_15 : decode cX8_row 15 = .ok (.ifCond .ne 5, 3) := by decide +kernel
theorem dX8_row_18 : decode cX8_row 18 = .ok (.iconst (-1), 1) := by decide +kernel
theorem dX8_row_19 : decode cX8_row 19 = .ok (.ireturn, 1) := by decide +kernel
theorem dX8_row_20 : decode cX8_row 20 = .ok (.aload_n 0, 1) := by decide +kernel
theorem dX8_row_21 : decode cX8_row 21 = .ok (.iload_n 3, 1) := by decide +kernel
theorem dX8_row_22 : decode cX8_row 22 = .ok (.iconst 0, 1) := by decide +kernel
theorem dX8_row_23 : decode cX8_row 23 = .ok (.bipush 9, 2) := by decide +kernel
theorem dX8_row_25 : decode cX8_row 25 = .ok (.invokevirtual 218, 3) := by decide +kernel
theorem dX8_row_28 : decode cX8_row 28 = .ok (.ifCond .ne 6, 3) := by decide +kernel
theorem dX8_row_31 : decode cX8_row 31 = .ok (.bipush (-2), 2) := by decide +kernel
theorem dX8_row_33 : decode cX8_row 33 = .ok (.ireturn, 1) := by decide +kernel
theorem dX8_row_34 : decode cX8_row 34 = .ok (.aload_n 0, 1) := by decide +kernel
theorem dX8_row_35 : decode cX8_row 35 = .ok (.getfield 16, 3) := by decide +kernel
theorem dX8_row_38 : decode cX8_row 38 = .ok (.iload_n 1, 1) := by decide +kernel
theorem dX8_row_39 : decode cX8_row 39 = .ok (.iaload, 1) := by decide +kernel
theorem dX8_row_40 : decode cX8_row 40 = .ok (.bipush 6, 2) := by decide +kernel
theorem dX8_row_42 : decode cX8_row 42 = .ok (.if_icmp .eq 6, 3) := by decide +kernel
theorem dX8_row_45 : decode cX8_row 45 = .ok (.bipush (-3), 2) := by decide +kernel
theorem dX8_row_47 : decode cX8_row 47 = .ok (.ireturn, 1) := by decide +kernel
theorem dX8_row_48 : decode cX8_row 48 = .ok (.aload_n 0, 1) := by decide +kernel
theorem dX8_row_49 : decode cX8_row 49 = .ok (.getfield 29, 3) := by decide +kernel
theorem dX8_row_52 : decode cX8_row 52 = .ok (.iconst 4, 1) := by decide +kernel
theorem dX8_row_53 : decode cX8_row 53 = .ok (.iload_n 1, 1) := by decide +kernel
theorem dX8_row_54 : decode cX8_row 54 = .ok (.imul, 1) := by decide +kernel
theorem dX8_row_55 : decode cX8_row 55 = .ok (.iload_n 2, 1) := by decide +kernel
theorem dX8_row_56 : decode cX8_row 56 = .ok (.iadd, 1) := by decide +kernel
theorem dX8_row_57 : decode cX8_row 57 = .ok (.iaload, 1) := by decide +kernel
theorem dX8_row_58 : decode cX8_row 58 = .ok (.istore 4, 2) := by decide +kernel
theorem dX8_row_60 : decode cX8_row 60 = .ok (.aload_n 0, 1) := by decide +kernel
theorem dX8_row_61 : decode cX8_row 61 = .ok (.getfield 29, 3) := by decide +kernel
theorem dX8_row_64 : decode cX8_row 64 = .ok (.iconst 4, 1) := by decide +kernel
theorem dX8_row_65 : decode cX8_row 65 = .ok (.iload_n 1, 1) := by decide +kernel
theorem dX8_row_66 : decode cX8_row 66 = .ok (.imul, 1) := by decide +kernel
theorem dX8_row_67 : decode cX8_row 67 = .ok (.iload_n 2, 1) := by decide +kernel
theorem dX8_row_68 : decode cX8_row 68 = .ok (.iadd, 1) := by decide +kernel
theorem dX8_row_69 : decode cX8_row 69 = .ok (.iload_n 3, 1) := by decide +kernel
theorem dX8_row_70 : decode cX8_row 70 = .ok (.iastore, 1) := by decide +kernel
theorem dX8_row_71 : decode cX8_row 71 = .ok (.iload 4, 2) := by decide +kernel
theorem dX8_row_73 : decode cX8_row 73 = .ok (.ireturn, 1) := by decide +kernel
theorem dX8_pass_0 : decode cX8_pass 0 = .ok (.aload_n 0, 1) := by decide +kernel
theorem dX8_pass_1 : decode cX8_pass 1 = .ok (.iload_n 1, 1) := by decide +kernel
theorem dX8_pass_2 : decode cX8_pass 2 = .ok (.invokevirtual 229, 3) := by decide +kernel
theorem dX8_pass_5 : decode cX8_pass 5 = .ok (.ifCond .eq 11, 3) := by decide +kernel
theorem dX8_pass_8 : decode cX8_pass 8 = .ok (.aload_n 0, 1) := by decide +kernel
theorem dX8_pass_9 : decode cX8_pass 9 = .ok (.iload_n 2, 1) := by decide +kernel
theorem dX8_pass_10 : decode cX8_pass 10 = .ok (.invokevirtual 222, 3) := by decide +kernel
theorem dX8_pass_13 : decode cX8_pass 13 = .ok (.ifCond .ne 5, 3) := by decide +kernel
theorem dX8_pass_16 : decode cX8_pass 16 = .ok (.iconst (-1), 1) := by decide +kernel
theorem dX8_pass_17 : decode cX8_pass 17 = .ok (.ireturn, 1) := by decide +kernel
theorem dX8_pass_18 : decode cX8_pass 18 = .ok (.aload_n 0, 1) := by decide +kernel
theorem dX8_pass_19 : decode cX8_pass 19 = .ok (.iload_n 1, 1) := by decide +kernel
theorem dX8_pass_20 : decode cX8_pass 20 = .ok (.invokevirtual 232, 3) := by decide +kernel
theorem dX8_pass_23 : decode cX8_pass 23 = .ok (.ifCond .ne 18, 3) := by decide +kernel
theorem dX8_pass_26 : decode cX8_pass 26 = .ok (.aload_n 0, 1) := by decide +kernel
theorem dX8_pass_27 : decode cX8_pass 27 = .ok (.aload_n 0, 1) := by decide +kernel
theorem dX8_pass_28 : decode cX8_pass 28 = .ok (.getfield 26, 3) := by decide +kernel
theorem dX8_pass_31 : decode cX8_pass 31 = .ok (.iload_n 1, 1) := by decide +kernel
theorem dX8_pass_32 : decode cX8_pass 32 = .ok (.iaload, 1) := by decide +kernel
theorem dX8_pass_33 : decode cX8_pass 33 = .ok (.iload_n 2, 1) := by decide +kernel
theorem dX8_pass_34 : decode cX8_pass 34 = .ok (.invokevirtual 235, 3) := by decide +kernel
theorem dX8_pass_37 : decode cX8_pass 37 = .ok (.iconst 1, 1) := by decide +kernel
theorem dX8_pass_38 : decode cX8_pass 38 = .ok (.if_icmp .eq 6, 3) := by decide +kernel
theorem dX8_pass_41 : decode cX8_pass 41 = .ok (.bipush (-3), 2) := by decide +kernel
theorem dX8_pass_43 : decode cX8_pass 43 = .ok (.ireturn, 1) := by decide +kernel
theorem dX8_pass_44 : decode cX8_pass 44 = .ok (.aload_n 0, 1) := by decide +kernel
theorem dX8_pass_45 : decode cX8_pass 45 = .ok (.getfield 26, 3) := by decide +kernel
theorem dX8_pass_48 : decode cX8_pass 48 = .ok (.iload_n 1, 1) := by decide +kernel
theorem dX8_pass_49 : decode cX8_pass 49 = .ok (.iload_n 2, 1) := by decide +kernel
theorem dX8_pass_50 : decode cX8_pass 50 = .ok (.iastore, 1) := by decide +kernel
theorem dX8_pass_51 : decode cX8_pass 51 = .ok (.aload_n 0, 1) := by decide +kernel
theorem dX8_pass_52 : decode cX8_pass 52 = .ok (.iload_n 2, 1) := by decide +kernel
theorem dX8_pass_53 : decode cX8_pass 53 = .ok (.invokevirtual 239, 3) := by decide +kernel
theorem dX8_pass_56 : decode cX8_pass 56 = .ok (.ireturn, 1) := by decide +kernel
theorem dX8_lose_0 : decode cX8_lose 0 = .ok (.aload_n 0, 1) := by decide +kernel
theorem dX8_lose_1 : decode cX8_lose 1 = .ok (.iload_n 1, 1) := by decide +kernel
theorem dX8_lose_2 : decode cX8_lose 2 = .ok (.invokevirtual 229, 3) := by decide +kernel
theorem dX8_lose_5 : decode cX8_lose 5 = .ok (.ifCond .ne 5, 3) := by decide +kernel
theorem dX8_lose_8 : decode cX8_lose 8 = .ok (.iconst (-1), 1) := by decide +kernel
theorem dX8_lose_9 : decode cX8_lose 9 = .ok (.ireturn, 1) := by decide +kernel
theorem dX8_lose_10 : decode cX8_lose 10 = .ok (.aload_n 0, 1) := by decide +kernel
theorem dX8_lose_11 : decode cX8_lose 11 = .ok (.iload_n 1, 1) := by decide +kernel
theorem dX8_lose_12 : decode cX8_lose 12 = .ok (.invokevirtual 232, 3) := by decide +kernel
theorem dX8_lose_15 : decode cX8_lose 15 = .ok (.ifCond .eq 6, 3) := by decide +kernel
theorem dX8_lose_18 : decode cX8_lose 18 = .ok (.bipush (-3), 2) := by decide +kernel
theorem dX8_lose_20 : decode cX8_lose 20 = .ok (.ireturn, 1) := by decide +kernel
theorem dX8_lose_21 : decode cX8_lose 21 = .ok (.aload_n 0, 1) := by decide +kernel
theorem dX8_lose_22 : decode cX8_lose 22 = .ok (.getfield 26, 3) := by decide +kernel
theorem dX8_lose_25 : decode cX8_lose 25 = .ok (.iload_n 1, 1) := by decide +kernel
theorem dX8_lose_26 : decode cX8_lose 26 = .ok (.iaload, 1) := by decide +kernel
theorem dX8_lose_27 : decode cX8_lose 27 = .ok (.istore_n 2, 1) := by decide +kernel
theorem dX8_lose_28 : decode cX8_lose 28 = .ok (.aload_n 0, 1) := by decide +kernel
theorem dX8_lose_29 : decode cX8_lose 29 = .ok (.getfield 26, 3) := by decide +kernel
theorem dX8_lose_32 : decode cX8_lose 32 = .ok (.iload_n 1, 1) := by decide +kernel
theorem dX8_lose_33 : decode cX8_lose 33 = .ok (.bipush (-5), 2) := by decide +kernel
theorem dX8_lose_35 : decode cX8_lose 35 = .ok (.iastore, 1) := by decide +kernel
theorem dX8_lose_36 : decode cX8_lose 36 = .ok (.iload_n 2, 1) := by decide +kernel
theorem dX8_lose_37 : decode cX8_lose 37 = .ok (.ireturn, 1) := by decide +kernel
theorem dX8_find_0 : decode cX8_find 0 = .ok (.aload_n 0, 1) := by decide +kernel
theorem dX8_find_1 : decode cX8_find 1 = .ok (.iload_n 1, 1) := by decide +kernel
theorem dX8_find_2 : decode cX8_find 2 = .ok (.invokevirtual 229, 3) := by decide +kernel
theorem dX8_find_5 : decode cX8_find 5 = .ok (.ifCond .eq 11, 3) := by decide +kernel
theorem dX8_find_8 : decode cX8_find 8 = .ok (.aload_n 0, 1) := by decide +kernel
theorem dX8_find_9 : decode cX8_find 9 = .ok (.iload_n 2, 1) := by decide +kernel
theorem dX8_find_10 : decode cX8_find 10 = .ok (.invokevirtual 222, 3) := by decide +kernel
theorem dX8_find_13 : decode cX8_find 13 = .ok (.ifCond .ne 5, 3) := by decide +kernel
theorem dX8_find_16 : decode cX8_find 16 = .ok (.iconst (-1), 1) := by decide +kernel
theorem dX8_find_17 : decode cX8_find 17 = .ok (.ireturn, 1) := by decide +kernel
theorem dX8_find_18 : decode cX8_find 18 = .ok (.aload_n 0, 1) := by decide +kernel
theorem dX8_find_19 : decode cX8_find 19 = .ok (.iload_n 1, 1) := by decide +kernel
theorem dX8_find_20 : decode cX8_find 20 = .ok (.invokevirtual 232, 3) := by decide +kernel
theorem dX8_find_23 : decode cX8_find 23 = .ok (.ifCond .ne 6, 3) := by decide +kernel
theorem dX8_find_26 : decode cX8_find 26 = .ok (.bipush (-3), 2) := by decide +kernel
theorem dX8_find_28 : decode cX8_find 28 = .ok (.ireturn, 1) := by decide +kernel
theorem dX8_find_29 : decode cX8_find 29 = .ok (.aload_n 0, 1) := by decide +kernel
theorem dX8_find_30 : decode cX8_find 30 = .ok (.getfield 26, 3) := by decide +kernel
theorem dX8_find_33 : decode cX8_find 33 = .ok (.iload_n 1, 1) := by decide +kernel
theorem dX8_find_34 : decode cX8_find 34 = .ok (.iload_n 2, 1) := by decide +kernel
theorem dX8_find_35 : decode cX8_find 35 = .ok (.iastore, 1) := by decide +kernel
theorem dX8_find_36 : decode cX8_find 36 = .ok (.aload_n 0, 1) := by decide +kernel
theorem dX8_find_37 : decode cX8_find 37 = .ok (.iload_n 2, 1) := by decide +kernel
theorem dX8_find_38 : decode cX8_find 38 = .ok (.invokevirtual 239, 3) := by decide +kernel
theorem dX8_find_41 : decode cX8_find 41 = .ok (.ireturn, 1) := by decide +kernel
theorem dX8_feed_0 : decode cX8_feed 0 = .ok (.aload_n 0, 1) := by decide +kernel
theorem dX8_feed_1 : decode cX8_feed 1 = .ok (.iload_n 1, 1) := by decide +kernel
theorem dX8_feed_2 : decode cX8_feed 2 = .ok (.iconst 0, 1) := by decide +kernel
theorem dX8_feed_3 : decode cX8_feed 3 = .ok (.bipush 127, 2) := by decide +kernel
theorem dX8_feed_5 : decode cX8_feed 5 = .ok (.invokevirtual 218, 3) := by decide +kernel
theorem dX8_feed_8 : decode cX8_feed 8 = .ok (.ifCond .ne 6, 3) := by decide +kernel
theorem dX8_feed_11 : decode cX8_feed 11 = .ok (.bipush (-2), 2) := by decide +kernel
theorem dX8_feed_13 : decode cX8_feed 13 = .ok (.ireturn, 1) := by decide +kernel
theorem dX8_feed_14 : decode cX8_feed 14 = .ok (.aload_n 0, 1) := by decide +kernel
theorem dX8_feed_15 : decode cX8_feed 15 = .ok (.getfield 38, 3) := by decide +kernel
theorem dX8_feed_18 : decode cX8_feed 18 = .ok (.bipush 100, 2) := by decide +kernel
theorem dX8_feed_20 : decode cX8_feed 20 = .ok (.if_icmp .ne 6, 3) := by decide +kernel
theorem dX8_feed_23 : decode cX8_feed 23 = .ok (.bipush (-4), 2) := by decide +kernel
theorem dX8_feed_25 : decode cX8_feed 25 = .ok (.ireturn, 1) := by decide +kernel
theorem dX8_feed_26 : decode cX8_feed 26 = .ok (.aload_n 0, 1) := by decide +kernel
theorem dX8_feed_27 : decode cX8_feed 27 = .ok (.getfield 47, 3) := by decide +kernel
theorem dX8_feed_30 : decode cX8_feed 30 = .ok (.aload_n 0, 1) := by decide +kernel
theorem dX8_feed_31 : decode cX8_feed 31 = .ok (.getfield 38, 3) := by decide +kernel
theorem dX8_feed_34 : decode cX8_feed 34 = .ok (.iload_n 1, 1) := by decide +kernel
theorem dX8_feed_35 : decode cX8_feed 35 = .ok (.iastore, 1) := by decide +kernel
theorem dX8_feed_36 : decode cX8_feed 36 = .ok (.aload_n 0, 1) := by decide +kernel
theorem dX8_feed_37 : decode cX8_feed 37 = .ok (.dup, 1) := by decide +kernel
theorem dX8_feed_38 : decode cX8_feed 38 = .ok (.getfield 38, 3) := by decide +kernel
theorem dX8_feed_41 : decode cX8_feed 41 = .ok (.iconst 1, 1) := by decide +kernel
theorem dX8_feed_42 : decode cX8_feed 42 = .ok (.iadd, 1) := by decide +kernel
theorem dX8_feed_43 : decode cX8_feed 43 = .ok (.putfield 38, 3) := by decide +kernel
theorem dX8_feed_46 : decode cX8_feed 46 = .ok (.aload_n 0, 1) := by decide +kernel
theorem dX8_feed_47 : decode cX8_feed 47 = .ok (.getfield 38, 3) := by decide +kernel
theorem dX8_feed_50 : decode cX8_feed 50 = .ok (.ireturn, 1) := by decide +kernel
theorem dX8_next_0 : decode cX8_next 0 = .ok (.aload_n 0, 1) := by decide +kernel
theorem dX8_next_1 : decode cX8_next 1 = .ok (.getfield 41, 3) := by decide +kernel
theorem dX8_next_4 : decode cX8_next 4 = .ok (.aload_n 0, 1) := by decide +kernel
theorem dX8_next_5 : decode cX8_next 5 = .ok (.getfield 38, 3) := by decide +kernel
theorem dX8_next_8 : decode cX8_next 8 = .ok (.if_icmp .ge 15, 3) := by decide +kernel
theorem dX8_next_11 : decode cX8_next 11 = .ok (.aload_n 0, 1) := by decide +kernel
theorem dX8_next_12 : decode cX8_next 12 = .ok (.getfield 47, 3) := by decide +kernel
theorem dX8_next_15 : decode cX8_next 15 = .ok (.aload_n 0, 1) := by decide +kernel
theorem dX8_next_16 : decode cX8_next 16 = .ok (.getfield 41, 3) := by decide +kernel
theorem dX8_next_19 : decode cX8_next 19 = .ok (.iaload, 1) := by decide +kernel
theorem dX8_next_20 : decode cX8_next 20 = .ok (.goto 4, 3) := by decide +kernel
theorem dX8_next_23 : decode cX8_next 23 = .ok (.iconst (-1), 1) := by decide +kernel
theorem dX8_next_24 : decode cX8_next 24 = .ok (.ireturn, 1) := by decide +kernel
theorem dX8_second_0 : decode cX8_second 0 = .ok (.aload_n 0, 1) := by decide +kernel
theorem dX8_second_1 : decode cX8_second 1 = .ok (.getfield 41, 3) := by decide +kernel
theorem dX8_second_4 : decode cX8_second 4 = .ok (.iconst 1, 1) := by decide +kernel
theorem dX8_second_5 : decode cX8_second 5 = .ok (.iadd, 1) := by decide +kernel
theorem dX8_second_6 : decode cX8_second 6 = .ok (.aload_n 0, 1) := by decide +kernel
theorem dX8_second_7 : decode cX8_second 7 = .ok (.getfield 38, 3) := by decide +kernel
theorem dX8_second_10 : decode cX8_second 10 = .ok (.if_icmp .ge 17, 3) := by decide +kernel
theorem dX8_second_13 : decode cX8_second 13 = .ok (.aload_n 0, 1) := by decide +kernel
theorem dX8_second_14 : decode cX8_second 14 = .ok (.getfield 47, 3) := by decide +kernel
theorem dX8_second_17 : decode cX8_second 17 = .ok (.aload_n 0, 1) := by decide +kernel
theorem dX8_second_18 : decode cX8_second 18 = .ok (.getfield 41, 3) := by decide +kernel
theorem dX8_second_21 : decode cX8_second 21 = .ok (.iconst 1, 1) := by decide +kernel
theorem dX8_second_22 : decode cX8_second 22 = .ok (.iadd, 1) := by decide +kernel
theorem dX8_second_23 : decode cX8_second 23 = .ok (.iaload, 1) := by decide +kernel
theorem dX8_second_24 : decode cX8_second 24 = .ok (.goto 4, 3) := by decide +kernel
theorem dX8_second_27 : decode cX8_second 27 = .ok (.iconst (-1), 1) := by decide +kernel
theorem dX8_second_28 : decode cX8_second 28 = .ok (.ireturn, 1) := by decide +kernel
theorem dX8_takes_0 : decode cX8_takes 0 = .ok (.aload_n 0, 1) := by decide +kernel
theorem dX8_takes_1 : decode cX8_takes 1 = .ok (.invokevirtual 243, 3) := by decide +kernel
theorem dX8_takes_4 : decode cX8_takes 4 = .ok (.iload_n 1, 1) := by decide +kernel
theorem dX8_takes_5 : decode cX8_takes 5 = .ok (.if_icmp .eq 5, 3) := by decide +kernel
theorem dX8_takes_8 : decode cX8_takes 8 = .ok (.iconst 0, 1) := by decide +kernel
theorem dX8_takes_9 : decode cX8_takes 9 = .ok (.ireturn, 1) := by decide +kernel
theorem dX8_takes_10 : decode cX8_takes 10 = .ok (.aload_n 0, 1) := by decide +kernel
theorem dX8_takes_11 : decode cX8_takes 11 = .ok (.dup, 1) := by decide +kernel
theorem dX8_takes_12 : decode cX8_takes 12 = .ok (.getfield 41, 3) := by decide +kernel
theorem dX8_takes_15 : decode cX8_takes 15 = .ok (.iconst 1, 1) := by decide +kernel
theorem dX8_takes_16 : decode cX8_takes 16 = .ok (.iadd, 1) := by decide +kernel
theorem dX8_takes_17 : decode cX8_takes 17 = .ok (.putfield 41, 3) := by decide +kernel
theorem dX8_takes_20 : decode cX8_takes 20 = .ok (.iconst 1, 1) := by decide +kernel
theorem dX8_takes_21 : decode cX8_takes 21 = .ok (.ireturn, 1) := by decide +kernel
theorem dX8_takesWord_0 : decode cX8_takesWord 0 = .ok (.iconst 0, 1) := by decide +kernel
theorem dX8_takesWord_1 : decode cX8_takesWord 1 = .ok (.istore_n 3, 1) := by decide +kernel
theorem dX8_takesWord_2 : decode cX8_takesWord 2 = .ok (.iload_n 3, 1) := by decide +kernel
theorem dX8_takesWord_3 : decode cX8_takesWord 3 = .ok (.iload_n 2, 1) := by decide +kernel
theorem dX8_takesWord_4 : decode cX8_takesWord 4 = .ok (.if_icmp .ge 26, 3) := by decide +kernel
theorem dX8_takesWord_7 : decode cX8_takesWord 7 = .ok (.aload_n 0, 1) := by decide +kernel
theorem dX8_takesWord_8 : decode cX8_takesWord 8 = .ok (.aload_n 0, 1) := by decide +kernel
theorem dX8_takesWord_9 : decode cX8_takesWord 9 = .ok (.getfield 80, 3) := by decide +kernel
theorem dX8_takesWord_12 : decode cX8_takesWord 12 = .ok (.iload_n 1, 1) := by decide +kernel
theorem dX8_takesWord_13 : decode cX8_takesWord 13 = .ok (.iload_n 3, 1) := by decide +kernel
theorem dX8_takesWord_14 : decode cX8_takesWord 14 = .ok (.iadd, 1) := by decide +kernel
theorem dX8_takesWord_15 : decode cX8_takesWord 15 = .ok (.iaload, 1) := by decide +kernel
theorem dX8_takesWord_16 : decode cX8_takesWord 16 = .ok (.invokevirtual 247, 3) := by decide +kernel
theorem dX8_takesWord_19 : decode cX8_takesWord 19 = .ok (.ifCond .ne 5, 3) := by decide +kernel
theorem dX8_takesWord_22 : decode cX8_takesWord 22 = .ok (.iconst 0, 1) := by decide +kernel
theorem dX8_takesWord_23 : decode cX8_takesWord 23 = .ok (.ireturn, 1) := by decide +kernel
theorem dX8_takesWord_24 : decode cX8_takesWord 24 = .ok (.iinc 3 1, 3) := by decide +kernel
theorem dX8_takesWord_27 : decode cX8_takesWord 27 = .ok (.goto (-25), 3) := by decide +kernel
theorem dX8_takesWord_30 : decode cX8_takesWord 30 = .ok (.aload_n 0, 1) := by decide +kernel
theorem dX8_takesWord_31 : decode cX8_takesWord 31 = .ok (.bipush 32, 2) := by decide +kernel
theorem dX8_takesWord_33 : decode cX8_takesWord 33 = .ok (.invokevirtual 247, 3) := by decide +kernel
theorem dX8_takesWord_36 : decode cX8_takesWord 36 = .ok (.ireturn, 1) := by decide +kernel
theorem dX8_isDigit_0 : decode cX8_isDigit 0 = .ok (.aload_n 0, 1) := by decide +kernel
theorem dX8_isDigit_1 : decode cX8_isDigit 1 = .ok (.aload_n 0, 1) := by decide +kernel
theorem dX8_isDigit_2 : decode cX8_isDigit 2 = .ok (.invokevirtual 243, 3) := by decide +kernel
theorem dX8_isDigit_5 : decode cX8_isDigit 5 = .ok (.bipush 48, 2) := by decide +kernel
theorem dX8_isDigit_7 : decode cX8_isDigit 7 = .ok (.bipush 57, 2) := by decide +kernel
theorem dX8_isDigit_9 : decode cX8_isDigit 9 = .ok (.invokevirtual 218, 3) := by decide +kernel
theorem dX8_isDigit_12 : decode cX8_isDigit 12 = .ok (.ireturn, 1) := by decide +kernel
theorem dX8_takesNumber_0 : decode cX8_takesNumber 0 = .ok (.aload_n 0, 1) := by decide +kernel
theorem dX8_takesNumber_1 : decode cX8_takesNumber 1 = .ok (.invokevirtual 250, 3) := by decide +kernel
theorem dX8_takesNumber_4 : decode cX8_takesNumber 4 = .ok (.ifCond .ne 5, 3) := by decide +kernel
theorem dX8_takesNumber_7 : decode cX8_takesNumber 7 = .ok (.iconst 0, 1) := by decide +kernel
theorem dX8_takesNumber_8 : decode cX8_takesNumber 8 = .ok (.ireturn, 1) := by decide +kernel
theorem dX8_takesNumber_9 : decode cX8_takesNumber 9 = .ok (.aload_n 0, 1) := by decide +kernel
theorem dX8_takesNumber_10 : decode cX8_takesNumber 10 = .ok (.iconst 0, 1) := by decide +kernel
theorem dX8_takesNumber_11 : decode cX8_takesNumber 11 = .ok (.putfield 44, 3) := by decide +kernel
theorem dX8_takesNumber_14 : decode cX8_takesNumber 14 = .ok (.iconst 0, 1) := by decide +kernel
theorem dX8_takesNumber_15 : decode cX8_takesNumber 15 = .ok (.istore_n 1, 1) := by decide +kernel
theorem dX8_takesNumber_16 : decode cX8_takesNumber 16 = .ok (.iload_n 1, 1) := by decide +kernel
theorem dX8_takesNumber_17 : decode cX8_takesNumber 17 = .ok (.iconst 2, 1) := by decide +kernel
theorem dX8_takesNumber_18 : decode cX8_takesNumber 18 = .ok (.if_icmp .ge 45, 3) := by decide +kernel
theorem dX8_takesNumber_21 : decode cX8_takesNumber 21 = .ok (.aload_n 0, 1) := by decide +kernel
theorem dX8_takesNumber_22 : decode cX8_takesNumber 22 = .ok (.invokevirtual 250, 3) := by decide +kernel
theorem dX8_takesNumber_25 : decode cX8_takesNumber 25 = .ok (.ifCond .eq 38, 3) := by decide +kernel
theorem dX8_takesNumber_28 : decode cX8_takesNumber 28 = .ok (.aload_n 0, 1) := by decide +kernel
theorem dX8_takesNumber_29 : decode cX8_takesNumber 29 = .ok (.bipush 10, 2) := by decide +kernel
theorem dX8_takesNumber_31 : decode cX8_takesNumber 31 = .ok (.aload_n 0, 1) := by decide +kernel
theorem dX8_takesNumber_32 : decode cX8_takesNumber 32 = .ok (.getfield 44, 3) := by decide +kernel
theorem dX8_takesNumber_35 : decode cX8_takesNumber 35 = .ok (.imul, 1) := by decide +kernel
theorem dX8_takesNumber_36 : decode cX8_takesNumber 36 = .ok (.aload_n 0, 1) := by decide +kernel
theorem dX8_takesNumber_37 : decode cX8_takesNumber 37 = .ok (.invokevirtual 243, 3) := by decide +kernel
theorem dX8_takesNumber_40 : decode cX8_takesNumber 40 = .ok (.iadd, 1) := by decide +kernel
theorem dX8_takesNumber_41 : decode cX8_takesNumber 41 = .ok (.bipush 48, 2) := by decide +kernel
theorem dX8_takesNumber_43 : decode cX8_takesNumber 43 = .ok (.isub, 1) := by decide +kernel
theorem dX8_takesNumber_44 : decode cX8_takesNumber 44 = .ok (.putfield 44, 3) := by decide +kernel
theorem dX8_takesNumber_47 : decode cX8_takesNumber 47 = .ok (.aload_n 0, 1) := by decide +kernel
theorem dX8_takesNumber_48 : decode cX8_takesNumber 48 = .ok (.dup, 1) := by decide +kernel
theorem dX8_takesNumber_49 : decode cX8_takesNumber 49 = .ok (.getfield 41, 3) := by decide +kernel
theorem dX8_takesNumber_52 : decode cX8_takesNumber 52 = .ok (.iconst 1, 1) := by decide +kernel
theorem dX8_takesNumber_53 : decode cX8_takesNumber 53 = .ok (.iadd, 1) := by decide +kernel
theorem dX8_takesNumber_54 : decode cX8_takesNumber 54 = .ok (.putfield 41, 3) := by decide +kernel
theorem dX8_takesNumber_57 : decode cX8_takesNumber 57 = .ok (.iinc 1 1, 3) := by decide +kernel
theorem dX8_takesNumber_60 : decode cX8_takesNumber 60 = .ok (.goto (-44), 3) := by decide +kernel
theorem dX8_takesNumber_63 : decode cX8_takesNumber 63 = .ok (.iconst 1, 1) := by decide +kernel
theorem dX8_takesNumber_64 : decode cX8_takesNumber 64 = .ok (.ireturn, 1) := by decide +kernel
theorem dX8_emits_0 : decode cX8_emits 0 = .ok (.aload_n 0, 1) := by decide +kernel
theorem dX8_emits_1 : decode cX8_emits 1 = .ok (.getfield 65, 3) := by decide +kernel
theorem dX8_emits_4 : decode cX8_emits 4 = .ok (.aload_n 0, 1) := by decide +kernel
theorem dX8_emits_5 : decode cX8_emits 5 = .ok (.getfield 71, 3) := by decide +kernel
theorem dX8_emits_8 : decode cX8_emits 8 = .ok (.iload_n 1, 1) := by decide +kernel
theorem dX8_emits_9 : decode cX8_emits 9 = .ok (.iastore, 1) := by decide +kernel
theorem dX8_emits_10 : decode cX8_emits 10 = .ok (.aload_n 0, 1) := by decide +kernel
theorem dX8_emits_11 : decode cX8_emits 11 = .ok (.dup, 1) := by decide +kernel
theorem dX8_emits_12 : decode cX8_emits 12 = .ok (.getfield 71, 3) := by decide +kernel
theorem dX8_emits_15 : decode cX8_emits 15 = .ok (.iconst 1, 1) := by decide +kernel
theorem dX8_emits_16 : decode cX8_emits 16 = .ok (.iadd, 1) := by decide +kernel
theorem dX8_emits_17 : decode cX8_emits 17 = .ok (.putfield 71, 3) := by decide +kernel
theorem dX8_emits_20 : decode cX8_emits 20 = .ok (.return_, 1) := by decide +kernel
theorem dX8_whole_0 : decode cX8_whole 0 = .ok (.aload_n 0, 1) := by decide +kernel
theorem dX8_whole_1 : decode cX8_whole 1 = .ok (.getfield 74, 3) := by decide +kernel
theorem dX8_whole_4 : decode cX8_whole 4 = .ok (.ifCond .le 48, 3) := by decide +kernel
theorem dX8_whole_7 : decode cX8_whole 7 = .ok (.aload_n 0, 1) := by decide +kernel
theorem dX8_whole_8 : decode cX8_whole 8 = .ok (.getfield 68, 3) := by decide +kernel
theorem dX8_whole_11 : decode cX8_whole 11 = .ok (.aload_n 0, 1) := by decide +kernel
theorem dX8_whole_12 : decode cX8_whole 12 = .ok (.getfield 74, 3) := by decide +kernel
theorem dX8_whole_15 : decode cX8_whole 15 = .ok (.iconst 1, 1) := by decide +kernel
theorem dX8_whole_16 : decode cX8_whole 16 = .ok (.isub, 1) := by decide +kernel
theorem dX8_whole_17 : decode cX8_whole 17 = .ok (.iaload, 1) := by decide +kernel
theorem dX8_whole_18 : decode cX8_whole 18 = .ok (.bipush 33, 2) := by decide +kernel
theorem dX8_whole_20 : decode cX8_whole 20 = .ok (.if_icmp .ne 32, 3) := by decide +kernel
theorem dX8_whole_23 : decode cX8_whole 23 = .ok (.aload_n 0, 1) := by decide +kernel
theorem dX8_whole_24 : decode cX8_whole 24 = .ok (.bipush (-33), 2) := by decide +kernel
theorem dX8_whole_26 : decode cX8_whole 26 = .ok (.invokevirtual 254, 3) := by decide +kernel
theorem dX8_whole_29 : decode cX8_whole 29 = .ok (.aload_n 0, 1) := by decide +kernel
theorem dX8_whole_30 : decode cX8_whole 30 = .ok (.dup, 1) := by decide +kernel
theorem dX8_whole_31 : decode cX8_whole 31 = .ok (.getfield 74, 3) := by decide +kernel
theorem dX8_whole_34 : decode cX8_whole 34 = .ok (.iconst 1, 1) := by decide +kernel
theorem dX8_whole_35 : decode cX8_whole 35 = .ok (.isub, 1) := by decide +kernel
theorem dX8_whole_36 : decode cX8_whole 36 = .ok (.putfield 74, 3) := by decide +kernel
theorem dX8_whole_39 : decode cX8_whole 39 = .ok (.aload_n 0, 1) := by decide +kernel
theorem dX8_whole_40 : decode cX8_whole 40 = .ok (.dup, 1) := by decide +kernel
theorem dX8_whole_41 : decode cX8_whole 41 = .ok (.getfield 77, 3) := by decide +kernel
theorem dX8_whole_44 : decode cX8_whole 44 = .ok (.iconst 1, 1) := by decide +kernel
theorem dX8_whole_45 : decode cX8_whole 45 = .ok (.isub, 1) := by decide +kernel
theorem dX8_whole_46 : decode cX8_whole 46 = .ok (.putfield 77, 3) := by decide +kernel
theorem dX8_whole_49 : decode cX8_whole 49 = .ok (.goto (-49), 3) := by decide +kernel
theorem dX8_whole_52 : decode cX8_whole 52 = .ok (.return_, 1) := by decide +kernel
theorem dX8_settle_0 : decode cX8_settle 0 = .ok (.aload_n 0, 1) := by decide +kernel
theorem dX8_settle_1 : decode cX8_settle 1 = .ok (.getfield 74, 3) := by decide +kernel
theorem dX8_settle_4 : decode cX8_settle 4 = .ok (.ifCond .le 68, 3) := by decide +kernel
theorem dX8_settle_7 : decode cX8_settle 7 = .ok (.aload_n 0, 1) := by decide +kernel
theorem dX8_settle_8 : decode cX8_settle 8 = .ok (.getfield 68, 3) := by decide +kernel
theorem dX8_settle_11 : decode cX8_settle 11 = .ok (.aload_n 0, 1) := by decide +kernel
theorem dX8_settle_12 : decode cX8_settle 12 = .ok (.getfield 74, 3) := by decide +kernel
theorem dX8_settle_15 : decode cX8_settle 15 = .ok (.iconst 1, 1) := by decide +kernel
theorem dX8_settle_16 : decode cX8_settle 16 = .ok (.isub, 1) := by decide +kernel
theorem dX8_settle_17 : decode cX8_settle 17 = .ok (.iaload, 1) := by decide +kernel
theorem dX8_settle_18 : decode cX8_settle 18 = .ok (.bipush 38, 2) := by decide +kernel
theorem dX8_settle_20 : decode cX8_settle 20 = .ok (.if_icmp .eq 25, 3) := by decide +kernel
theorem dX8_settle_23 : decode cX8_settle 23 = .ok (.aload_n 0, 1) := by decide +kernel
theorem dX8_settle_24 : decode cX8_settle 24 = .ok (.getfield 68, 3) := by decide +kernel
theorem dX8_settle_27 : decode cX8_settle 27 = .ok (.aload_n 0, 1) := by decide +kernel
theorem dX8_settle_28 : decode cX8_settle 28 = .ok (.getfield 74, 3) := by decide +kernel
theorem dX8_settle_31 : decode cX8_settle 31 = .ok (.iconst 1, 1) := by decide +kernel
theorem dX8_settle_32 : decode cX8_settle 32 = .ok (.isub, 1) := by decide +kernel
theorem dX8_settle_33 : decode cX8_settle 33 = .ok (.iaload, 1) := by decide +kernel
theorem dX8_settle_34 : decode cX8_settle 34 = .ok (.bipush 124, 2) := by decide +kernel
theorem dX8_settle_36 : decode cX8_settle 36 = .ok (.if_icmp .ne 36, 3) := by decide +kernel
theorem dX8_settle_39 : decode cX8_settle 39 = .ok (.iload_n 1, 1) := by decide +kernel
theorem dX8_settle_40 : decode cX8_settle 40 = .ok (.bipush 38, 2) := by decide +kernel
theorem dX8_settle_42 : decode cX8_settle 42 = .ok (.if_icmp .eq 30, 3) := by decide +kernel
theorem dX8_settle_45 : decode cX8_settle 45 = .ok (.aload_n 0, 1) := by decide +kernel
theorem dX8_settle_46 : decode cX8_settle 46 = .ok (.dup, 1) := by decide +kernel
theorem dX8_settle_47 : decode cX8_settle 47 = .ok (.getfield 74, 3) := by decide +kernel
theorem dX8_settle_50 : decode cX8_settle 50 = .ok (.iconst 1, 1) := by decide +kernel
theorem dX8_settle_51 : decode cX8_settle 51 = .ok (.isub, 1) := by decide +kernel
theorem dX8_settle_52 : decode cX8_settle 52 = .ok (.putfield 74, 3) := by decide +kernel
theorem dX8_settle_55 : decode cX8_settle 55 = .ok (.aload_n 0, 1) := by decide +kernel
theorem dX8_settle_56 : decode cX8_settle 56 = .ok (.aload_n 0, 1) := by decide +kernel
theorem dX8_settle_57 : decode cX8_settle 57 = .ok (.getfield 68, 3) := by decide +kernel
theorem dX8_settle_60 : decode cX8_settle 60 = .ok (.aload_n 0, 1) := by decide +kernel
theorem dX8_settle_61 : decode cX8_settle 61 = .ok (.getfield 74, 3) := by decide +kernel
theorem dX8_settle_64 : decode cX8_settle 64 = .ok (.iaload, 1) := by decide +kernel
theorem dX8_settle_65 : decode cX8_settle 65 = .ok (.ineg, 1) := by decide +kernel
theorem dX8_settle_66 : decode cX8_settle 66 = .ok (.invokevirtual 254, 3) := by decide +kernel
theorem dX8_settle_69 : decode cX8_settle 69 = .ok (.goto (-69), 3) := by decide +kernel
theorem dX8_settle_72 : decode cX8_settle 72 = .ok (.return_, 1) := by decide +kernel
theorem dX8_place_0 : decode cX8_place 0 = .ok (.iload_n 1, 1) := by decide +kernel
theorem dX8_place_1 : decode cX8_place 1 = .ok (.tableswitch 99 104 121 #[89, 99, 99, 91, 95, 99, 99, 99, 99, 99, 99, 87, 99, 99, 93, 99, 99, 97], 87) := by decide +kernel
theorem dX8_place_88 : decode cX8_place 88 = .ok (.iconst 0, 1) := by decide +kernel
theorem dX8_place_89 : decode cX8_place 89 = .ok (.ireturn, 1) := by decide +kernel
theorem dX8_place_90 : decode cX8_place 90 = .ok (.iconst 1, 1) := by decide +kernel
theorem dX8_place_91 : decode cX8_place 91 = .ok (.ireturn, 1) := by decide +kernel
theorem dX8_place_92 : decode cX8_place 92 = .ok (.iconst 2, 1) := by decide +kernel
theorem dX8_place_93 : decode cX8_place 93 = .ok (.ireturn, 1) := by decide +kernel
theorem dX8_place_94 : decode cX8_place 94 = .ok (.iconst 3, 1) := by decide +kernel
theorem dX8_place_95 : decode cX8_place 95 = .ok (.ireturn, 1) := by decide +kernel
theorem dX8_place_96 : decode cX8_place 96 = .ok (.iconst 4, 1) := by decide +kernel
theorem dX8_place_97 : decode cX8_place 97 = .ok (.ireturn, 1) := by decide +kernel
theorem dX8_place_98 : decode cX8_place 98 = .ok (.iconst 5, 1) := by decide +kernel
theorem dX8_place_99 : decode cX8_place 99 = .ok (.ireturn, 1) := by decide +kernel
theorem dX8_place_100 : decode cX8_place 100 = .ok (.iconst (-1), 1) := by decide +kernel
theorem dX8_place_101 : decode cX8_place 101 = .ok (.ireturn, 1) := by decide +kernel
theorem dX8_takesTest_0 : decode cX8_takesTest 0 = .ok (.aload_n 0, 1) := by decide +kernel
theorem dX8_takesTest_1 : decode cX8_takesTest 1 = .ok (.aload_n 0, 1) := by decide +kernel
theorem dX8_takesTest_2 : decode cX8_takesTest 2 = .ok (.invokevirtual 243, 3) := by decide +kernel
theorem dX8_takesTest_5 : decode cX8_takesTest 5 = .ok (.invokevirtual 258, 3) := by decide +kernel
theorem dX8_takesTest_8 : decode cX8_takesTest 8 = .ok (.istore_n 1, 1) := by decide +kernel
theorem dX8_takesTest_9 : decode cX8_takesTest 9 = .ok (.iload_n 1, 1) := by decide +kernel
theorem dX8_takesTest_10 : decode cX8_takesTest 10 = .ok (.ifCond .ge 5, 3) := by decide +kernel
theorem dX8_takesTest_13 : decode cX8_takesTest 13 = .ok (.iconst 0, 1) := by decide +kernel
theorem dX8_takesTest_14 : decode cX8_takesTest 14 = .ok (.ireturn, 1) := by decide +kernel
theorem dX8_takesTest_15 : decode cX8_takesTest 15 = .ok (.aload_n 0, 1) := by decide +kernel
theorem dX8_takesTest_16 : decode cX8_takesTest 16 = .ok (.dup, 1) := by decide +kernel
theorem dX8_takesTest_17 : decode cX8_takesTest 17 = .ok (.getfield 41, 3) := by decide +kernel
theorem dX8_takesTest_20 : decode cX8_takesTest 20 = .ok (.iconst 1, 1) := by decide +kernel
theorem dX8_takesTest_21 : decode cX8_takesTest 21 = .ok (.iadd, 1) := by decide +kernel
theorem dX8_takesTest_22 : decode cX8_takesTest 22 = .ok (.putfield 41, 3) := by decide +kernel
theorem dX8_takesTest_25 : decode cX8_takesTest 25 = .ok (.aload_n 0, 1) := by decide +kernel
theorem dX8_takesTest_26 : decode cX8_takesTest 26 = .ok (.invokevirtual 243, 3) := by decide +kernel
theorem dX8_takesTest_29 : decode cX8_takesTest 29 = .ok (.istore_n 2, 1) := by decide +kernel
theorem dX8_takesTest_30 : decode cX8_takesTest 30 = .ok (.aload_n 0, 1) := by decide +kernel
theorem dX8_takesTest_31 : decode cX8_takesTest 31 = .ok (.iload_n 2, 1) := by decide +kernel
theorem dX8_takesTest_32 : decode cX8_takesTest 32 = .ok (.bipush 60, 2) := by decide +kernel
theorem dX8_takesTest_34 : decode cX8_takesTest 34 = .ok (.bipush 62, 2) := by decide +kernel
theorem dX8_takesTest_36 : decode cX8_takesTest 36 = .ok (.invokevirtual 218, 3) := by decide +kernel
theorem dX8_takesTest_39 : decode cX8_takesTest 39 = .ok (.ifCond .ne 5, 3) := by decide +kernel
theorem dX8_takesTest_42 : decode cX8_takesTest 42 = .ok (.iconst 0, 1) := by decide +kernel
theorem dX8_takesTest_43 : decode cX8_takesTest 43 = .ok (.ireturn, 1) := by decide +kernel
theorem dX8_takesTest_44 : decode cX8_takesTest 44 = .ok (.aload_n 0, 1) := by decide +kernel
theorem dX8_takesTest_45 : decode cX8_takesTest 45 = .ok (.dup, 1) := by decide +kernel
theorem dX8_takesTest_46 : decode cX8_takesTest 46 = .ok (.getfield 41, 3) := by decide +kernel
theorem dX8_takesTest_49 : decode cX8_takesTest 49 = .ok (.iconst 1, 1) := by decide +kernel
theorem dX8_takesTest_50 : decode cX8_takesTest 50 = .ok (.iadd, 1) := by decide +kernel
theorem dX8_takesTest_51 : decode cX8_takesTest 51 = .ok (.putfield 41, 3) := by decide +kernel
theorem dX8_takesTest_54 : decode cX8_takesTest 54 = .ok (.aload_n 0, 1) := by decide +kernel
theorem dX8_takesTest_55 : decode cX8_takesTest 55 = .ok (.invokevirtual 261, 3) := by decide +kernel
theorem dX8_takesTest_58 : decode cX8_takesTest 58 = .ok (.ifCond .ne 5, 3) := by decide +kernel
theorem dX8_takesTest_61 : decode cX8_takesTest 61 = .ok (.iconst 0, 1) := by decide +kernel
theorem dX8_takesTest_62 : decode cX8_takesTest 62 = .ok (.ireturn, 1) := by decide +kernel
theorem dX8_takesTest_63 : decode cX8_takesTest 63 = .ok (.aload_n 0, 1) := by decide +kernel
theorem dX8_takesTest_64 : decode cX8_takesTest 64 = .ok (.sipush 1000, 3) := by decide +kernel
theorem dX8_takesTest_67 : decode cX8_takesTest 67 = .ok (.iload_n 1, 1) := by decide +kernel
theorem dX8_takesTest_68 : decode cX8_takesTest 68 = .ok (.imul, 1) := by decide +kernel
theorem dX8_takesTest_69 : decode cX8_takesTest 69 = .ok (.bipush 100, 2) := by decide +kernel
theorem dX8_takesTest_71 : decode cX8_takesTest 71 = .ok (.iload_n 2, 1) := by decide +kernel
theorem dX8_takesTest_72 : decode cX8_takesTest 72 = .ok (.bipush 60, 2) := by decide +kernel
theorem dX8_takesTest_74 : decode cX8_takesTest 74 = .ok (.isub, 1) := by decide +kernel
theorem dX8_takesTest_75 : decode cX8_takesTest 75 = .ok (.imul, 1) := by decide +kernel
theorem dX8_takesTest_76 : decode cX8_takesTest 76 = .ok (.iadd, 1) := by decide +kernel
theorem dX8_takesTest_77 : decode cX8_takesTest 77 = .ok (.aload_n 0, 1) := by decide +kernel
theorem dX8_takesTest_78 : decode cX8_takesTest 78 = .ok (.getfield 44, 3) := by decide +kernel
theorem dX8_takesTest_81 : decode cX8_takesTest 81 = .ok (.iadd, 1) := by decide +kernel
theorem dX8_takesTest_82 : decode cX8_takesTest 82 = .ok (.invokevirtual 254, 3) := by decide +kernel
theorem dX8_takesTest_85 : decode cX8_takesTest 85 = .ok (.aload_n 0, 1) := by decide +kernel
theorem dX8_takesTest_86 : decode cX8_takesTest 86 = .ok (.invokevirtual 264, 3) := by decide +kernel
theorem dX8_takesTest_89 : decode cX8_takesTest 89 = .ok (.iconst 1, 1) := by decide +kernel
theorem dX8_takesTest_90 : decode cX8_takesTest 90 = .ok (.ireturn, 1) := by decide +kernel
theorem dX8_takesE_0 : decode cX8_takesE 0 = .ok (.aload_n 0, 1) := by decide +kernel
theorem dX8_takesE_1 : decode cX8_takesE 1 = .ok (.iconst 0, 1) := by decide +kernel
theorem dX8_takesE_2 : decode cX8_takesE 2 = .ok (.putfield 74, 3) := by decide +kernel
theorem dX8_takesE_5 : decode cX8_takesE 5 = .ok (.aload_n 0, 1) := by decide +kernel
theorem dX8_takesE_6 : decode cX8_takesE 6 = .ok (.iconst 0, 1) := by decide +kernel
theorem dX8_takesE_7 : decode cX8_takesE 7 = .ok (.putfield 77, 3) := by decide +kernel
theorem dX8_takesE_10 : decode cX8_takesE 10 = .ok (.aload_n 0, 1) := by decide +kernel
theorem dX8_takesE_11 : decode cX8_takesE 11 = .ok (.getfield 59, 3) := by decide +kernel
theorem dX8_takesE_14 : decode cX8_takesE 14 = .ok (.iload_n 1, 1) := by decide +kernel
theorem dX8_takesE_15 : decode cX8_takesE 15 = .ok (.aload_n 0, 1) := by decide +kernel
theorem dX8_takesE_16 : decode cX8_takesE 16 = .ok (.getfield 71, 3) := by decide +kernel
theorem dX8_takesE_19 : decode cX8_takesE 19 = .ok (.iastore, 1) := by decide +kernel
theorem dX8_takesE_20 : decode cX8_takesE 20 = .ok (.iconst 1, 1) := by decide +kernel
theorem dX8_takesE_21 : decode cX8_takesE 21 = .ok (.istore_n 2, 1) := by decide +kernel
theorem dX8_takesE_22 : decode cX8_takesE 22 = .ok (.aload_n 0, 1) := by decide +kernel
theorem dX8_takesE_23 : decode cX8_takesE 23 = .ok (.invokevirtual 243, 3) := by decide +kernel
theorem dX8_takesE_26 : decode cX8_takesE 26 = .ok (.istore_n 3, 1) := by decide +kernel
theorem dX8_takesE_27 : decode cX8_takesE 27 = .ok (.iload_n 2, 1) := by decide +kernel
theorem dX8_takesE_28 : decode cX8_takesE 28 = .ok (.ifCond .eq 82, 3) := by decide +kernel
theorem dX8_takesE_31 : decode cX8_takesE 31 = .ok (.iload_n 3, 1) := by decide +kernel
theorem dX8_takesE_32 : decode cX8_takesE 32 = .ok (.bipush 33, 2) := by decide +kernel
theorem dX8_takesE_34 : decode cX8_takesE 34 = .ok (.if_icmp .eq 9, 3) := by decide +kernel
theorem dX8_takesE_37 : decode cX8_takesE 37 = .ok (.iload_n 3, 1) := by decide +kernel
theorem dX8_takesE_38 : decode cX8_takesE 38 = .ok (.bipush 40, 2) := by decide +kernel
theorem dX8_takesE_40 : decode cX8_takesE 40 = .ok (.if_icmp .ne 56, 3) := by decide +kernel
theorem dX8_takesE_43 : decode cX8_takesE 43 = .ok (.aload_n 0, 1) := by decide +kernel
theorem dX8_takesE_44 : decode cX8_takesE 44 = .ok (.getfield 77, 3) := by decide +kernel
theorem dX8_takesE_47 : decode cX8_takesE 47 = .ok (.iconst 4, 1) := by decide +kernel
theorem dX8_takesE_48 : decode cX8_takesE 48 = .ok (.if_icmp .ne 5, 3) := by decide +kernel
theorem dX8_takesE_51 : decode cX8_takesE 51 = .ok (.iconst 0, 1) := by decide +kernel
theorem dX8_takesE_52 : decode cX8_takesE 52 = .ok (.ireturn, 1) := by decide +kernel
theorem dX8_takesE_53 : decode cX8_takesE 53 = .ok (.aload_n 0, 1) := by decide +kernel
theorem dX8_takesE_54 : decode cX8_takesE 54 = .ok (.dup, 1) := by decide +kernel
theorem dX8_takesE_55 : decode cX8_takesE 55 = .ok (.getfield 77, 3) := by decide +kernel
theorem dX8_takesE_58 : decode cX8_takesE 58 = .ok (.iconst 1, 1) := by decide +kernel
theorem dX8_takesE_59 : decode cX8_takesE 59 = .ok (.iadd, 1) := by decide +kernel
theorem dX8_takesE_60 : decode cX8_takesE 60 = .ok (.putfield 77, 3) := by decide +kernel
theorem dX8_takesE_63 : decode cX8_takesE 63 = .ok (.aload_n 0, 1) := by decide +kernel
theorem dX8_takesE_64 : decode cX8_takesE 64 = .ok (.getfield 68, 3) := by decide +kernel
theorem dX8_takesE_67 : decode cX8_takesE 67 = .ok (.aload_n 0, 1) := by decide +kernel
theorem dX8_takesE_68 : decode cX8_takesE 68 = .ok (.getfield 74, 3) := by decide +kernel
theorem dX8_takesE_71 : decode cX8_takesE 71 = .ok (.iload_n 3, 1) := by decide +kernel
theorem dX8_takesE_72 : decode cX8_takesE 72 = .ok (.iastore, 1) := by decide +kernel
theorem dX8_takesE_73 : decode cX8_takesE 73 = .ok (.aload_n 0, 1) := by decide +kernel
theorem dX8_takesE_74 : decode cX8_takesE 74 = .ok (.dup, 1) := by decide +kernel
theorem dX8_takesE_75 : decode cX8_takesE 75 = .ok (.getfield 74, 3) := by decide +kernel
theorem dX8_takesE_78 : decode cX8_takesE 78 = .ok (.iconst 1, 1) := by decide +kernel
theorem dX8_takesE_79 : decode cX8_takesE 79 = .ok (.iadd, 1) := by decide +kernel
theorem dX8_takesE_80 : decode cX8_takesE 80 = .ok (.putfield 74, 3) := by decide +kernel
theorem dX8_takesE_83 : decode cX8_takesE 83 = .ok (.aload_n 0, 1) := by decide +kernel
theorem dX8_takesE_84 : decode cX8_takesE 84 = .ok (.dup, 1) := by decide +kernel
theorem dX8_takesE_85 : decode cX8_takesE 85 = .ok (.getfield 41, 3) := by decide +kernel
theorem dX8_takesE_88 : decode cX8_takesE 88 = .ok (.iconst 1, 1) := by decide +kernel
theorem dX8_takesE_89 : decode cX8_takesE 89 = .ok (.iadd, 1) := by decide +kernel
theorem dX8_takesE_90 : decode cX8_takesE 90 = .ok (.putfield 41, 3) := by decide +kernel
theorem dX8_takesE_93 : decode cX8_takesE 93 = .ok (.goto (-71), 3) := by decide +kernel
theorem dX8_takesE_96 : decode cX8_takesE 96 = .ok (.aload_n 0, 1) := by decide +kernel
theorem dX8_takesE_97 : decode cX8_takesE 97 = .ok (.invokevirtual 267, 3) := by decide +kernel
theorem dX8_takesE_100 : decode cX8_takesE 100 = .ok (.ifCond .eq 8, 3) := by decide +kernel
theorem dX8_takesE_103 : decode cX8_takesE 103 = .ok (.iconst 0, 1) := by decide +kernel
theorem dX8_takesE_104 : decode cX8_takesE 104 = .ok (.istore_n 2, 1) := by decide +kernel
theorem dX8_takesE_105 : decode cX8_takesE 105 = .ok (.goto (-83), 3) := by decide +kernel
theorem dX8_takesE_108 : decode cX8_takesE 108 = .ok (.iconst 0, 1) := by decide +kernel
theorem dX8_takesE_109 : decode cX8_takesE 109 = .ok (.ireturn, 1) := by decide +kernel
theorem dX8_takesE_110 : decode cX8_takesE 110 = .ok (.iload_n 3, 1) := by decide +kernel
theorem dX8_takesE_111 : decode cX8_takesE 111 = .ok (.bipush 38, 2) := by decide +kernel
theorem dX8_takesE_113 : decode cX8_takesE 113 = .ok (.if_icmp .eq 9, 3) := by decide +kernel
theorem dX8_takesE_116 : decode cX8_takesE 116 = .ok (.iload_n 3, 1) := by decide +kernel
theorem dX8_takesE_117 : decode cX8_takesE 117 = .ok (.bipush 124, 2) := by decide +kernel
theorem dX8_takesE_119 : decode cX8_takesE 119 = .ok (.if_icmp .ne 43, 3) := by decide +kernel
theorem dX8_takesE_122 : decode cX8_takesE 122 = .ok (.aload_n 0, 1) := by decide +kernel
theorem dX8_takesE_123 : decode cX8_takesE 123 = .ok (.iload_n 3, 1) := by decide +kernel
theorem dX8_takesE_124 : decode cX8_takesE 124 = .ok (.invokevirtual 270, 3) := by decide +kernel
theorem dX8_takesE_127 : decode cX8_takesE 127 = .ok (.aload_n 0, 1) := by decide +kernel
theorem dX8_takesE_128 : decode cX8_takesE 128 = .ok (.getfield 68, 3) := by decide +kernel
theorem dX8_takesE_131 : decode cX8_takesE 131 = .ok (.aload_n 0, 1) := by decide +kernel
theorem dX8_takesE_132 : decode cX8_takesE 132 = .ok (.getfield 74, 3) := by decide +kernel
theorem dX8_takesE_135 : decode cX8_takesE 135 = .ok (.iload_n 3, 1) := by decide +kernel
theorem dX8_takesE_136 : decode cX8_takesE 136 = .ok (.iastore, 1) := by decide +kernel
theorem dX8_takesE_137 : decode cX8_takesE 137 = .ok (.aload_n 0, 1) := by decide +kernel
theorem dX8_takesE_138 : decode cX8_takesE 138 = .ok (.dup, 1) := by decide +kernel
theorem dX8_takesE_139 : decode cX8_takesE 139 = .ok (.getfield 74, 3) := by decide +kernel
theorem dX8_takesE_142 : decode cX8_takesE 142 = .ok (.iconst 1, 1) := by decide +kernel
theorem dX8_takesE_143 : decode cX8_takesE 143 = .ok (.iadd, 1) := by decide +kernel
theorem dX8_takesE_144 : decode cX8_takesE 144 = .ok (.putfield 74, 3) := by decide +kernel
theorem dX8_takesE_147 : decode cX8_takesE 147 = .ok (.iconst 1, 1) := by decide +kernel
theorem dX8_takesE_148 : decode cX8_takesE 148 = .ok (.istore_n 2, 1) := by decide +kernel
theorem dX8_takesE_149 : decode cX8_takesE 149 = .ok (.aload_n 0, 1) := by decide +kernel
theorem dX8_takesE_150 : decode cX8_takesE 150 = .ok (.dup, 1) := by decide +kernel
theorem dX8_takesE_151 : decode cX8_takesE 151 = .ok (.getfield 41, 3) := by decide +kernel
theorem dX8_takesE_154 : decode cX8_takesE 154 = .ok (.iconst 1, 1) := by decide +kernel
theorem dX8_takesE_155 : decode cX8_takesE 155 = .ok (.iadd, 1) := by decide +kernel
theorem dX8_takesE_156 : decode cX8_takesE 156 = .ok (.putfield 41, 3) := by decide +kernel
theorem dX8_takesE_159 : decode cX8_takesE 159 = .ok (.goto (-137), 3) := by decide +kernel
theorem dX8_takesE_162 : decode cX8_takesE 162 = .ok (.aload_n 0, 1) := by decide +kernel
theorem dX8_takesE_163 : decode cX8_takesE 163 = .ok (.bipush 124, 2) := by decide +kernel
theorem dX8_takesE_165 : decode cX8_takesE 165 = .ok (.invokevirtual 270, 3) := by decide +kernel
theorem dX8_takesE_168 : decode cX8_takesE 168 = .ok (.aload_n 0, 1) := by decide +kernel
theorem dX8_takesE_169 : decode cX8_takesE 169 = .ok (.getfield 62, 3) := by decide +kernel
theorem dX8_takesE_172 : decode cX8_takesE 172 = .ok (.iload_n 1, 1) := by decide +kernel
theorem dX8_takesE_173 : decode cX8_takesE 173 = .ok (.aload_n 0, 1) := by decide +kernel
theorem dX8_takesE_174 : decode cX8_takesE 174 = .ok (.getfield 71, 3) := by decide +kernel
theorem dX8_takesE_177 : decode cX8_takesE 177 = .ok (.iastore, 1) := by decide +kernel
theorem dX8_takesE_178 : decode cX8_takesE 178 = .ok (.aload_n 0, 1) := by decide +kernel
theorem dX8_takesE_179 : decode cX8_takesE 179 = .ok (.getfield 74, 3) := by decide +kernel
theorem dX8_takesE_182 : decode cX8_takesE 182 = .ok (.ifCond .ne 5, 3) := by decide +kernel
theorem dX8_takesE_185 : decode cX8_takesE 185 = .ok (.iconst 1, 1) := by decide +kernel
theorem dX8_takesE_186 : decode cX8_takesE 186 = .ok (.ireturn, 1) := by decide +kernel
theorem dX8_takesE_187 : decode cX8_takesE 187 = .ok (.iload_n 3, 1) := by decide +kernel
theorem dX8_takesE_188 : decode cX8_takesE 188 = .ok (.bipush 41, 2) := by decide +kernel
theorem dX8_takesE_190 : decode cX8_takesE 190 = .ok (.if_icmp .eq 5, 3) := by decide +kernel
theorem dX8_takesE_193 : decode cX8_takesE 193 = .ok (.iconst 0, 1) := by decide +kernel
theorem dX8_takesE_194 : decode cX8_takesE 194 = .ok (.ireturn, 1) := by decide +kernel
theorem dX8_takesE_195 : decode cX8_takesE 195 = .ok (.aload_n 0, 1) := by decide +kernel
theorem dX8_takesE_196 : decode cX8_takesE 196 = .ok (.dup, 1) := by decide +kernel
theorem dX8_takesE_197 : decode cX8_takesE 197 = .ok (.getfield 74, 3) := by decide +kernel
theorem dX8_takesE_200 : decode cX8_takesE 200 = .ok (.iconst 1, 1) := by decide +kernel
theorem dX8_takesE_201 : decode cX8_takesE 201 = .ok (.isub, 1) := by decide +kernel
theorem dX8_takesE_202 : decode cX8_takesE 202 = .ok (.putfield 74, 3) := by decide +kernel
theorem dX8_takesE_205 : decode cX8_takesE 205 = .ok (.aload_n 0, 1) := by decide +kernel
theorem dX8_takesE_206 : decode cX8_takesE 206 = .ok (.dup, 1) := by decide +kernel
theorem dX8_takesE_207 : decode cX8_takesE 207 = .ok (.getfield 77, 3) := by decide +kernel
theorem dX8_takesE_210 : decode cX8_takesE 210 = .ok (.iconst 1, 1) := by decide +kernel
theorem dX8_takesE_211 : decode cX8_takesE 211 = .ok (.isub, 1) := by decide +kernel
theorem dX8_takesE_212 : decode cX8_takesE 212 = .ok (.putfield 77, 3) := by decide +kernel
theorem dX8_takesE_215 : decode cX8_takesE 215 = .ok (.aload_n 0, 1) := by decide +kernel
theorem dX8_takesE_216 : decode cX8_takesE 216 = .ok (.dup, 1) := by decide +kernel
theorem dX8_takesE_217 : decode cX8_takesE 217 = .ok (.getfield 41, 3) := by decide +kernel
theorem dX8_takesE_220 : decode cX8_takesE 220 = .ok (.iconst 1, 1) := by decide +kernel
theorem dX8_takesE_221 : decode cX8_takesE 221 = .ok (.iadd, 1) := by decide +kernel
theorem dX8_takesE_222 : decode cX8_takesE 222 = .ok (.putfield 41, 3) := by decide +kernel
theorem dX8_takesE_225 : decode cX8_takesE 225 = .ok (.aload_n 0, 1) := by decide +kernel
theorem dX8_takesE_226 : decode cX8_takesE 226 = .ok (.invokevirtual 264, 3) := by decide +kernel
theorem dX8_takesE_229 : decode cX8_takesE 229 = .ok (.goto (-207), 3) := by decide +kernel
theorem dX8_takesHead_0 : decode cX8_takesHead 0 = .ok (.aload_n 0, 1) := by decide +kernel
theorem dX8_takesHead_1 : decode cX8_takesHead 1 = .ok (.invokevirtual 243, 3) := by decide +kernel
theorem dX8_takesHead_4 : decode cX8_takesHead 4 = .ok (.lookupswitch 79 #[(99, 64), (108, 36), (115, 50)], 36) := by decide +kernel
theorem dX8_takesHead_40 : decode cX8_takesHead 40 = .ok (.aload_n 0, 1) := by decide +kernel
theorem dX8_takesHead_41 : decode cX8_takesHead 41 = .ok (.getfield 53, 3) := by decide +kernel
theorem dX8_takesHead_44 : decode cX8_takesHead 44 = .ok (.iload_n 1, 1) := by decide +kernel
theorem dX8_takesHead_45 : decode cX8_takesHead 45 = .ok (.iconst 0, 1) := by decide +kernel
theorem dX8_takesHead_46 : decode cX8_takesHead 46 = .ok (.iastore, 1) := by decide +kernel
theorem dX8_takesHead_47 : decode cX8_takesHead 47 = .ok (.aload_n 0, 1) := by decide +kernel
theorem dX8_takesHead_48 : decode cX8_takesHead 48 = .ok (.iconst 0, 1) := by decide +kernel
theorem dX8_takesHead_49 : decode cX8_takesHead 49 = .ok (.iconst 4, 1) := by decide +kernel
theorem dX8_takesHead_50 : decode cX8_takesHead 50 = .ok (.invokevirtual 273, 3) := by decide +kernel
theorem dX8_takesHead_53 : decode cX8_takesHead 53 = .ok (.ireturn, 1) := by decide +kernel
theorem dX8_takesHead_54 : decode cX8_takesHead 54 = .ok (.aload_n 0, 1) := by decide +kernel
theorem dX8_takesHead_55 : decode cX8_takesHead 55 = .ok (.getfield 53, 3) := by decide +kernel
theorem dX8_takesHead_58 : decode cX8_takesHead 58 = .ok (.iload_n 1, 1) := by decide +kernel
theorem dX8_takesHead_59 : decode cX8_takesHead 59 = .ok (.iconst 1, 1) := by decide +kernel
theorem dX8_takesHead_60 : decode cX8_takesHead 60 = .ok (.iastore, 1) := by decide +kernel
theorem dX8_takesHead_61 : decode cX8_takesHead 61 = .ok (.aload_n 0, 1) := by decide +kernel
theorem dX8_takesHead_62 : decode cX8_takesHead 62 = .ok (.iconst 4, 1) := by decide +kernel
theorem dX8_takesHead_63 : decode cX8_takesHead 63 = .ok (.iconst 4, 1) := by decide +kernel
theorem dX8_takesHead_64 : decode cX8_takesHead 64 = .ok (.invokevirtual 273, 3) := by decide +kernel
theorem dX8_takesHead_67 : decode cX8_takesHead 67 = .ok (.ireturn, 1) := by decide +kernel
theorem dX8_takesHead_68 : decode cX8_takesHead 68 = .ok (.aload_n 0, 1) := by decide +kernel
theorem dX8_takesHead_69 : decode cX8_takesHead 69 = .ok (.getfield 53, 3) := by decide +kernel
theorem dX8_takesHead_72 : decode cX8_takesHead 72 = .ok (.iload_n 1, 1) := by decide +kernel
theorem dX8_takesHead_73 : decode cX8_takesHead 73 = .ok (.iconst 3, 1) := by decide +kernel
theorem dX8_takesHead_74 : decode cX8_takesHead 74 = .ok (.iastore, 1) := by decide +kernel
theorem dX8_takesHead_75 : decode cX8_takesHead 75 = .ok (.aload_n 0, 1) := by decide +kernel
theorem dX8_takesHead_76 : decode cX8_takesHead 76 = .ok (.bipush 12, 2) := by decide +kernel
theorem dX8_takesHead_78 : decode cX8_takesHead 78 = .ok (.iconst 4, 1) := by decide +kernel
theorem dX8_takesHead_79 : decode cX8_takesHead 79 = .ok (.invokevirtual 273, 3) := by decide +kernel
theorem dX8_takesHead_82 : decode cX8_takesHead 82 = .ok (.ireturn, 1) := by decide +kernel
theorem dX8_takesHead_83 : decode cX8_takesHead 83 = .ok (.aload_n 0, 1) := by decide +kernel
theorem dX8_takesHead_84 : decode cX8_takesHead 84 = .ok (.getfield 53, 3) := by decide +kernel
theorem dX8_takesHead_87 : decode cX8_takesHead 87 = .ok (.iload_n 1, 1) := by decide +kernel
theorem dX8_takesHead_88 : decode cX8_takesHead 88 = .ok (.aload_n 0, 1) := by decide +kernel
theorem dX8_takesHead_89 : decode cX8_takesHead 89 = .ok (.invokevirtual 277, 3) := by decide +kernel
theorem dX8_takesHead_92 : decode cX8_takesHead 92 = .ok (.bipush 101, 2) := by decide +kernel
theorem dX8_takesHead_94 : decode cX8_takesHead 94 = .ok (.if_icmp .ne 7, 3) := by decide +kernel
theorem dX8_takesHead_97 : decode cX8_takesHead 97 = .ok (.iconst 4, 1) := by decide +kernel
theorem dX8_takesHead_98 : decode cX8_takesHead 98 = .ok (.goto 4, 3) := by decide +kernel
theorem dX8_takesHead_101 : decode cX8_takesHead 101 = .ok (.iconst 2, 1) := by decide +kernel
theorem dX8_takesHead_102 : decode cX8_takesHead 102 = .ok (.iastore, 1) := by decide +kernel
theorem dX8_takesHead_103 : decode cX8_takesHead 103 = .ok (.aload_n 0, 1) := by decide +kernel
theorem dX8_takesHead_104 : decode cX8_takesHead 104 = .ok (.getfield 53, 3) := by decide +kernel
theorem dX8_takesHead_107 : decode cX8_takesHead 107 = .ok (.iload_n 1, 1) := by decide +kernel
theorem dX8_takesHead_108 : decode cX8_takesHead 108 = .ok (.iaload, 1) := by decide +kernel
theorem dX8_takesHead_109 : decode cX8_takesHead 109 = .ok (.iconst 4, 1) := by decide +kernel
theorem dX8_takesHead_110 : decode cX8_takesHead 110 = .ok (.if_icmp .ne 13, 3) := by decide +kernel
theorem dX8_takesHead_113 : decode cX8_takesHead 113 = .ok (.aload_n 0, 1) := by decide +kernel
theorem dX8_takesHead_114 : decode cX8_takesHead 114 = .ok (.bipush 16, 2) := by decide +kernel
theorem dX8_takesHead_116 : decode cX8_takesHead 116 = .ok (.iconst 4, 1) := by decide +kernel
theorem dX8_takesHead_117 : decode cX8_takesHead 117 = .ok (.invokevirtual 273, 3) := by decide +kernel
theorem dX8_takesHead_120 : decode cX8_takesHead 120 = .ok (.goto 10, 3) := by decide +kernel
theorem dX8_takesHead_123 : decode cX8_takesHead 123 = .ok (.aload_n 0, 1) := by decide +kernel
theorem dX8_takesHead_124 : decode cX8_takesHead 124 = .ok (.bipush 8, 2) := by decide +kernel
theorem dX8_takesHead_126 : decode cX8_takesHead 126 = .ok (.iconst 4, 1) := by decide +kernel
theorem dX8_takesHead_127 : decode cX8_takesHead 127 = .ok (.invokevirtual 273, 3) := by decide +kernel
theorem dX8_takesHead_130 : decode cX8_takesHead 130 = .ok (.ireturn, 1) := by decide +kernel
theorem dX8_takesClause_0 : decode cX8_takesClause 0 = .ok (.aload_n 0, 1) := by decide +kernel
theorem dX8_takesClause_1 : decode cX8_takesClause 1 = .ok (.iload_n 1, 1) := by decide +kernel
theorem dX8_takesClause_2 : decode cX8_takesClause 2 = .ok (.invokevirtual 280, 3) := by decide +kernel
theorem dX8_takesClause_5 : decode cX8_takesClause 5 = .ok (.ifCond .eq 10, 3) := by decide +kernel
theorem dX8_takesClause_8 : decode cX8_takesClause 8 = .ok (.aload_n 0, 1) := by decide +kernel
theorem dX8_takesClause_9 : decode cX8_takesClause 9 = .ok (.invokevirtual 261, 3) := by decide +kernel
theorem dX8_takesClause_12 : decode cX8_takesClause 12 = .ok (.ifCond .ne 5, 3) := by decide +kernel
theorem dX8_takesClause_15 : decode cX8_takesClause 15 = .ok (.iconst 0, 1) := by decide +kernel
theorem dX8_takesClause_16 : decode cX8_takesClause 16 = .ok (.ireturn, 1) := by decide +kernel
theorem dX8_takesClause_17 : decode cX8_takesClause 17 = .ok (.aload_n 0, 1) := by decide +kernel
theorem dX8_takesClause_18 : decode cX8_takesClause 18 = .ok (.getfield 56, 3) := by decide +kernel
theorem dX8_takesClause_21 : decode cX8_takesClause 21 = .ok (.iload_n 1, 1) := by decide +kernel
theorem dX8_takesClause_22 : decode cX8_takesClause 22 = .ok (.aload_n 0, 1) := by decide +kernel
theorem dX8_takesClause_23 : decode cX8_takesClause 23 = .ok (.getfield 44, 3) := by decide +kernel
theorem dX8_takesClause_26 : decode cX8_takesClause 26 = .ok (.iastore, 1) := by decide +kernel
theorem dX8_takesClause_27 : decode cX8_takesClause 27 = .ok (.aload_n 0, 1) := by decide +kernel
theorem dX8_takesClause_28 : decode cX8_takesClause 28 = .ok (.getfield 53, 3) := by decide +kernel
theorem dX8_takesClause_31 : decode cX8_takesClause 31 = .ok (.iload_n 1, 1) := by decide +kernel
theorem dX8_takesClause_32 : decode cX8_takesClause 32 = .ok (.iaload, 1) := by decide +kernel
theorem dX8_takesClause_33 : decode cX8_takesClause 33 = .ok (.iconst 2, 1) := by decide +kernel
theorem dX8_takesClause_34 : decode cX8_takesClause 34 = .ok (.if_icmp .ge 20, 3) := by decide +kernel
theorem dX8_takesClause_37 : decode cX8_takesClause 37 = .ok (.aload_n 0, 1) := by decide +kernel
theorem dX8_takesClause_38 : decode cX8_takesClause 38 = .ok (.bipush 32, 2) := by decide +kernel
theorem dX8_takesClause_40 : decode cX8_takesClause 40 = .ok (.invokevirtual 247, 3) := by decide +kernel
theorem dX8_takesClause_43 : decode cX8_takesClause 43 = .ok (.ifCond .eq 15, 3) := by decide +kernel
theorem dX8_takesClause_46 : decode cX8_takesClause 46 = .ok (.aload_n 0, 1) := by decide +kernel
theorem dX8_takesClause_47 : decode cX8_takesClause 47 = .ok (.iload_n 1, 1) := by decide +kernel
theorem dX8_takesClause_48 : decode cX8_takesClause 48 = .ok (.invokevirtual 283, 3) := by decide +kernel
theorem dX8_takesClause_51 : decode cX8_takesClause 51 = .ok (.ifCond .eq 7, 3) := by decide +kernel
theorem dX8_takesClause_54 : decode cX8_takesClause 54 = .ok (.iconst 1, 1) := by decide +kernel
theorem dX8_takesClause_55 : decode cX8_takesClause 55 = .ok (.goto 4, 3) := by decide +kernel
theorem dX8_takesClause_58 : decode cX8_takesClause 58 = .ok (.iconst 0, 1) := by decide +kernel
theorem dX8_takesClause_59 : decode cX8_takesClause 59 = .ok (.ireturn, 1) := by decide +kernel
theorem dX8_goesText_0 : decode cX8_goesText 0 = .ok (.aload_n 0, 1) := by decide +kernel
theorem dX8_goesText_1 : decode cX8_goesText 1 = .ok (.iconst 0, 1) := by decide +kernel
theorem dX8_goesText_2 : decode cX8_goesText 2 = .ok (.putfield 41, 3) := by decide +kernel
theorem dX8_goesText_5 : decode cX8_goesText 5 = .ok (.aload_n 0, 1) := by decide +kernel
theorem dX8_goesText_6 : decode cX8_goesText 6 = .ok (.bipush 100, 2) := by decide +kernel
theorem dX8_goesText_8 : decode cX8_goesText 8 = .ok (.iload_n 1, 1) := by decide +kernel
theorem dX8_goesText_9 : decode cX8_goesText 9 = .ok (.imul, 1) := by decide +kernel
theorem dX8_goesText_10 : decode cX8_goesText 10 = .ok (.putfield 71, 3) := by decide +kernel
theorem dX8_goesText_13 : decode cX8_goesText 13 = .ok (.iconst 0, 1) := by decide +kernel
theorem dX8_goesText_14 : decode cX8_goesText 14 = .ok (.istore_n 2, 1) := by decide +kernel
theorem dX8_goesText_15 : decode cX8_goesText 15 = .ok (.aload_n 0, 1) := by decide +kernel
theorem dX8_goesText_16 : decode cX8_goesText 16 = .ok (.bipush 10, 2) := by decide +kernel
theorem dX8_goesText_18 : decode cX8_goesText 18 = .ok (.iload_n 1, 1) := by decide +kernel
theorem dX8_goesText_19 : decode cX8_goesText 19 = .ok (.imul, 1) := by decide +kernel
theorem dX8_goesText_20 : decode cX8_goesText 20 = .ok (.iload_n 2, 1) := by decide +kernel
theorem dX8_goesText_21 : decode cX8_goesText 21 = .ok (.iadd, 1) := by decide +kernel
theorem dX8_goesText_22 : decode cX8_goesText 22 = .ok (.invokevirtual 286, 3) := by decide +kernel
theorem dX8_goesText_25 : decode cX8_goesText 25 = .ok (.ifCond .ne 5, 3) := by decide +kernel
theorem dX8_goesText_28 : decode cX8_goesText 28 = .ok (.iconst 0, 1) := by decide +kernel
theorem dX8_goesText_29 : decode cX8_goesText 29 = .ok (.ireturn, 1) := by decide +kernel
theorem dX8_goesText_30 : decode cX8_goesText 30 = .ok (.iinc 2 1, 3) := by decide +kernel
theorem dX8_goesText_33 : decode cX8_goesText 33 = .ok (.aload_n 0, 1) := by decide +kernel
theorem dX8_goesText_34 : decode cX8_goesText 34 = .ok (.getfield 50, 3) := by decide +kernel
theorem dX8_goesText_37 : decode cX8_goesText 37 = .ok (.iload_n 1, 1) := by decide +kernel
theorem dX8_goesText_38 : decode cX8_goesText 38 = .ok (.iload_n 2, 1) := by decide +kernel
theorem dX8_goesText_39 : decode cX8_goesText 39 = .ok (.iastore, 1) := by decide +kernel
theorem dX8_goesText_40 : decode cX8_goesText 40 = .ok (.aload_n 0, 1) := by decide +kernel
theorem dX8_goesText_41 : decode cX8_goesText 41 = .ok (.getfield 41, 3) := by decide +kernel
theorem dX8_goesText_44 : decode cX8_goesText 44 = .ok (.aload_n 0, 1) := by decide +kernel
theorem dX8_goesText_45 : decode cX8_goesText 45 = .ok (.getfield 38, 3) := by decide +kernel
theorem dX8_goesText_48 : decode cX8_goesText 48 = .ok (.if_icmp .ne 5, 3) := by decide +kernel
theorem dX8_goesText_51 : decode cX8_goesText 51 = .ok (.iconst 1, 1) := by decide +kernel
theorem dX8_goesText_52 : decode cX8_goesText 52 = .ok (.ireturn, 1) := by decide +kernel
theorem dX8_goesText_53 : decode cX8_goesText 53 = .ok (.iload_n 2, 1) := by decide +kernel
theorem dX8_goesText_54 : decode cX8_goesText 54 = .ok (.bipush 10, 2) := by decide +kernel
theorem dX8_goesText_56 : decode cX8_goesText 56 = .ok (.if_icmp .eq 12, 3) := by decide +kernel
theorem dX8_goesText_59 : decode cX8_goesText 59 = .ok (.aload_n 0, 1) := by decide +kernel
theorem dX8_goesText_60 : decode cX8_goesText 60 = .ok (.bipush 59, 2) := by decide +kernel
theorem dX8_goesText_62 : decode cX8_goesText 62 = .ok (.invokevirtual 247, 3) := by decide +kernel
theorem dX8_goesText_65 : decode cX8_goesText 65 = .ok (.ifCond .ne (-50), 3) := by decide +kernel
theorem dX8_goesText_68 : decode cX8_goesText 68 = .ok (.iconst 0, 1) := by decide +kernel
theorem dX8_goesText_69 : decode cX8_goesText 69 = .ok (.ireturn, 1) := by decide +kernel
theorem dX8_street_0 : decode cX8_street 0 = .ok (.aload_n 0, 1) := by decide +kernel
theorem dX8_street_1 : decode cX8_street 1 = .ok (.getfield 32, 3) := by decide +kernel
theorem dX8_street_4 : decode cX8_street 4 = .ok (.bipush 6, 2) := by decide +kernel
theorem dX8_street_6 : decode cX8_street 6 = .ok (.if_icmp .ne 6, 3) := by decide +kernel
theorem dX8_street_9 : decode cX8_street 9 = .ok (.bipush (-4), 2) := by decide +kernel
theorem dX8_street_11 : decode cX8_street 11 = .ok (.ireturn, 1) := by decide +kernel
theorem dX8_street_12 : decode cX8_street 12 = .ok (.aload_n 0, 1) := by decide +kernel
theorem dX8_street_13 : decode cX8_street 13 = .ok (.aload_n 0, 1) := by decide +kernel
theorem dX8_street_14 : decode cX8_street 14 = .ok (.getfield 32, 3) := by decide +kernel
theorem dX8_street_17 : decode cX8_street 17 = .ok (.invokevirtual 289, 3) := by decide +kernel
theorem dX8_street_20 : decode cX8_street 20 = .ok (.istore_n 1, 1) := by decide +kernel
theorem dX8_street_21 : decode cX8_street 21 = .ok (.aload_n 0, 1) := by decide +kernel
theorem dX8_street_22 : decode cX8_street 22 = .ok (.iconst 0, 1) := by decide +kernel
theorem dX8_street_23 : decode cX8_street 23 = .ok (.putfield 38, 3) := by decide +kernel
theorem dX8_street_26 : decode cX8_street 26 = .ok (.iload_n 1, 1) := by decide +kernel
theorem dX8_street_27 : decode cX8_street 27 = .ok (.ifCond .ne 11, 3) := by decide +kernel
theorem dX8_street_30 : decode cX8_street 30 = .ok (.bipush (-10), 2) := by decide +kernel
theorem dX8_street_32 : decode cX8_street 32 = .ok (.aload_n 0, 1) := by decide +kernel
theorem dX8_street_33 : decode cX8_street 33 = .ok (.getfield 41, 3) := by decide +kernel
theorem dX8_street_36 : decode cX8_street 36 = .ok (.isub, 1) := by decide +kernel
theorem dX8_street_37 : decode cX8_street 37 = .ok (.ireturn, 1) := by decide +kernel
theorem dX8_street_38 : decode cX8_street 38 = .ok (.aload_n 0, 1) := by decide +kernel
theorem dX8_street_39 : decode cX8_street 39 = .ok (.aload_n 0, 1) := by decide +kernel
theorem dX8_street_40 : decode cX8_street 40 = .ok (.getfield 32, 3) := by decide +kernel
theorem dX8_street_43 : decode cX8_street 43 = .ok (.putfield 35, 3) := by decide +kernel
theorem dX8_street_46 : decode cX8_street 46 = .ok (.aload_n 0, 1) := by decide +kernel
theorem dX8_street_47 : decode cX8_street 47 = .ok (.dup, 1) := by decide +kernel
theorem dX8_street_48 : decode cX8_street 48 = .ok (.getfield 32, 3) := by decide +kernel
theorem dX8_street_51 : decode cX8_street 51 = .ok (.iconst 1, 1) := by decide +kernel
theorem dX8_street_52 : decode cX8_street 52 = .ok (.iadd, 1) := by decide +kernel
theorem dX8_street_53 : decode cX8_street 53 = .ok (.putfield 32, 3) := by decide +kernel
theorem dX8_street_56 : decode cX8_street 56 = .ok (.aload_n 0, 1) := by decide +kernel
theorem dX8_street_57 : decode cX8_street 57 = .ok (.getfield 35, 3) := by decide +kernel
theorem dX8_street_60 : decode cX8_street 60 = .ok (.ireturn, 1) := by decide +kernel
theorem dX8_begin_0 : decode cX8_begin 0 = .ok (.aload_n 0, 1) := by decide +kernel
theorem dX8_begin_1 : decode cX8_begin 1 = .ok (.getfield 35, 3) := by decide +kernel
theorem dX8_begin_4 : decode cX8_begin 4 = .ok (.ifCond .ge 7, 3) := by decide +kernel
theorem dX8_begin_7 : decode cX8_begin 7 = .ok (.iconst 0, 1) := by decide +kernel
theorem dX8_begin_8 : decode cX8_begin 8 = .ok (.goto 10, 3) := by decide +kernel
theorem dX8_begin_11 : decode cX8_begin 11 = .ok (.bipush 10, 2) := by decide +kernel
theorem dX8_begin_13 : decode cX8_begin 13 = .ok (.aload_n 0, 1) := by decide +kernel
theorem dX8_begin_14 : decode cX8_begin 14 = .ok (.getfield 35, 3) := by decide +kernel
theorem dX8_begin_17 : decode cX8_begin 17 = .ok (.imul, 1) := by decide +kernel
theorem dX8_begin_18 : decode cX8_begin 18 = .ok (.ireturn, 1) := by decide +kernel
theorem dX8_behind_0 : decode cX8_behind 0 = .ok (.aload_n 0, 1) := by decide +kernel
theorem dX8_behind_1 : decode cX8_behind 1 = .ok (.getfield 35, 3) := by decide +kernel
theorem dX8_behind_4 : decode cX8_behind 4 = .ok (.ifCond .ge 7, 3) := by decide +kernel
theorem dX8_behind_7 : decode cX8_behind 7 = .ok (.iconst 0, 1) := by decide +kernel
theorem dX8_behind_8 : decode cX8_behind 8 = .ok (.goto 20, 3) := by decide +kernel
theorem dX8_behind_11 : decode cX8_behind 11 = .ok (.bipush 10, 2) := by decide +kernel
theorem dX8_behind_13 : decode cX8_behind 13 = .ok (.aload_n 0, 1) := by decide +kernel
theorem dX8_behind_14 : decode cX8_behind 14 = .ok (.getfield 35, 3) := by decide +kernel
theorem dX8_behind_17 : decode cX8_behind 17 = .ok (.imul, 1) := by decide +kernel
theorem dX8_behind_18 : decode cX8_behind 18 = .ok (.aload_n 0, 1) := by decide +kernel
theorem dX8_behind_19 : decode cX8_behind 19 = .ok (.getfield 50, 3) := by decide +kernel
theorem dX8_behind_22 : decode cX8_behind 22 = .ok (.aload_n 0, 1) := by decide +kernel
theorem dX8_behind_23 : decode cX8_behind 23 = .ok (.getfield 35, 3) := by decide +kernel
theorem dX8_behind_26 : decode cX8_behind 26 = .ok (.iaload, 1) := by decide +kernel
theorem dX8_behind_27 : decode cX8_behind 27 = .ok (.iadd, 1) := by decide +kernel
theorem dX8_behind_28 : decode cX8_behind 28 = .ok (.ireturn, 1) := by decide +kernel
theorem dX8_lastOf_0 : decode cX8_lastOf 0 = .ok (.iload_n 2, 1) := by decide +kernel
theorem dX8_lastOf_1 : decode cX8_lastOf 1 = .ok (.istore_n 3, 1) := by decide +kernel
theorem dX8_lastOf_2 : decode cX8_lastOf 2 = .ok (.aload_n 0, 1) := by decide +kernel
theorem dX8_lastOf_3 : decode cX8_lastOf 3 = .ok (.invokevirtual 292, 3) := by decide +kernel
theorem dX8_lastOf_6 : decode cX8_lastOf 6 = .ok (.istore 4, 2) := by decide +kernel
theorem dX8_lastOf_8 : decode cX8_lastOf 8 = .ok (.iload 4, 2) := by decide +kernel
theorem dX8_lastOf_10 : decode cX8_lastOf 10 = .ok (.aload_n 0, 1) := by decide +kernel
theorem dX8_lastOf_11 : decode cX8_lastOf 11 = .ok (.invokevirtual 295, 3) := by decide +kernel
theorem dX8_lastOf_14 : decode cX8_lastOf 14 = .ok (.if_icmp .ge 32, 3) := by decide +kernel
theorem dX8_lastOf_17 : decode cX8_lastOf 17 = .ok (.aload_n 0, 1) := by decide +kernel
theorem dX8_lastOf_18 : decode cX8_lastOf 18 = .ok (.getfield 53, 3) := by decide +kernel
theorem dX8_lastOf_21 : decode cX8_lastOf 21 = .ok (.iload 4, 2) := by decide +kernel
theorem dX8_lastOf_23 : decode cX8_lastOf 23 = .ok (.iaload, 1) := by decide +kernel
theorem dX8_lastOf_24 : decode cX8_lastOf 24 = .ok (.iload_n 1, 1) := by decide +kernel
theorem dX8_lastOf_25 : decode cX8_lastOf 25 = .ok (.if_icmp .ne 13, 3) := by decide +kernel
theorem dX8_lastOf_28 : decode cX8_lastOf 28 = .ok (.aload_n 0, 1) := by decide +kernel
theorem dX8_lastOf_29 : decode cX8_lastOf 29 = .ok (.getfield 56, 3) := by decide +kernel
theorem dX8_lastOf_32 : decode cX8_lastOf 32 = .ok (.iload 4, 2) := by decide +kernel
theorem dX8_lastOf_34 : decode cX8_lastOf 34 = .ok (.iaload, 1) := by decide +kernel
theorem dX8_lastOf_35 : decode cX8_lastOf 35 = .ok (.goto 4, 3) := by decide +kernel
theorem dX8_lastOf_38 : decode cX8_lastOf 38 = .ok (.iload_n 3, 1) := by decide +kernel
theorem dX8_lastOf_39 : decode cX8_lastOf 39 = .ok (.istore_n 3, 1) := by decide +kernel
theorem dX8_lastOf_40 : decode cX8_lastOf 40 = .ok (.iinc 4 1, 3) := by decide +kernel
theorem dX8_lastOf_43 : decode cX8_lastOf 43 = .ok (.goto (-35), 3) := by decide +kernel
theorem dX8_lastOf_46 : decode cX8_lastOf 46 = .ok (.iload_n 3, 1) := by decide +kernel
theorem dX8_lastOf_47 : decode cX8_lastOf 47 = .ok (.ireturn, 1) := by decide +kernel
theorem dX8_wall_0 : decode cX8_wall 0 = .ok (.aload_n 0, 1) := by decide +kernel
theorem dX8_wall_1 : decode cX8_wall 1 = .ok (.iconst 2, 1) := by decide +kernel
theorem dX8_wall_2 : decode cX8_wall 2 = .ok (.bipush 6, 2) := by decide +kernel
theorem dX8_wall_4 : decode cX8_wall 4 = .ok (.invokevirtual 298, 3) := by decide +kernel
theorem dX8_wall_7 : decode cX8_wall 7 = .ok (.ireturn, 1) := by decide +kernel
theorem dX8_calm_0 : decode cX8_calm 0 = .ok (.aload_n 0, 1) := by decide +kernel
theorem dX8_calm_1 : decode cX8_calm 1 = .ok (.iconst 3, 1) := by decide +kernel
theorem dX8_calm_2 : decode cX8_calm 2 = .ok (.bipush 10, 2) := by decide +kernel
theorem dX8_calm_4 : decode cX8_calm 4 = .ok (.invokevirtual 298, 3) := by decide +kernel
theorem dX8_calm_7 : decode cX8_calm 7 = .ok (.ireturn, 1) := by decide +kernel
theorem dX8_wear_0 : decode cX8_wear 0 = .ok (.aload_n 0, 1) := by decide +kernel
theorem dX8_wear_1 : decode cX8_wear 1 = .ok (.iconst 4, 1) := by decide +kernel
theorem dX8_wear_2 : decode cX8_wear 2 = .ok (.iconst 1, 1) := by decide +kernel
theorem dX8_wear_3 : decode cX8_wear 3 = .ok (.invokevirtual 298, 3) := by decide +kernel
theorem dX8_wear_6 : decode cX8_wear 6 = .ok (.ireturn, 1) := by decide +kernel
theorem dX8_factOf_0 : decode cX8_factOf 0 = .ok (.iload_n 1, 1) := by decide +kernel
theorem dX8_factOf_1 : decode cX8_factOf 1 = .ok (.tableswitch 63 0 4 #[35, 37, 39, 46, 53], 35) := by decide +kernel
theorem dX8_factOf_36 : decode cX8_factOf 36 = .ok (.iload_n 2, 1) := by decide +kernel
theorem dX8_factOf_37 : decode cX8_factOf 37 = .ok (.ireturn, 1) := by decide +kernel
theorem dX8_factOf_38 : decode cX8_factOf 38 = .ok (.iload_n 3, 1) := by decide +kernel
theorem dX8_factOf_39 : decode cX8_factOf 39 = .ok (.ireturn, 1) := by decide +kernel
theorem dX8_factOf_40 : decode cX8_factOf 40 = .ok (.aload_n 0, 1) := by decide +kernel
theorem dX8_factOf_41 : decode cX8_factOf 41 = .ok (.getfield 16, 3) := by decide +kernel
theorem dX8_factOf_44 : decode cX8_factOf 44 = .ok (.iload_n 2, 1) := by decide +kernel
theorem dX8_factOf_45 : decode cX8_factOf 45 = .ok (.iaload, 1) := by decide +kernel
theorem dX8_factOf_46 : decode cX8_factOf 46 = .ok (.ireturn, 1) := by decide +kernel
theorem dX8_factOf_47 : decode cX8_factOf 47 = .ok (.aload_n 0, 1) := by decide +kernel
theorem dX8_factOf_48 : decode cX8_factOf 48 = .ok (.getfield 20, 3) := by decide +kernel
theorem dX8_factOf_51 : decode cX8_factOf 51 = .ok (.iload_n 2, 1) := by decide +kernel
theorem dX8_factOf_52 : decode cX8_factOf 52 = .ok (.iaload, 1) := by decide +kernel
theorem dX8_factOf_53 : decode cX8_factOf 53 = .ok (.ireturn, 1) := by decide +kernel
theorem dX8_factOf_54 : decode cX8_factOf 54 = .ok (.aload_n 0, 1) := by decide +kernel
theorem dX8_factOf_55 : decode cX8_factOf 55 = .ok (.getfield 23, 3) := by decide +kernel
theorem dX8_factOf_58 : decode cX8_factOf 58 = .ok (.iload_n 2, 1) := by decide +kernel
theorem dX8_factOf_59 : decode cX8_factOf 59 = .ok (.iaload, 1) := by decide +kernel
theorem dX8_factOf_60 : decode cX8_factOf 60 = .ok (.bipush 10, 2) := by decide +kernel
theorem dX8_factOf_62 : decode cX8_factOf 62 = .ok (.idiv, 1) := by decide +kernel
theorem dX8_factOf_63 : decode cX8_factOf 63 = .ok (.ireturn, 1) := by decide +kernel
theorem dX8_factOf_64 : decode cX8_factOf 64 = .ok (.aload_n 0, 1) := by decide +kernel
theorem dX8_factOf_65 : decode cX8_factOf 65 = .ok (.getfield 13, 3) := by decide +kernel
theorem dX8_factOf_68 : decode cX8_factOf 68 = .ok (.bipush 10, 2) := by decide +kernel
theorem dX8_factOf_70 : decode cX8_factOf 70 = .ok (.irem, 1) := by decide +kernel
theorem dX8_factOf_71 : decode cX8_factOf 71 = .ok (.ireturn, 1) := by decide +kernel
theorem dX8_holds_0 : decode cX8_holds 0 = .ok (.iconst 0, 1) := by decide +kernel
theorem dX8_holds_1 : decode cX8_holds 1 = .ok (.istore 4, 2) := by decide +kernel
theorem dX8_holds_3 : decode cX8_holds 3 = .ok (.aload_n 0, 1) := by decide +kernel
theorem dX8_holds_4 : decode cX8_holds 4 = .ok (.getfield 59, 3) := by decide +kernel
theorem dX8_holds_7 : decode cX8_holds 7 = .ok (.iload_n 1, 1) := by decide +kernel
theorem dX8_holds_8 : decode cX8_holds 8 = .ok (.iaload, 1) := by decide +kernel
theorem dX8_holds_9 : decode cX8_holds 9 = .ok (.istore 5, 2) := by decide +kernel
theorem dX8_holds_11 : decode cX8_holds 11 = .ok (.iload 5, 2) := by decide +kernel
theorem dX8_holds_13 : decode cX8_holds 13 = .ok (.aload_n 0, 1) := by decide +kernel
theorem dX8_holds_14 : decode cX8_holds 14 = .ok (.getfield 62, 3) := by decide +kernel
theorem dX8_holds_17 : decode cX8_holds 17 = .ok (.iload_n 1, 1) := by decide +kernel
theorem dX8_holds_18 : decode cX8_holds 18 = .ok (.iaload, 1) := by decide +kernel
theorem dX8_holds_19 : decode cX8_holds 19 = .ok (.if_icmp .ge 234, 3) := by decide +kernel
theorem dX8_holds_22 : decode cX8_holds 22 = .ok (.aload_n 0, 1) := by decide +kernel
theorem dX8_holds_23 : decode cX8_holds 23 = .ok (.getfield 65, 3) := by decide +kernel
theorem dX8_holds_26 : decode cX8_holds 26 = .ok (.iload 5, 2) := by decide +kernel
theorem dX8_holds_28 : decode cX8_holds 28 = .ok (.iaload, 1) := by decide +kernel
theorem dX8_holds_29 : decode cX8_holds 29 = .ok (.istore 6, 2) := by decide +kernel
theorem dX8_holds_31 : decode cX8_holds 31 = .ok (.iload 6, 2) := by decide +kernel
theorem dX8_holds_33 : decode cX8_holds 33 = .ok (.bipush (-33), 2) := by decide +kernel
theorem dX8_holds_35 : decode cX8_holds 35 = .ok (.if_icmp .ne 32, 3) := by decide +kernel
theorem dX8_holds_38 : decode cX8_holds 38 = .ok (.aload_n 0, 1) := by decide +kernel
theorem dX8_holds_39 : decode cX8_holds 39 = .ok (.getfield 83, 3) := by decide +kernel
theorem dX8_holds_42 : decode cX8_holds 42 = .ok (.iload 4, 2) := by decide +kernel
theorem dX8_holds_44 : decode cX8_holds 44 = .ok (.iconst 1, 1) := by decide +kernel
theorem dX8_holds_45 : decode cX8_holds 45 = .ok (.isub, 1) := by decide +kernel
theorem dX8_holds_46 : decode cX8_holds 46 = .ok (.aload_n 0, 1) := by decide +kernel
theorem dX8_holds_47 : decode cX8_holds 47 = .ok (.getfield 83, 3) := by decide +kernel
theorem dX8_holds_50 : decode cX8_holds 50 = .ok (.iload 4, 2) := by decide +kernel
theorem dX8_holds_52 : decode cX8_holds 52 = .ok (.iconst 1, 1) := by decide +kernel
theorem dX8_holds_53 : decode cX8_holds 53 = .ok (.isub, 1) := by decide +kernel
theorem dX8_holds_54 : decode cX8_holds 54 = .ok (.baload, 1) := by decide +kernel
theorem dX8_holds_55 : decode cX8_holds 55 = .ok (.ifCond .ne 7, 3) := by decide +kernel
theorem dX8_holds_58 : decode cX8_holds 58 = .ok (.iconst 1, 1) := by decide +kernel
theorem dX8_holds_59 : decode cX8_holds 59 = .ok (.goto 4, 3) := by decide +kernel
theorem dX8_holds_62 : decode cX8_holds 62 = .ok (.iconst 0, 1) := by decide +kernel
theorem dX8_holds_63 : decode cX8_holds 63 = .ok (.bastore, 1) := by decide +kernel
theorem dX8_holds_64 : decode cX8_holds 64 = .ok (.goto 183, 3) := by decide +kernel
theorem dX8_holds_67 : decode cX8_holds 67 = .ok (.iload 6, 2) := by decide +kernel
theorem dX8_holds_69 : decode cX8_holds 69 = .ok (.ifCond .ge 82, 3) := by decide +kernel
theorem dX8_holds_72 : decode cX8_holds 72 = .ok (.iinc 4 (-1), 3) := by decide +kernel
theorem dX8_holds_75 : decode cX8_holds 75 = .ok (.aload_n 0, 1) := by decide +kernel
theorem dX8_holds_76 : decode cX8_holds 76 = .ok (.getfield 83, 3) := by decide +kernel
theorem dX8_holds_79 : decode cX8_holds 79 = .ok (.iload 4, 2) := by decide +kernel
theorem dX8_holds_81 : decode cX8_holds 81 = .ok (.iconst 1, 1) := by decide +kernel
theorem dX8_holds_82 : decode cX8_holds 82 = .ok (.isub, 1) := by decide +kernel
theorem dX8_holds_83 : decode cX8_holds 83 = .ok (.iload 6, 2) := by decide +kernel
theorem dX8_holds_85 : decode cX8_holds 85 = .ok (.bipush (-38), 2) := by decide +kernel
theorem dX8_holds_87 : decode cX8_holds 87 = .ok (.if_icmp .ne 33, 3) := by decide +kernel
theorem dX8_holds_90 : decode cX8_holds 90 = .ok (.aload_n 0, 1) := by decide +kernel
theorem dX8_holds_91 : decode cX8_holds 91 = .ok (.getfield 83, 3) := by decide +kernel
theorem dX8_holds_94 : decode cX8_holds 94 = .ok (.iload 4, 2) := by decide +kernel
theorem dX8_holds_96 : decode cX8_holds 96 = .ok (.iconst 1, 1) := by decide +kernel
theorem dX8_holds_97 : decode cX8_holds 97 = .ok (.isub, 1) := by decide +kernel
theorem dX8_holds_98 : decode cX8_holds 98 = .ok (.baload, 1) := by decide +kernel
theorem dX8_holds_99 : decode cX8_holds 99 = .ok (.ifCond .eq 17, 3) := by decide +kernel
theorem dX8_holds_102 : decode cX8_holds 102 = .ok (.aload_n 0, 1) := by decide +kernel
theorem dX8_holds_103 : decode cX8_holds 103 = .ok (.getfield 83, 3) := by decide +kernel
theorem dX8_holds_106 : decode cX8_holds 106 = .ok (.iload 4, 2) := by decide +kernel
theorem dX8_holds_108 : decode cX8_holds 108 = .ok (.baload, 1) := by decide +kernel
theorem dX8_holds_109 : decode cX8_holds 109 = .ok (.ifCond .eq 7, 3) := by decide +kernel
theorem dX8_holds_112 : decode cX8_holds 112 = .ok (.iconst 1, 1) := by decide +kernel
theorem dX8_holds_113 : decode cX8_holds 113 = .ok (.goto 34, 3) := by decide +kernel
theorem dX8_holds_116 : decode cX8_holds 116 = .ok (.iconst 0, 1) := by decide +kernel
theorem dX8_holds_117 : decode cX8_holds 117 = .ok (.goto 30, 3) := by decide +kernel
theorem dX8_holds_120 : decode cX8_holds 120 = .ok (.aload_n 0, 1) := by decide +kernel
theorem dX8_holds_121 : decode cX8_holds 121 = .ok (.getfield 83, 3) := by decide +kernel
theorem dX8_holds_124 : decode cX8_holds 124 = .ok (.iload 4, 2) := by decide +kernel
theorem dX8_holds_126 : decode cX8_holds 126 = .ok (.iconst 1, 1) := by decide +kernel
theorem dX8_holds_127 : decode cX8_holds 127 = .ok (.isub, 1) := by decide +kernel
theorem dX8_holds_128 : decode cX8_holds 128 = .ok (.baload, 1) := by decide +kernel
theorem dX8_holds_129 : decode cX8_holds 129 = .ok (.ifCond .ne 13, 3) := by decide +kernel
theorem dX8_holds_132 : decode cX8_holds 132 = .ok (.aload_n 0, 1) := by decide +kernel
theorem dX8_holds_133 : decode cX8_holds 133 = .ok (.getfield 83, 3) := by decide +kernel
theorem dX8_holds_136 : decode cX8_holds 136 = .ok (.iload 4, 2) := by decide +kernel
theorem dX8_holds_138 : decode cX8_holds 138 = .ok (.baload, 1) := by decide +kernel
theorem dX8_holds_139 : decode cX8_holds 139 = .ok (.ifCond .eq 7, 3) := by decide +kernel
theorem dX8_holds_142 : decode cX8_holds 142 = .ok (.iconst 1, 1) := by decide +kernel
theorem dX8_holds_143 : decode cX8_holds 143 = .ok (.goto 4, 3) := by decide +kernel
theorem dX8_holds_146 : decode cX8_holds 146 = .ok (.iconst 0, 1) := by decide +kernel
theorem dX8_holds_147 : decode cX8_holds 147 = .ok (.bastore, 1) := by decide +kernel
theorem dX8_holds_148 : decode cX8_holds 148 = .ok (.goto 99, 3) := by decide +kernel
theorem dX8_holds_151 : decode cX8_holds 151 = .ok (.aload_n 0, 1) := by decide +kernel
theorem dX8_holds_152 : decode cX8_holds 152 = .ok (.iload 6, 2) := by decide +kernel
theorem dX8_holds_154 : decode cX8_holds 154 = .ok (.sipush 1000, 3) := by decide +kernel
theorem dX8_holds_157 : decode cX8_holds 157 = .ok (.idiv, 1) := by decide +kernel
theorem dX8_holds_158 : decode cX8_holds 158 = .ok (.iload_n 2, 1) := by decide +kernel
theorem dX8_holds_159 : decode cX8_holds 159 = .ok (.iload_n 3, 1) := by decide +kernel
theorem dX8_holds_160 : decode cX8_holds 160 = .ok (.invokevirtual 301, 3) := by decide +kernel
theorem dX8_holds_163 : decode cX8_holds 163 = .ok (.istore 7, 2) := by decide +kernel
theorem dX8_holds_165 : decode cX8_holds 165 = .ok (.iload 6, 2) := by decide +kernel
theorem dX8_holds_167 : decode cX8_holds 167 = .ok (.bipush 100, 2) := by decide +kernel
theorem dX8_holds_169 : decode cX8_holds 169 = .ok (.idiv, 1) := by decide +kernel
theorem dX8_holds_170 : decode cX8_holds 170 = .ok (.bipush 10, 2) := by decide +kernel
theorem dX8_holds_172 : decode cX8_holds 172 = .ok (.irem, 1) := by decide +kernel
theorem dX8_holds_173 : decode cX8_holds 173 = .ok (.istore 8, 2) := by decide +kernel
theorem dX8_holds_175 : decode cX8_holds 175 = .ok (.aload_n 0, 1) := by decide +kernel
theorem dX8_holds_176 : decode cX8_holds 176 = .ok (.getfield 83, 3) := by decide +kernel
theorem dX8_holds_179 : decode cX8_holds 179 = .ok (.iload 4, 2) := by decide +kernel
theorem dX8_holds_181 : decode cX8_holds 181 = .ok (.iload 8, 2) := by decide +kernel
theorem dX8_holds_183 : decode cX8_holds 183 = .ok (.ifCond .ne 21, 3) := by decide +kernel
theorem dX8_holds_186 : decode cX8_holds 186 = .ok (.iload 7, 2) := by decide +kernel
theorem dX8_holds_188 : decode cX8_holds 188 = .ok (.iload 6, 2) := by decide +kernel
theorem dX8_holds_190 : decode cX8_holds 190 = .ok (.bipush 100, 2) := by decide +kernel
theorem dX8_holds_192 : decode cX8_holds 192 = .ok (.irem, 1) := by decide +kernel
theorem dX8_holds_193 : decode cX8_holds 193 = .ok (.if_icmp .ge 7, 3) := by decide +kernel
theorem dX8_holds_196 : decode cX8_holds 196 = .ok (.iconst 1, 1) := by decide +kernel
theorem dX8_holds_197 : decode cX8_holds 197 = .ok (.goto 46, 3) := by decide +kernel
theorem dX8_holds_200 : decode cX8_holds 200 = .ok (.iconst 0, 1) := by decide +kernel
theorem dX8_holds_201 : decode cX8_holds 201 = .ok (.goto 42, 3) := by decide +kernel
theorem dX8_holds_204 : decode cX8_holds 204 = .ok (.iload 8, 2) := by decide +kernel
theorem dX8_holds_206 : decode cX8_holds 206 = .ok (.iconst 1, 1) := by decide +kernel
theorem dX8_holds_207 : decode cX8_holds 207 = .ok (.if_icmp .ne 21, 3) := by decide +kernel
theorem dX8_holds_210 : decode cX8_holds 210 = .ok (.iload 7, 2) := by decide +kernel
theorem dX8_holds_212 : decode cX8_holds 212 = .ok (.iload 6, 2) := by decide +kernel
theorem dX8_holds_214 : decode cX8_holds 214 = .ok (.bipush 100, 2) := by decide +kernel
theorem dX8_holds_216 : decode cX8_holds 216 = .ok (.irem, 1) := by decide +kernel
theorem dX8_holds_217 : decode cX8_holds 217 = .ok (.if_icmp .ne 7, 3) := by decide +kernel
theorem dX8_holds_220 : decode cX8_holds 220 = .ok (.iconst 1, 1) := by decide +kernel
theorem dX8_holds_221 : decode cX8_holds 221 = .ok (.goto 22, 3) := by decide +kernel
theorem dX8_holds_224 : decode cX8_holds 224 = .ok (.iconst 0, 1) := by decide +kernel
theorem dX8_holds_225 : decode cX8_holds 225 = .ok (.goto 18, 3) := by decide +kernel
theorem dX8_holds_228 : decode cX8_holds 228 = .ok (.iload 7, 2) := by decide +kernel
theorem dX8_holds_230 : decode cX8_holds 230 = .ok (.iload 6, 2) := by decide +kernel
theorem dX8_holds_232 : decode cX8_holds 232 = .ok (.bipush 100, 2) := by decide +kernel
theorem dX8_holds_234 : decode cX8_holds 234 = .ok (.irem, 1) := by decide +kernel
theorem dX8_holds_235 : decode cX8_holds 235 = .ok (.if_icmp .le 7, 3) := by decide +kernel
theorem dX8_holds_238 : decode cX8_holds 238 = .ok (.iconst 1, 1) := by decide +kernel
theorem dX8_holds_239 : decode cX8_holds 239 = .ok (.goto 4, 3) := by decide +kernel
theorem dX8_holds_242 : decode cX8_holds 242 = .ok (.iconst 0, 1) := by decide +kernel
theorem dX8_holds_243 : decode cX8_holds 243 = .ok (.bastore, 1) := by decide +kernel
theorem dX8_holds_244 : decode cX8_holds 244 = .ok (.iinc 4 1, 3) := by decide +kernel
theorem dX8_holds_247 : decode cX8_holds 247 = .ok (.iinc 5 1, 3) := by decide +kernel
theorem dX8_holds_250 : decode cX8_holds 250 = .ok (.goto (-239), 3) := by decide +kernel
theorem dX8_holds_253 : decode cX8_holds 253 = .ok (.aload_n 0, 1) := by decide +kernel
theorem dX8_holds_254 : decode cX8_holds 254 = .ok (.getfield 83, 3) := by decide +kernel
theorem dX8_holds_257 : decode cX8_holds 257 = .ok (.iconst 0, 1) := by decide +kernel
theorem dX8_holds_258 : decode cX8_holds 258 = .ok (.baload, 1) := by decide +kernel
theorem dX8_holds_259 : decode cX8_holds 259 = .ok (.ireturn, 1) := by decide +kernel
theorem dX8_voice_0 : decode cX8_voice 0 = .ok (.aload_n 0, 1) := by decide +kernel
theorem dX8_voice_1 : decode cX8_voice 1 = .ok (.iload_n 1, 1) := by decide +kernel
theorem dX8_voice_2 : decode cX8_voice 2 = .ok (.invokevirtual 232, 3) := by decide +kernel
theorem dX8_voice_5 : decode cX8_voice 5 = .ok (.ifCond .ne 12, 3) := by decide +kernel
theorem dX8_voice_8 : decode cX8_voice 8 = .ok (.aload_n 0, 1) := by decide +kernel
theorem dX8_voice_9 : decode cX8_voice 9 = .ok (.getfield 23, 3) := by decide +kernel
theorem dX8_voice_12 : decode cX8_voice 12 = .ok (.iload_n 1, 1) := by decide +kernel
theorem dX8_voice_13 : decode cX8_voice 13 = .ok (.iaload, 1) := by decide +kernel
theorem dX8_voice_14 : decode cX8_voice 14 = .ok (.ifCond .ne 5, 3) := by decide +kernel
theorem dX8_voice_17 : decode cX8_voice 17 = .ok (.iconst 0, 1) := by decide +kernel
theorem dX8_voice_18 : decode cX8_voice 18 = .ok (.ireturn, 1) := by decide +kernel
theorem dX8_voice_19 : decode cX8_voice 19 = .ok (.aload_n 0, 1) := by decide +kernel
theorem dX8_voice_20 : decode cX8_voice 20 = .ok (.getfield 23, 3) := by decide +kernel
theorem dX8_voice_23 : decode cX8_voice 23 = .ok (.iload_n 1, 1) := by decide +kernel
theorem dX8_voice_24 : decode cX8_voice 24 = .ok (.iaload, 1) := by decide +kernel
theorem dX8_voice_25 : decode cX8_voice 25 = .ok (.istore_n 3, 1) := by decide +kernel
theorem dX8_voice_26 : decode cX8_voice 26 = .ok (.aload_n 0, 1) := by decide +kernel
theorem dX8_voice_27 : decode cX8_voice 27 = .ok (.invokevirtual 292, 3) := by decide +kernel
theorem dX8_voice_30 : decode cX8_voice 30 = .ok (.istore 4, 2) := by decide +kernel
theorem dX8_voice_32 : decode cX8_voice 32 = .ok (.iload 4, 2) := by decide +kernel
theorem dX8_voice_34 : decode cX8_voice 34 = .ok (.aload_n 0, 1) := by decide +kernel
theorem dX8_voice_35 : decode cX8_voice 35 = .ok (.invokevirtual 295, 3) := by decide +kernel
theorem dX8_voice_38 : decode cX8_voice 38 = .ok (.if_icmp .ge 65, 3) := by decide +kernel
theorem dX8_voice_41 : decode cX8_voice 41 = .ok (.aload_n 0, 1) := by decide +kernel
theorem dX8_voice_42 : decode cX8_voice 42 = .ok (.getfield 53, 3) := by decide +kernel
theorem dX8_voice_45 : decode cX8_voice 45 = .ok (.iload 4, 2) := by decide +kernel
theorem dX8_voice_47 : decode cX8_voice 47 = .ok (.iaload, 1) := by decide +kernel
theorem dX8_voice_48 : decode cX8_voice 48 = .ok (.iconst 1, 1) := by decide +kernel
theorem dX8_voice_49 : decode cX8_voice 49 = .ok (.if_icmp .gt 48, 3) := by decide +kernel
theorem dX8_voice_52 : decode cX8_voice 52 = .ok (.aload_n 0, 1) := by decide +kernel
theorem dX8_voice_53 : decode cX8_voice 53 = .ok (.iload 4, 2) := by decide +kernel
theorem dX8_voice_55 : decode cX8_voice 55 = .ok (.iload_n 1, 1) := by decide +kernel
theorem dX8_voice_56 : decode cX8_voice 56 = .ok (.iload_n 2, 1) := by decide +kernel
theorem dX8_voice_57 : decode cX8_voice 57 = .ok (.invokevirtual 305, 3) := by decide +kernel
theorem dX8_voice_60 : decode cX8_voice 60 = .ok (.ifCond .ne 6, 3) := by decide +kernel
theorem dX8_voice_63 : decode cX8_voice 63 = .ok (.goto 34, 3) := by decide +kernel
theorem dX8_voice_66 : decode cX8_voice 66 = .ok (.iload_n 3, 1) := by decide +kernel
theorem dX8_voice_67 : decode cX8_voice 67 = .ok (.aload_n 0, 1) := by decide +kernel
theorem dX8_voice_68 : decode cX8_voice 68 = .ok (.getfield 53, 3) := by decide +kernel
theorem dX8_voice_71 : decode cX8_voice 71 = .ok (.iload 4, 2) := by decide +kernel
theorem dX8_voice_73 : decode cX8_voice 73 = .ok (.iaload, 1) := by decide +kernel
theorem dX8_voice_74 : decode cX8_voice 74 = .ok (.ifCond .ne 13, 3) := by decide +kernel
theorem dX8_voice_77 : decode cX8_voice 77 = .ok (.aload_n 0, 1) := by decide +kernel
theorem dX8_voice_78 : decode cX8_voice 78 = .ok (.getfield 56, 3) := by decide +kernel
theorem dX8_voice_81 : decode cX8_voice 81 = .ok (.iload 4, 2) := by decide +kernel
theorem dX8_voice_83 : decode cX8_voice 83 = .ok (.iaload, 1) := by decide +kernel
theorem dX8_voice_84 : decode cX8_voice 84 = .ok (.goto 11, 3) := by decide +kernel
theorem dX8_voice_87 : decode cX8_voice 87 = .ok (.aload_n 0, 1) := by decide +kernel
theorem dX8_voice_88 : decode cX8_voice 88 = .ok (.getfield 56, 3) := by decide +kernel
theorem dX8_voice_91 : decode cX8_voice 91 = .ok (.iload 4, 2) := by decide +kernel
theorem dX8_voice_93 : decode cX8_voice 93 = .ok (.iaload, 1) := by decide +kernel
theorem dX8_voice_94 : decode cX8_voice 94 = .ok (.ineg, 1) := by decide +kernel
theorem dX8_voice_95 : decode cX8_voice 95 = .ok (.iadd, 1) := by decide +kernel
theorem dX8_voice_96 : decode cX8_voice 96 = .ok (.istore_n 3, 1) := by decide +kernel
theorem dX8_voice_97 : decode cX8_voice 97 = .ok (.iinc 4 1, 3) := by decide +kernel
theorem dX8_voice_100 : decode cX8_voice 100 = .ok (.goto (-68), 3) := by decide +kernel
theorem dX8_voice_103 : decode cX8_voice 103 = .ok (.aload_n 0, 1) := by decide +kernel
theorem dX8_voice_104 : decode cX8_voice 104 = .ok (.iload_n 3, 1) := by decide +kernel
theorem dX8_voice_105 : decode cX8_voice 105 = .ok (.invokevirtual 308, 3) := by decide +kernel
theorem dX8_voice_108 : decode cX8_voice 108 = .ok (.ireturn, 1) := by decide +kernel
theorem dX8_heardBy_0 : decode cX8_heardBy 0 = .ok (.aload_n 0, 1) := by decide +kernel
theorem dX8_heardBy_1 : decode cX8_heardBy 1 = .ok (.aload_n 0, 1) := by decide +kernel
theorem dX8_heardBy_2 : decode cX8_heardBy 2 = .ok (.getfield 26, 3) := by decide +kernel
theorem dX8_heardBy_5 : decode cX8_heardBy 5 = .ok (.iload_n 1, 1) := by decide +kernel
theorem dX8_heardBy_6 : decode cX8_heardBy 6 = .ok (.iaload, 1) := by decide +kernel
theorem dX8_heardBy_7 : decode cX8_heardBy 7 = .ok (.iload_n 3, 1) := by decide +kernel
theorem dX8_heardBy_8 : decode cX8_heardBy 8 = .ok (.invokevirtual 235, 3) := by decide +kernel
theorem dX8_heardBy_11 : decode cX8_heardBy 11 = .ok (.istore 4, 2) := by decide +kernel
theorem dX8_heardBy_13 : decode cX8_heardBy 13 = .ok (.aload_n 0, 1) := by decide +kernel
theorem dX8_heardBy_14 : decode cX8_heardBy 14 = .ok (.iload_n 2, 1) := by decide +kernel
theorem dX8_heardBy_15 : decode cX8_heardBy 15 = .ok (.aload_n 0, 1) := by decide +kernel
theorem dX8_heardBy_16 : decode cX8_heardBy 16 = .ok (.invokevirtual 311, 3) := by decide +kernel
theorem dX8_heardBy_19 : decode cX8_heardBy 19 = .ok (.iload 4, 2) := by decide +kernel
theorem dX8_heardBy_21 : decode cX8_heardBy 21 = .ok (.imul, 1) := by decide +kernel
theorem dX8_heardBy_22 : decode cX8_heardBy 22 = .ok (.isub, 1) := by decide +kernel
theorem dX8_heardBy_23 : decode cX8_heardBy 23 = .ok (.invokevirtual 308, 3) := by decide +kernel
theorem dX8_heardBy_26 : decode cX8_heardBy 26 = .ok (.istore 5, 2) := by decide +kernel
theorem dX8_heardBy_28 : decode cX8_heardBy 28 = .ok (.aload_n 0, 1) := by decide +kernel
theorem dX8_heardBy_29 : decode cX8_heardBy 29 = .ok (.iload_n 2, 1) := by decide +kernel
theorem dX8_heardBy_30 : decode cX8_heardBy 30 = .ok (.aload_n 0, 1) := by decide +kernel
theorem dX8_heardBy_31 : decode cX8_heardBy 31 = .ok (.invokevirtual 311, 3) := by decide +kernel
theorem dX8_heardBy_34 : decode cX8_heardBy 34 = .ok (.iconst 2, 1) := by decide +kernel
theorem dX8_heardBy_35 : decode cX8_heardBy 35 = .ok (.idiv, 1) := by decide +kernel
theorem dX8_heardBy_36 : decode cX8_heardBy 36 = .ok (.iload 4, 2) := by decide +kernel
theorem dX8_heardBy_38 : decode cX8_heardBy 38 = .ok (.imul, 1) := by decide +kernel
theorem dX8_heardBy_39 : decode cX8_heardBy 39 = .ok (.isub, 1) := by decide +kernel
theorem dX8_heardBy_40 : decode cX8_heardBy 40 = .ok (.invokevirtual 308, 3) := by decide +kernel
theorem dX8_heardBy_43 : decode cX8_heardBy 43 = .ok (.istore 6, 2) := by decide +kernel
theorem dX8_heardBy_45 : decode cX8_heardBy 45 = .ok (.aload_n 0, 1) := by decide +kernel
theorem dX8_heardBy_46 : decode cX8_heardBy 46 = .ok (.getfield 13, 3) := by decide +kernel
theorem dX8_heardBy_49 : decode cX8_heardBy 49 = .ok (.iconst 2, 1) := by decide +kernel
theorem dX8_heardBy_50 : decode cX8_heardBy 50 = .ok (.irem, 1) := by decide +kernel
theorem dX8_heardBy_51 : decode cX8_heardBy 51 = .ok (.iconst 1, 1) := by decide +kernel
theorem dX8_heardBy_52 : decode cX8_heardBy 52 = .ok (.if_icmp .ne 8, 3) := by decide +kernel
theorem dX8_heardBy_55 : decode cX8_heardBy 55 = .ok (.iload 5, 2) := by decide +kernel
theorem dX8_heardBy_57 : decode cX8_heardBy 57 = .ok (.goto 7, 3) := by decide +kernel
theorem dX8_heardBy_60 : decode cX8_heardBy 60 = .ok (.iload 5, 2) := by decide +kernel
theorem dX8_heardBy_62 : decode cX8_heardBy 62 = .ok (.iconst 2, 1) := by decide +kernel
theorem dX8_heardBy_63 : decode cX8_heardBy 63 = .ok (.idiv, 1) := by decide +kernel
theorem dX8_heardBy_64 : decode cX8_heardBy 64 = .ok (.istore 7, 2) := by decide +kernel
theorem dX8_heardBy_66 : decode cX8_heardBy 66 = .ok (.aload_n 0, 1) := by decide +kernel
theorem dX8_heardBy_67 : decode cX8_heardBy 67 = .ok (.getfield 16, 3) := by decide +kernel
theorem dX8_heardBy_70 : decode cX8_heardBy 70 = .ok (.iload_n 1, 1) := by decide +kernel
theorem dX8_heardBy_71 : decode cX8_heardBy 71 = .ok (.iaload, 1) := by decide +kernel
theorem dX8_heardBy_72 : decode cX8_heardBy 72 = .ok (.tableswitch 108 2 6 #[36, 39, 42, 54, 79], 36) := by decide +kernel
theorem dX8_heardBy_108 : decode cX8_heardBy 108 = .ok (.iload 7, 2) := by decide +kernel
theorem dX8_heardBy_110 : decode cX8_heardBy 110 = .ok (.ireturn, 1) := by decide +kernel
theorem dX8_heardBy_111 : decode cX8_heardBy 111 = .ok (.iload 6, 2) := by decide +kernel
theorem dX8_heardBy_113 : decode cX8_heardBy 113 = .ok (.ireturn, 1) := by decide +kernel
theorem dX8_heardBy_114 : decode cX8_heardBy 114 = .ok (.iload 4, 2) := by decide +kernel
theorem dX8_heardBy_116 : decode cX8_heardBy 116 = .ok (.ifCond .ne 8, 3) := by decide +kernel
theorem dX8_heardBy_119 : decode cX8_heardBy 119 = .ok (.iload 5, 2) := by decide +kernel
theorem dX8_heardBy_121 : decode cX8_heardBy 121 = .ok (.goto 4, 3) := by decide +kernel
theorem dX8_heardBy_124 : decode cX8_heardBy 124 = .ok (.iconst 0, 1) := by decide +kernel
theorem dX8_heardBy_125 : decode cX8_heardBy 125 = .ok (.ireturn, 1) := by decide +kernel
theorem dX8_heardBy_126 : decode cX8_heardBy 126 = .ok (.iload_n 3, 1) := by decide +kernel
theorem dX8_heardBy_127 : decode cX8_heardBy 127 = .ok (.aload_n 0, 1) := by decide +kernel
theorem dX8_heardBy_128 : decode cX8_heardBy 128 = .ok (.getfield 26, 3) := by decide +kernel
theorem dX8_heardBy_131 : decode cX8_heardBy 131 = .ok (.iload_n 1, 1) := by decide +kernel
theorem dX8_heardBy_132 : decode cX8_heardBy 132 = .ok (.iaload, 1) := by decide +kernel
theorem dX8_heardBy_133 : decode cX8_heardBy 133 = .ok (.if_icmp .ge 15, 3) := by decide +kernel
theorem dX8_heardBy_136 : decode cX8_heardBy 136 = .ok (.iload 7, 2) := by decide +kernel
theorem dX8_heardBy_138 : decode cX8_heardBy 138 = .ok (.aload_n 0, 1) := by decide +kernel
theorem dX8_heardBy_139 : decode cX8_heardBy 139 = .ok (.getfield 20, 3) := by decide +kernel
theorem dX8_heardBy_142 : decode cX8_heardBy 142 = .ok (.iload_n 1, 1) := by decide +kernel
theorem dX8_heardBy_143 : decode cX8_heardBy 143 = .ok (.iaload, 1) := by decide +kernel
theorem dX8_heardBy_144 : decode cX8_heardBy 144 = .ok (.iadd, 1) := by decide +kernel
theorem dX8_heardBy_145 : decode cX8_heardBy 145 = .ok (.goto 5, 3) := by decide +kernel
theorem dX8_heardBy_148 : decode cX8_heardBy 148 = .ok (.iload 7, 2) := by decide +kernel
theorem dX8_heardBy_150 : decode cX8_heardBy 150 = .ok (.ireturn, 1) := by decide +kernel
theorem dX8_heardBy_151 : decode cX8_heardBy 151 = .ok (.iload 4, 2) := by decide +kernel
theorem dX8_heardBy_153 : decode cX8_heardBy 153 = .ok (.ifCond .ne 24, 3) := by decide +kernel
theorem dX8_heardBy_156 : decode cX8_heardBy 156 = .ok (.iload 6, 2) := by decide +kernel
theorem dX8_heardBy_158 : decode cX8_heardBy 158 = .ok (.aload_n 0, 1) := by decide +kernel
theorem dX8_heardBy_159 : decode cX8_heardBy 159 = .ok (.getfield 29, 3) := by decide +kernel
theorem dX8_heardBy_162 : decode cX8_heardBy 162 = .ok (.iconst 4, 1) := by decide +kernel
theorem dX8_heardBy_163 : decode cX8_heardBy 163 = .ok (.iload_n 1, 1) := by decide +kernel
theorem dX8_heardBy_164 : decode cX8_heardBy 164 = .ok (.imul, 1) := by decide +kernel
theorem dX8_heardBy_165 : decode cX8_heardBy 165 = .ok (.aload_n 0, 1) := by decide +kernel
theorem dX8_heardBy_166 : decode cX8_heardBy 166 = .ok (.getfield 13, 3) := by decide +kernel
theorem dX8_heardBy_169 : decode cX8_heardBy 169 = .ok (.iconst 4, 1) := by decide +kernel
theorem dX8_heardBy_170 : decode cX8_heardBy 170 = .ok (.irem, 1) := by decide +kernel
theorem dX8_heardBy_171 : decode cX8_heardBy 171 = .ok (.iadd, 1) := by decide +kernel
theorem dX8_heardBy_172 : decode cX8_heardBy 172 = .ok (.iaload, 1) := by decide +kernel
theorem dX8_heardBy_173 : decode cX8_heardBy 173 = .ok (.iadd, 1) := by decide +kernel
theorem dX8_heardBy_174 : decode cX8_heardBy 174 = .ok (.goto 5, 3) := by decide +kernel
theorem dX8_heardBy_177 : decode cX8_heardBy 177 = .ok (.iload 6, 2) := by decide +kernel
theorem dX8_heardBy_179 : decode cX8_heardBy 179 = .ok (.ireturn, 1) := by decide +kernel
theorem dX8_heardBy_180 : decode cX8_heardBy 180 = .ok (.iload 5, 2) := by decide +kernel
theorem dX8_heardBy_182 : decode cX8_heardBy 182 = .ok (.ireturn, 1) := by decide +kernel
theorem dX8_heard_0 : decode cX8_heard 0 = .ok (.aload_n 0, 1) := by decide +kernel
theorem dX8_heard_1 : decode cX8_heard 1 = .ok (.iload_n 1, 1) := by decide +kernel
theorem dX8_heard_2 : decode cX8_heard 2 = .ok (.invokevirtual 232, 3) := by decide +kernel
theorem dX8_heard_5 : decode cX8_heard 5 = .ok (.ifCond .eq 7, 3) := by decide +kernel
theorem dX8_heard_8 : decode cX8_heard 8 = .ok (.iconst 0, 1) := by decide +kernel
theorem dX8_heard_9 : decode cX8_heard 9 = .ok (.goto 20, 3) := by decide +kernel
theorem dX8_heard_12 : decode cX8_heard 12 = .ok (.aload_n 0, 1) := by decide +kernel
theorem dX8_heard_13 : decode cX8_heard 13 = .ok (.iload_n 1, 1) := by decide +kernel
theorem dX8_heard_14 : decode cX8_heard 14 = .ok (.aload_n 0, 1) := by decide +kernel
theorem dX8_heard_15 : decode cX8_heard 15 = .ok (.iload_n 1, 1) := by decide +kernel
theorem dX8_heard_16 : decode cX8_heard 16 = .ok (.aload_n 0, 1) := by decide +kernel
theorem dX8_heard_17 : decode cX8_heard 17 = .ok (.getfield 26, 3) := by decide +kernel
theorem dX8_heard_20 : decode cX8_heard 20 = .ok (.iload_n 1, 1) := by decide +kernel
theorem dX8_heard_21 : decode cX8_heard 21 = .ok (.iaload, 1) := by decide +kernel
theorem dX8_heard_22 : decode cX8_heard 22 = .ok (.invokevirtual 314, 3) := by decide +kernel
theorem dX8_heard_25 : decode cX8_heard 25 = .ok (.iload_n 2, 1) := by decide +kernel
theorem dX8_heard_26 : decode cX8_heard 26 = .ok (.invokevirtual 317, 3) := by decide +kernel
theorem dX8_heard_29 : decode cX8_heard 29 = .ok (.ireturn, 1) := by decide +kernel
theorem dX8_layNoises_0 : decode cX8_layNoises 0 = .ok (.iconst 0, 1) := by decide +kernel
theorem dX8_layNoises_1 : decode cX8_layNoises 1 = .ok (.istore_n 1, 1) := by decide +kernel
theorem dX8_layNoises_2 : decode cX8_layNoises 2 = .ok (.iload_n 1, 1) := by decide +kernel
theorem dX8_layNoises_3 : decode cX8_layNoises 3 = .ok (.iconst 5, 1) := by decide +kernel
theorem dX8_layNoises_4 : decode cX8_layNoises 4 = .ok (.if_icmp .ge 16, 3) := by decide +kernel
theorem dX8_layNoises_7 : decode cX8_layNoises 7 = .ok (.aload_n 0, 1) := by decide +kernel
theorem dX8_layNoises_8 : decode cX8_layNoises 8 = .ok (.getfield 87, 3) := by decide +kernel
theorem dX8_layNoises_11 : decode cX8_layNoises 11 = .ok (.iload_n 1, 1) := by decide +kernel
theorem dX8_layNoises_12 : decode cX8_layNoises 12 = .ok (.iconst 0, 1) := by decide +kernel
theorem dX8_layNoises_13 : decode cX8_layNoises 13 = .ok (.iastore, 1) := by decide +kernel
theorem dX8_layNoises_14 : decode cX8_layNoises 14 = .ok (.iinc 1 1, 3) := by decide +kernel
theorem dX8_layNoises_17 : decode cX8_layNoises 17 = .ok (.goto (-15), 3) := by decide +kernel
theorem dX8_layNoises_20 : decode cX8_layNoises 20 = .ok (.iconst 0, 1) := by decide +kernel
theorem dX8_layNoises_21 : decode cX8_layNoises 21 = .ok (.istore_n 1, 1) := by decide +kernel
theorem dX8_layNoises_22 : decode cX8_layNoises 22 = .ok (.iload_n 1, 1) := by decide +kernel
theorem dX8_layNoises_23 : decode cX8_layNoises 23 = .ok (.aload_n 0, 1) := by decide +kernel
theorem dX8_layNoises_24 : decode cX8_layNoises 24 = .ok (.getfield 7, 3) := by decide +kernel
theorem dX8_layNoises_27 : decode cX8_layNoises 27 = .ok (.if_icmp .ge 61, 3) := by decide +kernel
theorem dX8_layNoises_30 : decode cX8_layNoises 30 = .ok (.aload_n 0, 1) := by decide +kernel
theorem dX8_layNoises_31 : decode cX8_layNoises 31 = .ok (.iload_n 1, 1) := by decide +kernel
theorem dX8_layNoises_32 : decode cX8_layNoises 32 = .ok (.invokevirtual 232, 3) := by decide +kernel
theorem dX8_layNoises_35 : decode cX8_layNoises 35 = .ok (.ifCond .eq 6, 3) := by decide +kernel
theorem dX8_layNoises_38 : decode cX8_layNoises 38 = .ok (.goto 44, 3) := by decide +kernel
theorem dX8_layNoises_41 : decode cX8_layNoises 41 = .ok (.aload_n 0, 1) := by decide +kernel
theorem dX8_layNoises_42 : decode cX8_layNoises 42 = .ok (.iload_n 1, 1) := by decide +kernel
theorem dX8_layNoises_43 : decode cX8_layNoises 43 = .ok (.aload_n 0, 1) := by decide +kernel
theorem dX8_layNoises_44 : decode cX8_layNoises 44 = .ok (.getfield 26, 3) := by decide +kernel
theorem dX8_layNoises_47 : decode cX8_layNoises 47 = .ok (.iload_n 1, 1) := by decide +kernel
theorem dX8_layNoises_48 : decode cX8_layNoises 48 = .ok (.iaload, 1) := by decide +kernel
theorem dX8_layNoises_49 : decode cX8_layNoises 49 = .ok (.invokevirtual 314, 3) := by decide +kernel
theorem dX8_layNoises_52 : decode cX8_layNoises 52 = .ok (.istore_n 2, 1) := by decide +kernel
theorem dX8_layNoises_53 : decode cX8_layNoises 53 = .ok (.iconst 0, 1) := by decide +kernel
theorem dX8_layNoises_54 : decode cX8_layNoises 54 = .ok (.istore_n 3, 1) := by decide +kernel
theorem dX8_layNoises_55 : decode cX8_layNoises 55 = .ok (.iload_n 3, 1) := by decide +kernel
theorem dX8_layNoises_56 : decode cX8_layNoises 56 = .ok (.iconst 5, 1) := by decide +kernel
theorem dX8_layNoises_57 : decode cX8_layNoises 57 = .ok (.if_icmp .ge 25, 3) := by decide +kernel
theorem dX8_layNoises_60 : decode cX8_layNoises 60 = .ok (.aload_n 0, 1) := by decide +kernel
theorem dX8_layNoises_61 : decode cX8_layNoises 61 = .ok (.getfield 87, 3) := by decide +kernel
theorem dX8_layNoises_64 : decode cX8_layNoises 64 = .ok (.iload_n 3, 1) := by decide +kernel
theorem dX8_layNoises_65 : decode cX8_layNoises 65 = .ok (.dup2, 1) := by decide +kernel
theorem dX8_layNoises_66 : decode cX8_layNoises 66 = .ok (.iaload, 1) := by decide +kernel
theorem dX8_layNoises_67 : decode cX8_layNoises 67 = .ok (.aload_n 0, 1) := by decide +kernel
theorem dX8_layNoises_68 : decode cX8_layNoises 68 = .ok (.iload_n 1, 1) := by decide +kernel
theorem dX8_layNoises_69 : decode cX8_layNoises 69 = .ok (.iload_n 2, 1) := by decide +kernel
theorem dX8_layNoises_70 : decode cX8_layNoises 70 = .ok (.iload_n 3, 1) := by decide +kernel
theorem dX8_layNoises_71 : decode cX8_layNoises 71 = .ok (.invokevirtual 317, 3) := by decide +kernel
theorem dX8_layNoises_74 : decode cX8_layNoises 74 = .ok (.iadd, 1) := by decide +kernel
theorem dX8_layNoises_75 : decode cX8_layNoises 75 = .ok (.iastore, 1) := by decide +kernel
theorem dX8_layNoises_76 : decode cX8_layNoises 76 = .ok (.iinc 3 1, 3) := by decide +kernel
theorem dX8_layNoises_79 : decode cX8_layNoises 79 = .ok (.goto (-24), 3) := by decide +kernel
theorem dX8_layNoises_82 : decode cX8_layNoises 82 = .ok (.iinc 1 1, 3) := by decide +kernel
theorem dX8_layNoises_85 : decode cX8_layNoises 85 = .ok (.goto (-63), 3) := by decide +kernel
theorem dX8_layNoises_88 : decode cX8_layNoises 88 = .ok (.return_, 1) := by decide +kernel
theorem dX8_noise_0 : decode cX8_noise 0 = .ok (.aload_n 0, 1) := by decide +kernel
theorem dX8_noise_1 : decode cX8_noise 1 = .ok (.invokevirtual 320, 3) := by decide +kernel
theorem dX8_noise_4 : decode cX8_noise 4 = .ok (.aload_n 0, 1) := by decide +kernel
theorem dX8_noise_5 : decode cX8_noise 5 = .ok (.getfield 87, 3) := by decide +kernel
theorem dX8_noise_8 : decode cX8_noise 8 = .ok (.iload_n 1, 1) := by decide +kernel
theorem dX8_noise_9 : decode cX8_noise 9 = .ok (.iaload, 1) := by decide +kernel
theorem dX8_noise_10 : decode cX8_noise 10 = .ok (.ireturn, 1) := by decide +kernel
theorem dX8_greatestLaid_0 : decode cX8_greatestLaid 0 = .ok (.iconst 0, 1) := by decide +kernel
theorem dX8_greatestLaid_1 : decode cX8_greatestLaid 1 = .ok (.istore_n 1, 1) := by decide +kernel
theorem dX8_greatestLaid_2 : decode cX8_greatestLaid 2 = .ok (.iconst 0, 1) := by decide +kernel
theorem dX8_greatestLaid_3 : decode cX8_greatestLaid 3 = .ok (.istore_n 2, 1) := by decide +kernel
theorem dX8_greatestLaid_4 : decode cX8_greatestLaid 4 = .ok (.iload_n 2, 1) := by decide +kernel
theorem dX8_greatestLaid_5 : decode cX8_greatestLaid 5 = .ok (.iconst 5, 1) := by decide +kernel
theorem dX8_greatestLaid_6 : decode cX8_greatestLaid 6 = .ok (.if_icmp .ge 30, 3) := by decide +kernel
theorem dX8_greatestLaid_9 : decode cX8_greatestLaid 9 = .ok (.aload_n 0, 1) := by decide +kernel
theorem dX8_greatestLaid_10 : decode cX8_greatestLaid 10 = .ok (.getfield 87, 3) := by decide +kernel
theorem dX8_greatestLaid_13 : decode cX8_greatestLaid 13 = .ok (.iload_n 2, 1) := by decide +kernel
theorem dX8_greatestLaid_14 : decode cX8_greatestLaid 14 = .ok (.iaload, 1) := by decide +kernel
theorem dX8_greatestLaid_15 : decode cX8_greatestLaid 15 = .ok (.iload_n 1, 1) := by decide +kernel
theorem dX8_greatestLaid_16 : decode cX8_greatestLaid 16 = .ok (.if_icmp .le 12, 3) := by decide +kernel
theorem dX8_greatestLaid_19 : decode cX8_greatestLaid 19 = .ok (.aload_n 0, 1) := by decide +kernel
theorem dX8_greatestLaid_20 : decode cX8_greatestLaid 20 = .ok (.getfield 87, 3) := by decide +kernel
theorem dX8_greatestLaid_23 : decode cX8_greatestLaid 23 = .ok (.iload_n 2, 1) := by decide +kernel
theorem dX8_greatestLaid_24 : decode cX8_greatestLaid 24 = .ok (.iaload, 1) := by decide +kernel
theorem dX8_greatestLaid_25 : decode cX8_greatestLaid 25 = .ok (.goto 4, 3) := by decide +kernel
theorem dX8_greatestLaid_28 : decode cX8_greatestLaid 28 = .ok (.iload_n 1, 1) := by decide +kernel
theorem dX8_greatestLaid_29 : decode cX8_greatestLaid 29 = .ok (.istore_n 1, 1) := by decide +kernel
theorem dX8_greatestLaid_30 : decode cX8_greatestLaid 30 = .ok (.iinc 2 1, 3) := by decide +kernel
theorem dX8_greatestLaid_33 : decode cX8_greatestLaid 33 = .ok (.goto (-29), 3) := by decide +kernel
theorem dX8_greatestLaid_36 : decode cX8_greatestLaid 36 = .ok (.iload_n 1, 1) := by decide +kernel
theorem dX8_greatestLaid_37 : decode cX8_greatestLaid 37 = .ok (.ireturn, 1) := by decide +kernel
theorem dX8_greatest_0 : decode cX8_greatest 0 = .ok (.aload_n 0, 1) := by decide +kernel
theorem dX8_greatest_1 : decode cX8_greatest 1 = .ok (.invokevirtual 320, 3) := by decide +kernel
theorem dX8_greatest_4 : decode cX8_greatest 4 = .ok (.aload_n 0, 1) := by decide +kernel
theorem dX8_greatest_5 : decode cX8_greatest 5 = .ok (.invokevirtual 323, 3) := by decide +kernel
theorem dX8_greatest_8 : decode cX8_greatest 8 = .ok (.ireturn, 1) := by decide +kernel
theorem dX8_stillSet_0 : decode cX8_stillSet 0 = .ok (.aload_n 0, 1) := by decide +kernel
theorem dX8_stillSet_1 : decode cX8_stillSet 1 = .ok (.invokevirtual 320, 3) := by decide +kernel
theorem dX8_stillSet_4 : decode cX8_stillSet 4 = .ok (.iconst 0, 1) := by decide +kernel
theorem dX8_stillSet_5 : decode cX8_stillSet 5 = .ok (.istore_n 1, 1) := by decide +kernel
theorem dX8_stillSet_6 : decode cX8_stillSet 6 = .ok (.iconst 0, 1) := by decide +kernel
theorem dX8_stillSet_7 : decode cX8_stillSet 7 = .ok (.istore_n 2, 1) := by decide +kernel
theorem dX8_stillSet_8 : decode cX8_stillSet 8 = .ok (.iload_n 2, 1) := by decide +kernel
theorem dX8_stillSet_9 : decode cX8_stillSet 9 = .ok (.iconst 5, 1) := by decide +kernel
theorem dX8_stillSet_10 : decode cX8_stillSet 10 = .ok (.if_icmp .ge 32, 3) := by decide +kernel
theorem dX8_stillSet_13 : decode cX8_stillSet 13 = .ok (.iload_n 1, 1) := by decide +kernel
theorem dX8_stillSet_14 : decode cX8_stillSet 14 = .ok (.aload_n 0, 1) := by decide +kernel
theorem dX8_stillSet_15 : decode cX8_stillSet 15 = .ok (.getfield 87, 3) := by decide +kernel
theorem dX8_stillSet_18 : decode cX8_stillSet 18 = .ok (.iload_n 2, 1) := by decide +kernel
theorem dX8_stillSet_19 : decode cX8_stillSet 19 = .ok (.iaload, 1) := by decide +kernel
theorem dX8_stillSet_20 : decode cX8_stillSet 20 = .ok (.aload_n 0, 1) := by decide +kernel
theorem dX8_stillSet_21 : decode cX8_stillSet 21 = .ok (.invokevirtual 326, 3) := by decide +kernel
theorem dX8_stillSet_24 : decode cX8_stillSet 24 = .ok (.if_icmp .gt 9, 3) := by decide +kernel
theorem dX8_stillSet_27 : decode cX8_stillSet 27 = .ok (.iconst 1, 1) := by decide +kernel
theorem dX8_stillSet_28 : decode cX8_stillSet 28 = .ok (.iload_n 2, 1) := by decide +kernel
theorem dX8_stillSet_29 : decode cX8_stillSet 29 = .ok (.ishl, 1) := by decide +kernel
theorem dX8_stillSet_30 : decode cX8_stillSet 30 = .ok (.goto 4, 3) := by decide +kernel
theorem dX8_stillSet_33 : decode cX8_stillSet 33 = .ok (.iconst 0, 1) := by decide +kernel
theorem dX8_stillSet_34 : decode cX8_stillSet 34 = .ok (.ior, 1) := by decide +kernel
theorem dX8_stillSet_35 : decode cX8_stillSet 35 = .ok (.istore_n 1, 1) := by decide +kernel
theorem dX8_stillSet_36 : decode cX8_stillSet 36 = .ok (.iinc 2 1, 3) := by decide +kernel
theorem dX8_stillSet_39 : decode cX8_stillSet 39 = .ok (.goto (-31), 3) := by decide +kernel
theorem dX8_stillSet_42 : decode cX8_stillSet 42 = .ok (.iload_n 1, 1) := by decide +kernel
theorem dX8_stillSet_43 : decode cX8_stillSet 43 = .ok (.ireturn, 1) := by decide +kernel
theorem dX8_wears_0 : decode cX8_wears 0 = .ok (.aload_n 0, 1) := by decide +kernel
theorem dX8_wears_1 : decode cX8_wears 1 = .ok (.getfield 16, 3) := by decide +kernel
theorem dX8_wears_4 : decode cX8_wears 4 = .ok (.iload_n 1, 1) := by decide +kernel
theorem dX8_wears_5 : decode cX8_wears 5 = .ok (.iaload, 1) := by decide +kernel
theorem dX8_wears_6 : decode cX8_wears 6 = .ok (.lookupswitch 59 #[(1, 34), (4, 34), (6, 41)], 34) := by decide +kernel
theorem dX8_wears_40 : decode cX8_wears 40 = .ok (.aload_n 0, 1) := by decide +kernel
theorem dX8_wears_41 : decode cX8_wears 41 = .ok (.invokevirtual 329, 3) := by decide +kernel
theorem dX8_wears_44 : decode cX8_wears 44 = .ok (.iconst 2, 1) := by decide +kernel
theorem dX8_wears_45 : decode cX8_wears 45 = .ok (.idiv, 1) := by decide +kernel
theorem dX8_wears_46 : decode cX8_wears 46 = .ok (.ireturn, 1) := by decide +kernel
theorem dX8_wears_47 : decode cX8_wears 47 = .ok (.aload_n 0, 1) := by decide +kernel
theorem dX8_wears_48 : decode cX8_wears 48 = .ok (.getfield 13, 3) := by decide +kernel
theorem dX8_wears_51 : decode cX8_wears 51 = .ok (.iconst 2, 1) := by decide +kernel
theorem dX8_wears_52 : decode cX8_wears 52 = .ok (.irem, 1) := by decide +kernel
theorem dX8_wears_53 : decode cX8_wears 53 = .ok (.ifCond .ne 7, 3) := by decide +kernel
theorem dX8_wears_56 : decode cX8_wears 56 = .ok (.iconst 0, 1) := by decide +kernel
theorem dX8_wears_57 : decode cX8_wears 57 = .ok (.goto 7, 3) := by decide +kernel
theorem dX8_wears_60 : decode cX8_wears 60 = .ok (.aload_n 0, 1) := by decide +kernel
theorem dX8_wears_61 : decode cX8_wears 61 = .ok (.invokevirtual 329, 3) := by decide +kernel
theorem dX8_wears_64 : decode cX8_wears 64 = .ok (.ireturn, 1) := by decide +kernel
theorem dX8_wears_65 : decode cX8_wears 65 = .ok (.aload_n 0, 1) := by decide +kernel
theorem dX8_wears_66 : decode cX8_wears 66 = .ok (.invokevirtual 329, 3) := by decide +kernel
theorem dX8_wears_69 : decode cX8_wears 69 = .ok (.ireturn, 1) := by decide +kernel
theorem dX8_of_0 : decode cX8_of 0 = .ok (.aload_n 0, 1) := by decide +kernel
theorem dX8_of_1 : decode cX8_of 1 = .ok (.iload_n 1, 1) := by decide +kernel
theorem dX8_of_2 : decode cX8_of 2 = .ok (.invokevirtual 229, 3) := by decide +kernel
theorem dX8_of_5 : decode cX8_of 5 = .ok (.ifCond .ne 7, 3) := by decide +kernel
theorem dX8_of_8 : decode cX8_of 8 = .ok (.sipush (-1001), 3) := by decide +kernel
theorem dX8_of_11 : decode cX8_of 11 = .ok (.ireturn, 1) := by decide +kernel
theorem dX8_of_12 : decode cX8_of 12 = .ok (.aload_n 0, 1) := by decide +kernel
theorem dX8_of_13 : decode cX8_of 13 = .ok (.iload_n 2, 1) := by decide +kernel
theorem dX8_of_14 : decode cX8_of 14 = .ok (.bipush 10, 2) := by decide +kernel
theorem dX8_of_16 : decode cX8_of 16 = .ok (.bipush 14, 2) := by decide +kernel
theorem dX8_of_18 : decode cX8_of 18 = .ok (.invokevirtual 218, 3) := by decide +kernel
theorem dX8_of_21 : decode cX8_of 21 = .ok (.ifCond .eq 13, 3) := by decide +kernel
theorem dX8_of_24 : decode cX8_of 24 = .ok (.aload_n 0, 1) := by decide +kernel
theorem dX8_of_25 : decode cX8_of 25 = .ok (.iload_n 1, 1) := by decide +kernel
theorem dX8_of_26 : decode cX8_of 26 = .ok (.iload_n 2, 1) := by decide +kernel
theorem dX8_of_27 : decode cX8_of 27 = .ok (.bipush 10, 2) := by decide +kernel
theorem dX8_of_29 : decode cX8_of 29 = .ok (.isub, 1) := by decide +kernel
theorem dX8_of_30 : decode cX8_of 30 = .ok (.invokevirtual 314, 3) := by decide +kernel
theorem dX8_of_33 : decode cX8_of 33 = .ok (.ireturn, 1) := by decide +kernel
theorem dX8_of_34 : decode cX8_of 34 = .ok (.aload_n 0, 1) := by decide +kernel
theorem dX8_of_35 : decode cX8_of 35 = .ok (.iload_n 2, 1) := by decide +kernel
theorem dX8_of_36 : decode cX8_of 36 = .ok (.bipush 20, 2) := by decide +kernel
theorem dX8_of_38 : decode cX8_of 38 = .ok (.bipush 24, 2) := by decide +kernel
theorem dX8_of_40 : decode cX8_of 40 = .ok (.invokevirtual 218, 3) := by decide +kernel
theorem dX8_of_43 : decode cX8_of 43 = .ok (.ifCond .eq 13, 3) := by decide +kernel
theorem dX8_of_46 : decode cX8_of 46 = .ok (.aload_n 0, 1) := by decide +kernel
theorem dX8_of_47 : decode cX8_of 47 = .ok (.iload_n 1, 1) := by decide +kernel
theorem dX8_of_48 : decode cX8_of 48 = .ok (.iload_n 2, 1) := by decide +kernel
theorem dX8_of_49 : decode cX8_of 49 = .ok (.bipush 20, 2) := by decide +kernel
theorem dX8_of_51 : decode cX8_of 51 = .ok (.isub, 1) := by decide +kernel
theorem dX8_of_52 : decode cX8_of 52 = .ok (.invokevirtual 332, 3) := by decide +kernel
theorem dX8_of_55 : decode cX8_of 55 = .ok (.ireturn, 1) := by decide +kernel
theorem dX8_of_56 : decode cX8_of 56 = .ok (.iload_n 2, 1) := by decide +kernel
theorem dX8_of_57 : decode cX8_of 57 = .ok (.tableswitch 69 0 4 #[35, 42, 49, 56, 63], 35) := by decide +kernel
theorem dX8_of_92 : decode cX8_of 92 = .ok (.aload_n 0, 1) := by decide +kernel
theorem dX8_of_93 : decode cX8_of 93 = .ok (.getfield 16, 3) := by decide +kernel
theorem dX8_of_96 : decode cX8_of 96 = .ok (.iload_n 1, 1) := by decide +kernel
theorem dX8_of_97 : decode cX8_of 97 = .ok (.iaload, 1) := by decide +kernel
theorem dX8_of_98 : decode cX8_of 98 = .ok (.ireturn, 1) := by decide +kernel
theorem dX8_of_99 : decode cX8_of 99 = .ok (.aload_n 0, 1) := by decide +kernel
theorem dX8_of_100 : decode cX8_of 100 = .ok (.getfield 20, 3) := by decide +kernel
theorem dX8_of_103 : decode cX8_of 103 = .ok (.iload_n 1, 1) := by decide +kernel
theorem dX8_of_104 : decode cX8_of 104 = .ok (.iaload, 1) := by decide +kernel
theorem dX8_of_105 : decode cX8_of 105 = .ok (.ireturn, 1) := by decide +kernel
theorem dX8_of_106 : decode cX8_of 106 = .ok (.aload_n 0, 1) := by decide +kernel
theorem dX8_of_107 : decode cX8_of 107 = .ok (.getfield 23, 3) := by decide +kernel
theorem dX8_of_110 : decode cX8_of 110 = .ok (.iload_n 1, 1) := by decide +kernel
theorem dX8_of_111 : decode cX8_of 111 = .ok (.iaload, 1) := by decide +kernel
theorem dX8_of_112 : decode cX8_of 112 = .ok (.ireturn, 1) := by decide +kernel
theorem dX8_of_113 : decode cX8_of 113 = .ok (.aload_n 0, 1) := by decide +kernel
theorem dX8_of_114 : decode cX8_of 114 = .ok (.getfield 26, 3) := by decide +kernel
theorem dX8_of_117 : decode cX8_of 117 = .ok (.iload_n 1, 1) := by decide +kernel
theorem dX8_of_118 : decode cX8_of 118 = .ok (.iaload, 1) := by decide +kernel
theorem dX8_of_119 : decode cX8_of 119 = .ok (.ireturn, 1) := by decide +kernel
theorem dX8_of_120 : decode cX8_of 120 = .ok (.aload_n 0, 1) := by decide +kernel
theorem dX8_of_121 : decode cX8_of 121 = .ok (.iload_n 1, 1) := by decide +kernel
theorem dX8_of_122 : decode cX8_of 122 = .ok (.invokevirtual 335, 3) := by decide +kernel
theorem dX8_of_125 : decode cX8_of 125 = .ok (.ireturn, 1) := by decide +kernel
theorem dX8_of_126 : decode cX8_of 126 = .ok (.sipush (-1001), 3) := by decide +kernel
theorem dX8_of_129 : decode cX8_of 129 = .ok (.ireturn, 1) := by decide +kernel
theorem dX8_told_0 : decode cX8_told 0 = .ok (.aload_n 0, 1) := by decide +kernel
theorem dX8_told_1 : decode cX8_told 1 = .ok (.iload_n 1, 1) := by decide +kernel
theorem dX8_told_2 : decode cX8_told 2 = .ok (.bipush 10, 2) := by decide +kernel
theorem dX8_told_4 : decode cX8_told 4 = .ok (.bipush 14, 2) := by decide +kernel
theorem dX8_told_6 : decode cX8_told 6 = .ok (.invokevirtual 218, 3) := by decide +kernel
theorem dX8_told_9 : decode cX8_told 9 = .ok (.ifCond .eq 12, 3) := by decide +kernel
theorem dX8_told_12 : decode cX8_told 12 = .ok (.aload_n 0, 1) := by decide +kernel
theorem dX8_told_13 : decode cX8_told 13 = .ok (.iload_n 1, 1) := by decide +kernel
theorem dX8_told_14 : decode cX8_told 14 = .ok (.bipush 10, 2) := by decide +kernel
theorem dX8_told_16 : decode cX8_told 16 = .ok (.isub, 1) := by decide +kernel
theorem dX8_told_17 : decode cX8_told 17 = .ok (.invokevirtual 239, 3) := by decide +kernel
theorem dX8_told_20 : decode cX8_told 20 = .ok (.ireturn, 1) := by decide +kernel
theorem dX8_told_21 : decode cX8_told 21 = .ok (.iload_n 1, 1) := by decide +kernel
theorem dX8_told_22 : decode cX8_told 22 = .ok (.tableswitch 68 0 5 #[38, 43, 48, 53, 58, 63], 38) := by decide +kernel
theorem dX8_told_60 : decode cX8_told 60 = .ok (.aload_n 0, 1) := by decide +kernel
theorem dX8_told_61 : decode cX8_told 61 = .ok (.getfield 13, 3) := by decide +kernel
theorem dX8_told_64 : decode cX8_told 64 = .ok (.ireturn, 1) := by decide +kernel
theorem dX8_told_65 : decode cX8_told 65 = .ok (.aload_n 0, 1) := by decide +kernel
theorem dX8_told_66 : decode cX8_told 66 = .ok (.invokevirtual 311, 3) := by decide +kernel
theorem dX8_told_69 : decode cX8_told 69 = .ok (.ireturn, 1) := by decide +kernel
theorem dX8_told_70 : decode cX8_told 70 = .ok (.aload_n 0, 1) := by decide +kernel
theorem dX8_told_71 : decode cX8_told 71 = .ok (.invokevirtual 326, 3) := by decide +kernel
theorem dX8_told_74 : decode cX8_told 74 = .ok (.ireturn, 1) := by decide +kernel
theorem dX8_told_75 : decode cX8_told 75 = .ok (.aload_n 0, 1) := by decide +kernel
theorem dX8_told_76 : decode cX8_told 76 = .ok (.invokevirtual 329, 3) := by decide +kernel
theorem dX8_told_79 : decode cX8_told 79 = .ok (.ireturn, 1) := by decide +kernel
theorem dX8_told_80 : decode cX8_told 80 = .ok (.aload_n 0, 1) := by decide +kernel
theorem dX8_told_81 : decode cX8_told 81 = .ok (.invokevirtual 338, 3) := by decide +kernel
theorem dX8_told_84 : decode cX8_told 84 = .ok (.ireturn, 1) := by decide +kernel
theorem dX8_told_85 : decode cX8_told 85 = .ok (.aload_n 0, 1) := by decide +kernel
theorem dX8_told_86 : decode cX8_told 86 = .ok (.invokevirtual 341, 3) := by decide +kernel
theorem dX8_told_89 : decode cX8_told 89 = .ok (.ireturn, 1) := by decide +kernel
theorem dX8_told_90 : decode cX8_told 90 = .ok (.iconst (-1), 1) := by decide +kernel
theorem dX8_told_91 : decode cX8_told 91 = .ok (.ireturn, 1) := by decide +kernel
theorem dX8_goYear_0 : decode cX8_goYear 0 = .ok (.iconst 0, 1) := by decide +kernel
theorem dX8_goYear_1 : decode cX8_goYear 1 = .ok (.istore_n 1, 1) := by decide +kernel
theorem dX8_goYear_2 : decode cX8_goYear 2 = .ok (.iload_n 1, 1) := by decide +kernel
theorem dX8_goYear_3 : decode cX8_goYear 3 = .ok (.aload_n 0, 1) := by decide +kernel
theorem dX8_goYear_4 : decode cX8_goYear 4 = .ok (.getfield 7, 3) := by decide +kernel
theorem dX8_goYear_7 : decode cX8_goYear 7 = .ok (.if_icmp .ge 48, 3) := by decide +kernel
theorem dX8_goYear_10 : decode cX8_goYear 10 = .ok (.aload_n 0, 1) := by decide +kernel
theorem dX8_goYear_11 : decode cX8_goYear 11 = .ok (.getfield 23, 3) := by decide +kernel
theorem dX8_goYear_14 : decode cX8_goYear 14 = .ok (.iload_n 1, 1) := by decide +kernel
theorem dX8_goYear_15 : decode cX8_goYear 15 = .ok (.aload_n 0, 1) := by decide +kernel
theorem dX8_goYear_16 : decode cX8_goYear 16 = .ok (.iload_n 1, 1) := by decide +kernel
theorem dX8_goYear_17 : decode cX8_goYear 17 = .ok (.invokevirtual 232, 3) := by decide +kernel
theorem dX8_goYear_20 : decode cX8_goYear 20 = .ok (.ifCond .eq 12, 3) := by decide +kernel
theorem dX8_goYear_23 : decode cX8_goYear 23 = .ok (.aload_n 0, 1) := by decide +kernel
theorem dX8_goYear_24 : decode cX8_goYear 24 = .ok (.getfield 23, 3) := by decide +kernel
theorem dX8_goYear_27 : decode cX8_goYear 27 = .ok (.iload_n 1, 1) := by decide +kernel
theorem dX8_goYear_28 : decode cX8_goYear 28 = .ok (.iaload, 1) := by decide +kernel
theorem dX8_goYear_29 : decode cX8_goYear 29 = .ok (.goto 19, 3) := by decide +kernel
theorem dX8_goYear_32 : decode cX8_goYear 32 = .ok (.aload_n 0, 1) := by decide +kernel
theorem dX8_goYear_33 : decode cX8_goYear 33 = .ok (.aload_n 0, 1) := by decide +kernel
theorem dX8_goYear_34 : decode cX8_goYear 34 = .ok (.getfield 23, 3) := by decide +kernel
theorem dX8_goYear_37 : decode cX8_goYear 37 = .ok (.iload_n 1, 1) := by decide +kernel
theorem dX8_goYear_38 : decode cX8_goYear 38 = .ok (.iaload, 1) := by decide +kernel
theorem dX8_goYear_39 : decode cX8_goYear 39 = .ok (.aload_n 0, 1) := by decide +kernel
theorem dX8_goYear_40 : decode cX8_goYear 40 = .ok (.iload_n 1, 1) := by decide +kernel
theorem dX8_goYear_41 : decode cX8_goYear 41 = .ok (.invokevirtual 335, 3) := by decide +kernel
theorem dX8_goYear_44 : decode cX8_goYear 44 = .ok (.isub, 1) := by decide +kernel
theorem dX8_goYear_45 : decode cX8_goYear 45 = .ok (.invokevirtual 308, 3) := by decide +kernel
theorem dX8_goYear_48 : decode cX8_goYear 48 = .ok (.iastore, 1) := by decide +kernel
theorem dX8_goYear_49 : decode cX8_goYear 49 = .ok (.iinc 1 1, 3) := by decide +kernel
theorem dX8_goYear_52 : decode cX8_goYear 52 = .ok (.goto (-50), 3) := by decide +kernel
theorem dX8_goYear_55 : decode cX8_goYear 55 = .ok (.aload_n 0, 1) := by decide +kernel
theorem dX8_goYear_56 : decode cX8_goYear 56 = .ok (.dup, 1) := by decide +kernel
theorem dX8_goYear_57 : decode cX8_goYear 57 = .ok (.getfield 13, 3) := by decide +kernel
theorem dX8_goYear_60 : decode cX8_goYear 60 = .ok (.iconst 1, 1) := by decide +kernel
theorem dX8_goYear_61 : decode cX8_goYear 61 = .ok (.iadd, 1) := by decide +kernel
theorem dX8_goYear_62 : decode cX8_goYear 62 = .ok (.putfield 13, 3) := by decide +kernel
theorem dX8_goYear_65 : decode cX8_goYear 65 = .ok (.return_, 1) := by decide +kernel
theorem dX8_goYears_0 : decode cX8_goYears 0 = .ok (.iconst 0, 1) := by decide +kernel
theorem dX8_goYears_1 : decode cX8_goYears 1 = .ok (.istore_n 2, 1) := by decide +kernel
theorem dX8_goYears_2 : decode cX8_goYears 2 = .ok (.iload_n 2, 1) := by decide +kernel
theorem dX8_goYears_3 : decode cX8_goYears 3 = .ok (.iload_n 1, 1) := by decide +kernel
theorem dX8_goYears_4 : decode cX8_goYears 4 = .ok (.if_icmp .ge 13, 3) := by decide +kernel
theorem dX8_goYears_7 : decode cX8_goYears 7 = .ok (.aload_n 0, 1) := by decide +kernel
theorem dX8_goYears_8 : decode cX8_goYears 8 = .ok (.invokevirtual 344, 3) := by decide +kernel
theorem dX8_goYears_11 : decode cX8_goYears 11 = .ok (.iinc 2 1, 3) := by decide +kernel
theorem dX8_goYears_14 : decode cX8_goYears 14 = .ok (.goto (-12), 3) := by decide +kernel
theorem dX8_goYears_17 : decode cX8_goYears 17 = .ok (.return_, 1) := by decide +kernel
theorem dX8_years_0 : decode cX8_years 0 = .ok (.aload_n 0, 1) := by decide +kernel
theorem dX8_years_1 : decode cX8_years 1 = .ok (.iload_n 1, 1) := by decide +kernel
theorem dX8_years_2 : decode cX8_years 2 = .ok (.invokevirtual 347, 3) := by decide +kernel
theorem dX8_years_5 : decode cX8_years 5 = .ok (.ifCond .ne 6, 3) := by decide +kernel
theorem dX8_years_8 : decode cX8_years 8 = .ok (.bipush (-2), 2) := by decide +kernel
theorem dX8_years_10 : decode cX8_years 10 = .ok (.ireturn, 1) := by decide +kernel
theorem dX8_years_11 : decode cX8_years 11 = .ok (.aload_n 0, 1) := by decide +kernel
theorem dX8_years_12 : decode cX8_years 12 = .ok (.getfield 13, 3) := by decide +kernel
theorem dX8_years_15 : decode cX8_years 15 = .ok (.iload_n 1, 1) := by decide +kernel
theorem dX8_years_16 : decode cX8_years 16 = .ok (.iadd, 1) := by decide +kernel
theorem dX8_years_17 : decode cX8_years 17 = .ok (.sipush 9999, 3) := by decide +kernel
theorem dX8_years_20 : decode cX8_years 20 = .ok (.if_icmp .le 6, 3) := by decide +kernel
theorem dX8_years_23 : decode cX8_years 23 = .ok (.bipush (-3), 2) := by decide +kernel
theorem dX8_years_25 : decode cX8_years 25 = .ok (.ireturn, 1) := by decide +kernel
theorem dX8_years_26 : decode cX8_years 26 = .ok (.aload_n 0, 1) := by decide +kernel
theorem dX8_years_27 : decode cX8_years 27 = .ok (.iload_n 1, 1) := by decide +kernel
theorem dX8_years_28 : decode cX8_years 28 = .ok (.invokevirtual 350, 3) := by decide +kernel
theorem dX8_years_31 : decode cX8_years 31 = .ok (.aload_n 0, 1) := by decide +kernel
theorem dX8_years_32 : decode cX8_years 32 = .ok (.getfield 13, 3) := by decide +kernel
theorem dX8_years_35 : decode cX8_years 35 = .ok (.ireturn, 1) := by decide +kernel
theorem dX8_save_0 : decode cX8_save 0 = .ok (.aload_n 0, 1) := by decide +kernel
theorem dX8_save_1 : decode cX8_save 1 = .ok (.aload_n 0, 1) := by decide +kernel
theorem dX8_save_2 : decode cX8_save 2 = .ok (.getfield 13, 3) := by decide +kernel
theorem dX8_save_5 : decode cX8_save 5 = .ok (.putfield 90, 3) := by decide +kernel
theorem dX8_save_8 : decode cX8_save 8 = .ok (.iconst 0, 1) := by decide +kernel
theorem dX8_save_9 : decode cX8_save 9 = .ok (.istore_n 1, 1) := by decide +kernel
theorem dX8_save_10 : decode cX8_save 10 = .ok (.iload_n 1, 1) := by decide +kernel
theorem dX8_save_11 : decode cX8_save 11 = .ok (.bipush 6, 2) := by decide +kernel
theorem dX8_save_13 : decode cX8_save 13 = .ok (.if_icmp .ge 33, 3) := by decide +kernel
theorem dX8_save_16 : decode cX8_save 16 = .ok (.aload_n 0, 1) := by decide +kernel
theorem dX8_save_17 : decode cX8_save 17 = .ok (.getfield 93, 3) := by decide +kernel
theorem dX8_save_20 : decode cX8_save 20 = .ok (.iload_n 1, 1) := by decide +kernel
theorem dX8_save_21 : decode cX8_save 21 = .ok (.aload_n 0, 1) := by decide +kernel
theorem dX8_save_22 : decode cX8_save 22 = .ok (.getfield 23, 3) := by decide +kernel
theorem dX8_save_25 : decode cX8_save 25 = .ok (.iload_n 1, 1) := by decide +kernel
theorem dX8_save_26 : decode cX8_save 26 = .ok (.iaload, 1) := by decide +kernel
theorem dX8_save_27 : decode cX8_save 27 = .ok (.iastore, 1) := by decide +kernel
theorem dX8_save_28 : decode cX8_save 28 = .ok (.aload_n 0, 1) := by decide +kernel
theorem dX8_save_29 : decode cX8_save 29 = .ok (.getfield 96, 3) := by decide +kernel
theorem dX8_save_32 : decode cX8_save 32 = .ok (.iload_n 1, 1) := by decide +kernel
theorem dX8_save_33 : decode cX8_save 33 = .ok (.aload_n 0, 1) := by decide +kernel
theorem dX8_save_34 : decode cX8_save 34 = .ok (.getfield 26, 3) := by decide +kernel
theorem dX8_save_37 : decode cX8_save 37 = .ok (.iload_n 1, 1) := by decide +kernel
theorem dX8_save_38 : decode cX8_save 38 = .ok (.iaload, 1) := by decide +kernel
theorem dX8_save_39 : decode cX8_save 39 = .ok (.iastore, 1) := by decide +kernel
theorem dX8_save_40 : decode cX8_save 40 = .ok (.iinc 1 1, 3) := by decide +kernel
theorem dX8_save_43 : decode cX8_save 43 = .ok (.goto (-33), 3) := by decide +kernel
theorem dX8_save_46 : decode cX8_save 46 = .ok (.return_, 1) := by decide +kernel
theorem dX8_putBack_0 : decode cX8_putBack 0 = .ok (.aload_n 0, 1) := by decide +kernel
theorem dX8_putBack_1 : decode cX8_putBack 1 = .ok (.aload_n 0, 1) := by decide +kernel
theorem dX8_putBack_2 : decode cX8_putBack 2 = .ok (.getfield 90, 3) := by decide +kernel
theorem dX8_putBack_5 : decode cX8_putBack 5 = .ok (.putfield 13, 3) := by decide +kernel
theorem dX8_putBack_8 : decode cX8_putBack 8 = .ok (.iconst 0, 1) := by decide +kernel
theorem dX8_putBack_9 : decode cX8_putBack 9 = .ok (.istore_n 1, 1) := by decide +kernel
theorem dX8_putBack_10 : decode cX8_putBack 10 = .ok (.iload_n 1, 1) := by decide +kernel
theorem dX8_putBack_11 : decode cX8_putBack 11 = .ok (.bipush 6, 2) := by decide +kernel
theorem dX8_putBack_13 : decode cX8_putBack 13 = .ok (.if_icmp .ge 33, 3) := by decide +kernel
theorem dX8_putBack_16 : decode cX8_putBack 16 = .ok (.aload_n 0, 1) := by decide +kernel
theorem dX8_putBack_17 : decode cX8_putBack 17 = .ok (.getfield 23, 3) := by decide +kernel
theorem dX8_putBack_20 : decode cX8_putBack 20 = .ok (.iload_n 1, 1) := by decide +kernel
theorem dX8_putBack_21 : decode cX8_putBack 21 = .ok (.aload_n 0, 1) := by decide +kernel
theorem dX8_putBack_22 : decode cX8_putBack 22 = .ok (.getfield 93, 3) := by decide +kernel
theorem dX8_putBack_25 : decode cX8_putBack 25 = .ok (.iload_n 1, 1) := by decide +kernel
theorem dX8_putBack_26 : decode cX8_putBack 26 = .ok (.iaload, 1) := by decide +kernel
theorem dX8_putBack_27 : decode cX8_putBack 27 = .ok (.iastore, 1) := by decide +kernel
theorem dX8_putBack_28 : decode cX8_putBack 28 = .ok (.aload_n 0, 1) := by decide +kernel
theorem dX8_putBack_29 : decode cX8_putBack 29 = .ok (.getfield 26, 3) := by decide +kernel
theorem dX8_putBack_32 : decode cX8_putBack 32 = .ok (.iload_n 1, 1) := by decide +kernel
theorem dX8_putBack_33 : decode cX8_putBack 33 = .ok (.aload_n 0, 1) := by decide +kernel
theorem dX8_putBack_34 : decode cX8_putBack 34 = .ok (.getfield 96, 3) := by decide +kernel
theorem dX8_putBack_37 : decode cX8_putBack 37 = .ok (.iload_n 1, 1) := by decide +kernel
theorem dX8_putBack_38 : decode cX8_putBack 38 = .ok (.iaload, 1) := by decide +kernel
theorem dX8_putBack_39 : decode cX8_putBack 39 = .ok (.iastore, 1) := by decide +kernel
theorem dX8_putBack_40 : decode cX8_putBack 40 = .ok (.iinc 1 1, 3) := by decide +kernel
theorem dX8_putBack_43 : decode cX8_putBack 43 = .ok (.goto (-33), 3) := by decide +kernel
theorem dX8_putBack_46 : decode cX8_putBack 46 = .ok (.return_, 1) := by decide +kernel
theorem dX8_on_0 : decode cX8_on 0 = .ok (.iload_n 2, 1) := by decide +kernel
theorem dX8_on_1 : decode cX8_on 1 = .ok (.ifCond .eq 34, 3) := by decide +kernel
theorem dX8_on_4 : decode cX8_on 4 = .ok (.aload_n 0, 1) := by decide +kernel
theorem dX8_on_5 : decode cX8_on 5 = .ok (.iload_n 2, 1) := by decide +kernel
theorem dX8_on_6 : decode cX8_on 6 = .ok (.bipush 10, 2) := by decide +kernel
theorem dX8_on_8 : decode cX8_on 8 = .ok (.bipush 14, 2) := by decide +kernel
theorem dX8_on_10 : decode cX8_on 10 = .ok (.invokevirtual 218, 3) := by decide +kernel
theorem dX8_on_13 : decode cX8_on 13 = .ok (.ifCond .ne 22, 3) := by decide +kernel
theorem dX8_on_16 : decode cX8_on 16 = .ok (.aload_n 0, 1) := by decide +kernel
theorem dX8_on_17 : decode cX8_on 17 = .ok (.iload_n 2, 1) := by decide +kernel
theorem dX8_on_18 : decode cX8_on 18 = .ok (.bipush 20, 2) := by decide +kernel
theorem dX8_on_20 : decode cX8_on 20 = .ok (.bipush 19, 2) := by decide +kernel
theorem dX8_on_22 : decode cX8_on 22 = .ok (.aload_n 0, 1) := by decide +kernel
theorem dX8_on_23 : decode cX8_on 23 = .ok (.getfield 7, 3) := by decide +kernel
theorem dX8_on_26 : decode cX8_on 26 = .ok (.iadd, 1) := by decide +kernel
theorem dX8_on_27 : decode cX8_on 27 = .ok (.invokevirtual 218, 3) := by decide +kernel
theorem dX8_on_30 : decode cX8_on 30 = .ok (.ifCond .ne 5, 3) := by decide +kernel
theorem dX8_on_33 : decode cX8_on 33 = .ok (.iconst (-1), 1) := by decide +kernel
theorem dX8_on_34 : decode cX8_on 34 = .ok (.ireturn, 1) := by decide +kernel
theorem dX8_on_35 : decode cX8_on 35 = .ok (.aload_n 0, 1) := by decide +kernel
theorem dX8_on_36 : decode cX8_on 36 = .ok (.iload_n 1, 1) := by decide +kernel
theorem dX8_on_37 : decode cX8_on 37 = .ok (.invokevirtual 347, 3) := by decide +kernel
theorem dX8_on_40 : decode cX8_on 40 = .ok (.ifCond .ne 6, 3) := by decide +kernel
theorem dX8_on_43 : decode cX8_on 43 = .ok (.bipush (-2), 2) := by decide +kernel
theorem dX8_on_45 : decode cX8_on 45 = .ok (.ireturn, 1) := by decide +kernel
theorem dX8_on_46 : decode cX8_on 46 = .ok (.aload_n 0, 1) := by decide +kernel
theorem dX8_on_47 : decode cX8_on 47 = .ok (.invokevirtual 353, 3) := by decide +kernel
theorem dX8_on_50 : decode cX8_on 50 = .ok (.aload_n 0, 1) := by decide +kernel
theorem dX8_on_51 : decode cX8_on 51 = .ok (.iload_n 1, 1) := by decide +kernel
theorem dX8_on_52 : decode cX8_on 52 = .ok (.invokevirtual 350, 3) := by decide +kernel
theorem dX8_on_55 : decode cX8_on 55 = .ok (.iload_n 2, 1) := by decide +kernel
theorem dX8_on_56 : decode cX8_on 56 = .ok (.ifCond .ne 10, 3) := by decide +kernel
theorem dX8_on_59 : decode cX8_on 59 = .ok (.aload_n 0, 1) := by decide +kernel
theorem dX8_on_60 : decode cX8_on 60 = .ok (.invokevirtual 338, 3) := by decide +kernel
theorem dX8_on_63 : decode cX8_on 63 = .ok (.goto 29, 3) := by decide +kernel
theorem dX8_on_66 : decode cX8_on 66 = .ok (.iload_n 2, 1) := by decide +kernel
theorem dX8_on_67 : decode cX8_on 67 = .ok (.bipush 20, 2) := by decide +kernel
theorem dX8_on_69 : decode cX8_on 69 = .ok (.if_icmp .ge 14, 3) := by decide +kernel
theorem dX8_on_72 : decode cX8_on 72 = .ok (.aload_n 0, 1) := by decide +kernel
theorem dX8_on_73 : decode cX8_on 73 = .ok (.iload_n 2, 1) := by decide +kernel
theorem dX8_on_74 : decode cX8_on 74 = .ok (.bipush 10, 2) := by decide +kernel
theorem dX8_on_76 : decode cX8_on 76 = .ok (.isub, 1) := by decide +kernel
theorem dX8_on_77 : decode cX8_on 77 = .ok (.invokevirtual 239, 3) := by decide +kernel
theorem dX8_on_80 : decode cX8_on 80 = .ok (.goto 12, 3) := by decide +kernel
theorem dX8_on_83 : decode cX8_on 83 = .ok (.aload_n 0, 1) := by decide +kernel
theorem dX8_on_84 : decode cX8_on 84 = .ok (.getfield 23, 3) := by decide +kernel
theorem dX8_on_87 : decode cX8_on 87 = .ok (.iload_n 2, 1) := by decide +kernel
theorem dX8_on_88 : decode cX8_on 88 = .ok (.bipush 20, 2) := by decide +kernel
theorem dX8_on_90 : decode cX8_on 90 = .ok (.isub, 1) := by decide +kernel
theorem dX8_on_91 : decode cX8_on 91 = .ok (.iaload, 1) := by decide +kernel
theorem dX8_on_92 : decode cX8_on 92 = .ok (.istore_n 3, 1) := by decide +kernel
theorem dX8_on_93 : decode cX8_on 93 = .ok (.aload_n 0, 1) := by decide +kernel
theorem dX8_on_94 : decode cX8_on 94 = .ok (.invokevirtual 356, 3) := by decide +kernel
theorem dX8_on_97 : decode cX8_on 97 = .ok (.iload_n 3, 1) := by decide +kernel
theorem dX8_on_98 : decode cX8_on 98 = .ok (.ireturn, 1) := by decide +kernel
theorem dX8_when_0 : decode cX8_when 0 = .ok (.aload_n 0, 1) := by decide +kernel
theorem dX8_when_1 : decode cX8_when 1 = .ok (.iload_n 1, 1) := by decide +kernel
theorem dX8_when_2 : decode cX8_when 2 = .ok (.iconst 0, 1) := by decide +kernel
theorem dX8_when_3 : decode cX8_when 3 = .ok (.iconst 1, 1) := by decide +kernel
theorem dX8_when_4 : decode cX8_when 4 = .ok (.invokevirtual 218, 3) := by decide +kernel
theorem dX8_when_7 : decode cX8_when 7 = .ok (.ifCond .eq 26, 3) := by decide +kernel
theorem dX8_when_10 : decode cX8_when 10 = .ok (.iload_n 1, 1) := by decide +kernel
theorem dX8_when_11 : decode cX8_when 11 = .ok (.ifCond .ne 14, 3) := by decide +kernel
theorem dX8_when_14 : decode cX8_when 14 = .ok (.aload_n 0, 1) := by decide +kernel
theorem dX8_when_15 : decode cX8_when 15 = .ok (.iload_n 2, 1) := by decide +kernel
theorem dX8_when_16 : decode cX8_when 16 = .ok (.invokevirtual 222, 3) := by decide +kernel
theorem dX8_when_19 : decode cX8_when 19 = .ok (.ifCond .ne 16, 3) := by decide +kernel
theorem dX8_when_22 : decode cX8_when 22 = .ok (.goto 11, 3) := by decide +kernel
theorem dX8_when_25 : decode cX8_when 25 = .ok (.aload_n 0, 1) := by decide +kernel
theorem dX8_when_26 : decode cX8_when 26 = .ok (.iload_n 2, 1) := by decide +kernel
theorem dX8_when_27 : decode cX8_when 27 = .ok (.invokevirtual 229, 3) := by decide +kernel
theorem dX8_when_30 : decode cX8_when 30 = .ok (.ifCond .ne 5, 3) := by decide +kernel
theorem dX8_when_33 : decode cX8_when 33 = .ok (.iconst (-1), 1) := by decide +kernel
theorem dX8_when_34 : decode cX8_when 34 = .ok (.ireturn, 1) := by decide +kernel
theorem dX8_when_35 : decode cX8_when 35 = .ok (.iload_n 1, 1) := by decide +kernel
theorem dX8_when_36 : decode cX8_when 36 = .ok (.iconst 1, 1) := by decide +kernel
theorem dX8_when_37 : decode cX8_when 37 = .ok (.if_icmp .ne 14, 3) := by decide +kernel
theorem dX8_when_40 : decode cX8_when 40 = .ok (.aload_n 0, 1) := by decide +kernel
theorem dX8_when_41 : decode cX8_when 41 = .ok (.iload_n 2, 1) := by decide +kernel
theorem dX8_when_42 : decode cX8_when 42 = .ok (.invokevirtual 232, 3) := by decide +kernel
theorem dX8_when_45 : decode cX8_when 45 = .ok (.ifCond .eq 6, 3) := by decide +kernel
theorem dX8_when_48 : decode cX8_when 48 = .ok (.bipush (-5), 2) := by decide +kernel
theorem dX8_when_50 : decode cX8_when 50 = .ok (.ireturn, 1) := by decide +kernel
theorem dX8_when_51 : decode cX8_when 51 = .ok (.aload_n 0, 1) := by decide +kernel
theorem dX8_when_52 : decode cX8_when 52 = .ok (.invokevirtual 353, 3) := by decide +kernel
theorem dX8_when_55 : decode cX8_when 55 = .ok (.bipush (-5), 2) := by decide +kernel
theorem dX8_when_57 : decode cX8_when 57 = .ok (.istore_n 3, 1) := by decide +kernel
theorem dX8_when_58 : decode cX8_when 58 = .ok (.iconst 0, 1) := by decide +kernel
theorem dX8_when_59 : decode cX8_when 59 = .ok (.istore 4, 2) := by decide +kernel
theorem dX8_when_61 : decode cX8_when 61 = .ok (.iload 4, 2) := by decide +kernel
theorem dX8_when_63 : decode cX8_when 63 = .ok (.bipush 61, 2) := by decide +kernel
theorem dX8_when_65 : decode cX8_when 65 = .ok (.if_icmp .ge 70, 3) := by decide +kernel
theorem dX8_when_68 : decode cX8_when 68 = .ok (.iload_n 3, 1) := by decide +kernel
theorem dX8_when_69 : decode cX8_when 69 = .ok (.ifCond .ge 66, 3) := by decide +kernel
theorem dX8_when_72 : decode cX8_when 72 = .ok (.iload_n 1, 1) := by decide +kernel
theorem dX8_when_73 : decode cX8_when 73 = .ok (.ifCond .ne 23, 3) := by decide +kernel
theorem dX8_when_76 : decode cX8_when 76 = .ok (.aload_n 0, 1) := by decide +kernel
theorem dX8_when_77 : decode cX8_when 77 = .ok (.iload_n 2, 1) := by decide +kernel
theorem dX8_when_78 : decode cX8_when 78 = .ok (.invokevirtual 239, 3) := by decide +kernel
theorem dX8_when_81 : decode cX8_when 81 = .ok (.aload_n 0, 1) := by decide +kernel
theorem dX8_when_82 : decode cX8_when 82 = .ok (.invokevirtual 326, 3) := by decide +kernel
theorem dX8_when_85 : decode cX8_when 85 = .ok (.if_icmp .gt 7, 3) := by decide +kernel
theorem dX8_when_88 : decode cX8_when 88 = .ok (.iconst 1, 1) := by decide +kernel
theorem dX8_when_89 : decode cX8_when 89 = .ok (.goto 21, 3) := by decide +kernel
theorem dX8_when_92 : decode cX8_when 92 = .ok (.iconst 0, 1) := by decide +kernel
theorem dX8_when_93 : decode cX8_when 93 = .ok (.goto 17, 3) := by decide +kernel
theorem dX8_when_96 : decode cX8_when 96 = .ok (.aload_n 0, 1) := by decide +kernel
theorem dX8_when_97 : decode cX8_when 97 = .ok (.getfield 23, 3) := by decide +kernel
theorem dX8_when_100 : decode cX8_when 100 = .ok (.iload_n 2, 1) := by decide +kernel
theorem dX8_when_101 : decode cX8_when 101 = .ok (.iaload, 1) := by decide +kernel
theorem dX8_when_102 : decode cX8_when 102 = .ok (.ifCond .ne 7, 3) := by decide +kernel
theorem dX8_when_105 : decode cX8_when 105 = .ok (.iconst 1, 1) := by decide +kernel
theorem dX8_when_106 : decode cX8_when 106 = .ok (.goto 4, 3) := by decide +kernel
theorem dX8_when_109 : decode cX8_when 109 = .ok (.iconst 0, 1) := by decide +kernel
theorem dX8_when_110 : decode cX8_when 110 = .ok (.istore 5, 2) := by decide +kernel
theorem dX8_when_112 : decode cX8_when 112 = .ok (.iload 5, 2) := by decide +kernel
theorem dX8_when_114 : decode cX8_when 114 = .ok (.ifCond .eq 8, 3) := by decide +kernel
theorem dX8_when_117 : decode cX8_when 117 = .ok (.iload 4, 2) := by decide +kernel
theorem dX8_when_119 : decode cX8_when 119 = .ok (.goto 5, 3) := by decide +kernel
theorem dX8_when_122 : decode cX8_when 122 = .ok (.bipush (-5), 2) := by decide +kernel
theorem dX8_when_124 : decode cX8_when 124 = .ok (.istore_n 3, 1) := by decide +kernel
theorem dX8_when_125 : decode cX8_when 125 = .ok (.aload_n 0, 1) := by decide +kernel
theorem dX8_when_126 : decode cX8_when 126 = .ok (.invokevirtual 344, 3) := by decide +kernel
theorem dX8_when_129 : decode cX8_when 129 = .ok (.iinc 4 1, 3) := by decide +kernel
theorem dX8_when_132 : decode cX8_when 132 = .ok (.goto (-71), 3) := by decide +kernel
theorem dX8_when_135 : decode cX8_when 135 = .ok (.aload_n 0, 1) := by decide +kernel
theorem dX8_when_136 : decode cX8_when 136 = .ok (.invokevirtual 356, 3) := by decide +kernel
theorem dX8_when_139 : decode cX8_when 139 = .ok (.iload_n 3, 1) := by decide +kernel
theorem dX8_when_140 : decode cX8_when 140 = .ok (.ireturn, 1) := by decide +kernel
theorem dX8_home_0 : decode cX8_home 0 = .ok (.aload_n 0, 1) := by decide +kernel
theorem dX8_home_1 : decode cX8_home 1 = .ok (.iload_n 1, 1) := by decide +kernel
theorem dX8_home_2 : decode cX8_home 2 = .ok (.invokevirtual 229, 3) := by decide +kernel
theorem dX8_home_5 : decode cX8_home 5 = .ok (.ifCond .ne 5, 3) := by decide +kernel
theorem dX8_home_8 : decode cX8_home 8 = .ok (.iconst (-1), 1) := by decide +kernel
theorem dX8_home_9 : decode cX8_home 9 = .ok (.ireturn, 1) := by decide +kernel
theorem dX8_home_10 : decode cX8_home 10 = .ok (.aload_n 0, 1) := by decide +kernel
theorem dX8_home_11 : decode cX8_home 11 = .ok (.getfield 26, 3) := by decide +kernel
theorem dX8_home_14 : decode cX8_home 14 = .ok (.iload_n 1, 1) := by decide +kernel
theorem dX8_home_15 : decode cX8_home 15 = .ok (.iaload, 1) := by decide +kernel
theorem dX8_home_16 : decode cX8_home 16 = .ok (.istore_n 2, 1) := by decide +kernel
theorem dX8_home_17 : decode cX8_home 17 = .ok (.iconst 0, 1) := by decide +kernel
theorem dX8_home_18 : decode cX8_home 18 = .ok (.istore_n 3, 1) := by decide +kernel
theorem dX8_home_19 : decode cX8_home 19 = .ok (.ldc_w 359, 3) := by decide +kernel
theorem dX8_home_22 : decode cX8_home 22 = .ok (.istore 4, 2) := by decide +kernel
theorem dX8_home_24 : decode cX8_home 24 = .ok (.iconst 0, 1) := by decide +kernel
theorem dX8_home_25 : decode cX8_home 25 = .ok (.istore 5, 2) := by decide +kernel
theorem dX8_home_27 : decode cX8_home 27 = .ok (.iload 5, 2) := by decide +kernel
theorem dX8_home_29 : decode cX8_home 29 = .ok (.iconst 5, 1) := by decide +kernel
theorem dX8_home_30 : decode cX8_home 30 = .ok (.if_icmp .ge 40, 3) := by decide +kernel
theorem dX8_home_33 : decode cX8_home 33 = .ok (.aload_n 0, 1) := by decide +kernel
theorem dX8_home_34 : decode cX8_home 34 = .ok (.getfield 26, 3) := by decide +kernel
theorem dX8_home_37 : decode cX8_home 37 = .ok (.iload_n 1, 1) := by decide +kernel
theorem dX8_home_38 : decode cX8_home 38 = .ok (.iload 5, 2) := by decide +kernel
theorem dX8_home_40 : decode cX8_home 40 = .ok (.iastore, 1) := by decide +kernel
theorem dX8_home_41 : decode cX8_home 41 = .ok (.aload_n 0, 1) := by decide +kernel
theorem dX8_home_42 : decode cX8_home 42 = .ok (.invokevirtual 338, 3) := by decide +kernel
theorem dX8_home_45 : decode cX8_home 45 = .ok (.istore 6, 2) := by decide +kernel
theorem dX8_home_47 : decode cX8_home 47 = .ok (.iload 6, 2) := by decide +kernel
theorem dX8_home_49 : decode cX8_home 49 = .ok (.iload 4, 2) := by decide +kernel
theorem dX8_home_51 : decode cX8_home 51 = .ok (.if_icmp .lt 6, 3) := by decide +kernel
theorem dX8_home_54 : decode cX8_home 54 = .ok (.goto 10, 3) := by decide +kernel
theorem dX8_home_57 : decode cX8_home 57 = .ok (.iload 5, 2) := by decide +kernel
theorem dX8_home_59 : decode cX8_home 59 = .ok (.istore_n 3, 1) := by decide +kernel
theorem dX8_home_60 : decode cX8_home 60 = .ok (.iload 6, 2) := by decide +kernel
theorem dX8_home_62 : decode cX8_home 62 = .ok (.istore 4, 2) := by decide +kernel
theorem dX8_home_64 : decode cX8_home 64 = .ok (.iinc 5 1, 3) := by decide +kernel
theorem dX8_home_67 : decode cX8_home 67 = .ok (.goto (-40), 3) := by decide +kernel
theorem dX8_home_70 : decode cX8_home 70 = .ok (.aload_n 0, 1) := by decide +kernel
theorem dX8_home_71 : decode cX8_home 71 = .ok (.getfield 26, 3) := by decide +kernel
theorem dX8_home_74 : decode cX8_home 74 = .ok (.iload_n 1, 1) := by decide +kernel
theorem dX8_home_75 : decode cX8_home 75 = .ok (.iload_n 2, 1) := by decide +kernel
theorem dX8_home_76 : decode cX8_home 76 = .ok (.iastore, 1) := by decide +kernel
theorem dX8_home_77 : decode cX8_home 77 = .ok (.iload_n 3, 1) := by decide +kernel
theorem dX8_home_78 : decode cX8_home 78 = .ok (.ireturn, 1) := by decide +kernel
theorem dX8_layAll_0 : decode cX8_layAll 0 = .ok (.iconst 0, 1) := by decide +kernel
theorem dX8_layAll_1 : decode cX8_layAll 1 = .ok (.istore_n 1, 1) := by decide +kernel
theorem dX8_layAll_2 : decode cX8_layAll 2 = .ok (.iload_n 1, 1) := by decide +kernel
theorem dX8_layAll_3 : decode cX8_layAll 3 = .ok (.aload_n 0, 1) := by decide +kernel
theorem dX8_layAll_4 : decode cX8_layAll 4 = .ok (.getfield 7, 3) := by decide +kernel
theorem dX8_layAll_7 : decode cX8_layAll 7 = .ok (.if_icmp .ge 102, 3) := by decide +kernel
theorem dX8_layAll_10 : decode cX8_layAll 10 = .ok (.aload_n 0, 1) := by decide +kernel
theorem dX8_layAll_11 : decode cX8_layAll 11 = .ok (.iload_n 1, 1) := by decide +kernel
theorem dX8_layAll_12 : decode cX8_layAll 12 = .ok (.invokevirtual 232, 3) := by decide +kernel
theorem dX8_layAll_15 : decode cX8_layAll 15 = .ok (.ifCond .eq 6, 3) := by decide +kernel
theorem dX8_layAll_18 : decode cX8_layAll 18 = .ok (.goto 85, 3) := by decide +kernel
theorem dX8_layAll_21 : decode cX8_layAll 21 = .ok (.aload_n 0, 1) := by decide +kernel
theorem dX8_layAll_22 : decode cX8_layAll 22 = .ok (.getfield 26, 3) := by decide +kernel
theorem dX8_layAll_25 : decode cX8_layAll 25 = .ok (.iload_n 1, 1) := by decide +kernel
theorem dX8_layAll_26 : decode cX8_layAll 26 = .ok (.iaload, 1) := by decide +kernel
theorem dX8_layAll_27 : decode cX8_layAll 27 = .ok (.istore_n 2, 1) := by decide +kernel
theorem dX8_layAll_28 : decode cX8_layAll 28 = .ok (.iconst 0, 1) := by decide +kernel
theorem dX8_layAll_29 : decode cX8_layAll 29 = .ok (.istore_n 3, 1) := by decide +kernel
theorem dX8_layAll_30 : decode cX8_layAll 30 = .ok (.iload_n 3, 1) := by decide +kernel
theorem dX8_layAll_31 : decode cX8_layAll 31 = .ok (.iconst 5, 1) := by decide +kernel
theorem dX8_layAll_32 : decode cX8_layAll 32 = .ok (.if_icmp .ge 64, 3) := by decide +kernel
theorem dX8_layAll_35 : decode cX8_layAll 35 = .ok (.aload_n 0, 1) := by decide +kernel
theorem dX8_layAll_36 : decode cX8_layAll 36 = .ok (.getfield 26, 3) := by decide +kernel
theorem dX8_layAll_39 : decode cX8_layAll 39 = .ok (.iload_n 1, 1) := by decide +kernel
theorem dX8_layAll_40 : decode cX8_layAll 40 = .ok (.iload_n 3, 1) := by decide +kernel
theorem dX8_layAll_41 : decode cX8_layAll 41 = .ok (.iastore, 1) := by decide +kernel
theorem dX8_layAll_42 : decode cX8_layAll 42 = .ok (.aload_n 0, 1) := by decide +kernel
theorem dX8_layAll_43 : decode cX8_layAll 43 = .ok (.iload_n 1, 1) := by decide +kernel
theorem dX8_layAll_44 : decode cX8_layAll 44 = .ok (.iload_n 3, 1) := by decide +kernel
theorem dX8_layAll_45 : decode cX8_layAll 45 = .ok (.invokevirtual 314, 3) := by decide +kernel
theorem dX8_layAll_48 : decode cX8_layAll 48 = .ok (.istore 4, 2) := by decide +kernel
theorem dX8_layAll_50 : decode cX8_layAll 50 = .ok (.iconst 0, 1) := by decide +kernel
theorem dX8_layAll_51 : decode cX8_layAll 51 = .ok (.istore 5, 2) := by decide +kernel
theorem dX8_layAll_53 : decode cX8_layAll 53 = .ok (.iload 5, 2) := by decide +kernel
theorem dX8_layAll_55 : decode cX8_layAll 55 = .ok (.iconst 5, 1) := by decide +kernel
theorem dX8_layAll_56 : decode cX8_layAll 56 = .ok (.if_icmp .ge 34, 3) := by decide +kernel
theorem dX8_layAll_59 : decode cX8_layAll 59 = .ok (.aload_n 0, 1) := by decide +kernel
theorem dX8_layAll_60 : decode cX8_layAll 60 = .ok (.getfield 99, 3) := by decide +kernel
theorem dX8_layAll_63 : decode cX8_layAll 63 = .ok (.bipush 25, 2) := by decide +kernel
theorem dX8_layAll_65 : decode cX8_layAll 65 = .ok (.iload_n 1, 1) := by decide +kernel
theorem dX8_layAll_66 : decode cX8_layAll 66 = .ok (.imul, 1) := by decide +kernel
theorem dX8_layAll_67 : decode cX8_layAll 67 = .ok (.iconst 5, 1) := by decide +kernel
theorem dX8_layAll_68 : decode cX8_layAll 68 = .ok (.iload_n 3, 1) := by decide +kernel
theorem dX8_layAll_69 : decode cX8_layAll 69 = .ok (.imul, 1) := by decide +kernel
theorem dX8_layAll_70 : decode cX8_layAll 70 = .ok (.iadd, 1) := by decide +kernel
theorem dX8_layAll_71 : decode cX8_layAll 71 = .ok (.iload 5, 2) := by decide +kernel
theorem dX8_layAll_73 : decode cX8_layAll 73 = .ok (.iadd, 1) := by decide +kernel
theorem dX8_layAll_74 : decode cX8_layAll 74 = .ok (.aload_n 0, 1) := by decide +kernel
theorem dX8_layAll_75 : decode cX8_layAll 75 = .ok (.iload_n 1, 1) := by decide +kernel
theorem dX8_layAll_76 : decode cX8_layAll 76 = .ok (.iload 4, 2) := by decide +kernel
theorem dX8_layAll_78 : decode cX8_layAll 78 = .ok (.iload 5, 2) := by decide +kernel
theorem dX8_layAll_80 : decode cX8_layAll 80 = .ok (.invokevirtual 317, 3) := by decide +kernel
theorem dX8_layAll_83 : decode cX8_layAll 83 = .ok (.iastore, 1) := by decide +kernel
theorem dX8_layAll_84 : decode cX8_layAll 84 = .ok (.iinc 5 1, 3) := by decide +kernel
theorem dX8_layAll_87 : decode cX8_layAll 87 = .ok (.goto (-34), 3) := by decide +kernel
theorem dX8_layAll_90 : decode cX8_layAll 90 = .ok (.iinc 3 1, 3) := by decide +kernel
theorem dX8_layAll_93 : decode cX8_layAll 93 = .ok (.goto (-63), 3) := by decide +kernel
theorem dX8_layAll_96 : decode cX8_layAll 96 = .ok (.aload_n 0, 1) := by decide +kernel
theorem dX8_layAll_97 : decode cX8_layAll 97 = .ok (.getfield 26, 3) := by decide +kernel
theorem dX8_layAll_100 : decode cX8_layAll 100 = .ok (.iload_n 1, 1) := by decide +kernel
theorem dX8_layAll_101 : decode cX8_layAll 101 = .ok (.iload_n 2, 1) := by decide +kernel
theorem dX8_layAll_102 : decode cX8_layAll 102 = .ok (.iastore, 1) := by decide +kernel
theorem dX8_layAll_103 : decode cX8_layAll 103 = .ok (.iinc 1 1, 3) := by decide +kernel
theorem dX8_layAll_106 : decode cX8_layAll 106 = .ok (.goto (-104), 3) := by decide +kernel
theorem dX8_layAll_109 : decode cX8_layAll 109 = .ok (.return_, 1) := by decide +kernel
theorem dX8_layPlaces_0 : decode cX8_layPlaces 0 = .ok (.iload_n 1, 1) := by decide +kernel
theorem dX8_layPlaces_1 : decode cX8_layPlaces 1 = .ok (.istore_n 2, 1) := by decide +kernel
theorem dX8_layPlaces_2 : decode cX8_layPlaces 2 = .ok (.aload_n 0, 1) := by decide +kernel
theorem dX8_layPlaces_3 : decode cX8_layPlaces 3 = .ok (.getfield 7, 3) := by decide +kernel
theorem dX8_layPlaces_6 : decode cX8_layPlaces 6 = .ok (.iconst 1, 1) := by decide +kernel
theorem dX8_layPlaces_7 : decode cX8_layPlaces 7 = .ok (.isub, 1) := by decide +kernel
theorem dX8_layPlaces_8 : decode cX8_layPlaces 8 = .ok (.istore_n 3, 1) := by decide +kernel
theorem dX8_layPlaces_9 : decode cX8_layPlaces 9 = .ok (.iload_n 3, 1) := by decide +kernel
theorem dX8_layPlaces_10 : decode cX8_layPlaces 10 = .ok (.ifCond .lt 33, 3) := by decide +kernel
theorem dX8_layPlaces_13 : decode cX8_layPlaces 13 = .ok (.aload_n 0, 1) := by decide +kernel
theorem dX8_layPlaces_14 : decode cX8_layPlaces 14 = .ok (.iload_n 3, 1) := by decide +kernel
theorem dX8_layPlaces_15 : decode cX8_layPlaces 15 = .ok (.invokevirtual 232, 3) := by decide +kernel
theorem dX8_layPlaces_18 : decode cX8_layPlaces 18 = .ok (.ifCond .eq 6, 3) := by decide +kernel
theorem dX8_layPlaces_21 : decode cX8_layPlaces 21 = .ok (.goto 16, 3) := by decide +kernel
theorem dX8_layPlaces_24 : decode cX8_layPlaces 24 = .ok (.aload_n 0, 1) := by decide +kernel
theorem dX8_layPlaces_25 : decode cX8_layPlaces 25 = .ok (.getfield 26, 3) := by decide +kernel
theorem dX8_layPlaces_28 : decode cX8_layPlaces 28 = .ok (.iload_n 3, 1) := by decide +kernel
theorem dX8_layPlaces_29 : decode cX8_layPlaces 29 = .ok (.iload_n 2, 1) := by decide +kernel
theorem dX8_layPlaces_30 : decode cX8_layPlaces 30 = .ok (.iconst 5, 1) := by decide +kernel
theorem dX8_layPlaces_31 : decode cX8_layPlaces 31 = .ok (.irem, 1) := by decide +kernel
theorem dX8_layPlaces_32 : decode cX8_layPlaces 32 = .ok (.iastore, 1) := by decide +kernel
theorem dX8_layPlaces_33 : decode cX8_layPlaces 33 = .ok (.iload_n 2, 1) := by decide +kernel
theorem dX8_layPlaces_34 : decode cX8_layPlaces 34 = .ok (.iconst 5, 1) := by decide +kernel
theorem dX8_layPlaces_35 : decode cX8_layPlaces 35 = .ok (.idiv, 1) := by decide +kernel
theorem dX8_layPlaces_36 : decode cX8_layPlaces 36 = .ok (.istore_n 2, 1) := by decide +kernel
theorem dX8_layPlaces_37 : decode cX8_layPlaces 37 = .ok (.iinc 3 (-1), 3) := by decide +kernel
theorem dX8_layPlaces_40 : decode cX8_layPlaces 40 = .ok (.goto (-31), 3) := by decide +kernel
theorem dX8_layPlaces_43 : decode cX8_layPlaces 43 = .ok (.iconst 0, 1) := by decide +kernel
theorem dX8_layPlaces_44 : decode cX8_layPlaces 44 = .ok (.istore_n 3, 1) := by decide +kernel
theorem dX8_layPlaces_45 : decode cX8_layPlaces 45 = .ok (.iload_n 3, 1) := by decide +kernel
theorem dX8_layPlaces_46 : decode cX8_layPlaces 46 = .ok (.iconst 5, 1) := by decide +kernel
theorem dX8_layPlaces_47 : decode cX8_layPlaces 47 = .ok (.if_icmp .ge 78, 3) := by decide +kernel
theorem dX8_layPlaces_50 : decode cX8_layPlaces 50 = .ok (.aload_n 0, 1) := by decide +kernel
theorem dX8_layPlaces_51 : decode cX8_layPlaces 51 = .ok (.getfield 87, 3) := by decide +kernel
theorem dX8_layPlaces_54 : decode cX8_layPlaces 54 = .ok (.iload_n 3, 1) := by decide +kernel
theorem dX8_layPlaces_55 : decode cX8_layPlaces 55 = .ok (.iconst 0, 1) := by decide +kernel
theorem dX8_layPlaces_56 : decode cX8_layPlaces 56 = .ok (.iastore, 1) := by decide +kernel
theorem dX8_layPlaces_57 : decode cX8_layPlaces 57 = .ok (.iconst 0, 1) := by decide +kernel
theorem dX8_layPlaces_58 : decode cX8_layPlaces 58 = .ok (.istore 4, 2) := by decide +kernel
theorem dX8_layPlaces_60 : decode cX8_layPlaces 60 = .ok (.iload 4, 2) := by decide +kernel
theorem dX8_layPlaces_62 : decode cX8_layPlaces 62 = .ok (.aload_n 0, 1) := by decide +kernel
theorem dX8_layPlaces_63 : decode cX8_layPlaces 63 = .ok (.getfield 7, 3) := by decide +kernel
theorem dX8_layPlaces_66 : decode cX8_layPlaces 66 = .ok (.if_icmp .ge 53, 3) := by decide +kernel
theorem dX8_layPlaces_69 : decode cX8_layPlaces 69 = .ok (.aload_n 0, 1) := by decide +kernel
theorem dX8_layPlaces_70 : decode cX8_layPlaces 70 = .ok (.getfield 87, 3) := by decide +kernel
theorem dX8_layPlaces_73 : decode cX8_layPlaces 73 = .ok (.iload_n 3, 1) := by decide +kernel
theorem dX8_layPlaces_74 : decode cX8_layPlaces 74 = .ok (.dup2, 1) := by decide +kernel
theorem dX8_layPlaces_75 : decode cX8_layPlaces 75 = .ok (.iaload, 1) := by decide +kernel
theorem dX8_layPlaces_76 : decode cX8_layPlaces 76 = .ok (.aload_n 0, 1) := by decide +kernel
theorem dX8_layPlaces_77 : decode cX8_layPlaces 77 = .ok (.iload 4, 2) := by decide +kernel
theorem dX8_layPlaces_79 : decode cX8_layPlaces 79 = .ok (.invokevirtual 232, 3) := by decide +kernel
theorem dX8_layPlaces_82 : decode cX8_layPlaces 82 = .ok (.ifCond .eq 7, 3) := by decide +kernel
theorem dX8_layPlaces_85 : decode cX8_layPlaces 85 = .ok (.iconst 0, 1) := by decide +kernel
theorem dX8_layPlaces_86 : decode cX8_layPlaces 86 = .ok (.goto 25, 3) := by decide +kernel
theorem dX8_layPlaces_89 : decode cX8_layPlaces 89 = .ok (.aload_n 0, 1) := by decide +kernel
theorem dX8_layPlaces_90 : decode cX8_layPlaces 90 = .ok (.getfield 99, 3) := by decide +kernel
theorem dX8_layPlaces_93 : decode cX8_layPlaces 93 = .ok (.bipush 25, 2) := by decide +kernel
theorem dX8_layPlaces_95 : decode cX8_layPlaces 95 = .ok (.iload 4, 2) := by decide +kernel
theorem dX8_layPlaces_97 : decode cX8_layPlaces 97 = .ok (.imul, 1) := by decide +kernel
theorem dX8_layPlaces_98 : decode cX8_layPlaces 98 = .ok (.iconst 5, 1) := by decide +kernel
theorem dX8_layPlaces_99 : decode cX8_layPlaces 99 = .ok (.aload_n 0, 1) := by decide +kernel
theorem dX8_layPlaces_100 : decode cX8_layPlaces 100 = .ok (.getfield 26, 3) := by decide +kernel
theorem dX8_layPlaces_103 : decode cX8_layPlaces 103 = .ok (.iload 4, 2) := by decide +kernel
theorem dX8_layPlaces_105 : decode cX8_layPlaces 105 = .ok (.iaload, 1) := by decide +kernel
theorem dX8_layPlaces_106 : decode cX8_layPlaces 106 = .ok (.imul, 1) := by decide +kernel
theorem dX8_layPlaces_107 : decode cX8_layPlaces 107 = .ok (.iadd, 1) := by decide +kernel
theorem dX8_layPlaces_108 : decode cX8_layPlaces 108 = .ok (.iload_n 3, 1) := by decide +kernel
theorem dX8_layPlaces_109 : decode cX8_layPlaces 109 = .ok (.iadd, 1) := by decide +kernel
theorem dX8_layPlaces_110 : decode cX8_layPlaces 110 = .ok (.iaload, 1) := by decide +kernel
theorem dX8_layPlaces_111 : decode cX8_layPlaces 111 = .ok (.iadd, 1) := by decide +kernel
theorem dX8_layPlaces_112 : decode cX8_layPlaces 112 = .ok (.iastore, 1) := by decide +kernel
theorem dX8_layPlaces_113 : decode cX8_layPlaces 113 = .ok (.iinc 4 1, 3) := by decide +kernel
theorem dX8_layPlaces_116 : decode cX8_layPlaces 116 = .ok (.goto (-56), 3) := by decide +kernel
theorem dX8_layPlaces_119 : decode cX8_layPlaces 119 = .ok (.iinc 3 1, 3) := by decide +kernel
theorem dX8_layPlaces_122 : decode cX8_layPlaces 122 = .ok (.goto (-77), 3) := by decide +kernel
theorem dX8_layPlaces_125 : decode cX8_layPlaces 125 = .ok (.return_, 1) := by decide +kernel
theorem dX8_sumLaid_0 : decode cX8_sumLaid 0 = .ok (.aload_n 0, 1) := by decide +kernel
theorem dX8_sumLaid_1 : decode cX8_sumLaid 1 = .ok (.getfield 87, 3) := by decide +kernel
theorem dX8_sumLaid_4 : decode cX8_sumLaid 4 = .ok (.iconst 0, 1) := by decide +kernel
theorem dX8_sumLaid_5 : decode cX8_sumLaid 5 = .ok (.iaload, 1) := by decide +kernel
theorem dX8_sumLaid_6 : decode cX8_sumLaid 6 = .ok (.aload_n 0, 1) := by decide +kernel
theorem dX8_sumLaid_7 : decode cX8_sumLaid 7 = .ok (.getfield 87, 3) := by decide +kernel
theorem dX8_sumLaid_10 : decode cX8_sumLaid 10 = .ok (.iconst 1, 1) := by decide +kernel
theorem dX8_sumLaid_11 : decode cX8_sumLaid 11 = .ok (.iaload, 1) := by decide +kernel
theorem dX8_sumLaid_12 : decode cX8_sumLaid 12 = .ok (.iadd, 1) := by decide +kernel
theorem dX8_sumLaid_13 : decode cX8_sumLaid 13 = .ok (.aload_n 0, 1) := by decide +kernel
theorem dX8_sumLaid_14 : decode cX8_sumLaid 14 = .ok (.getfield 87, 3) := by decide +kernel
theorem dX8_sumLaid_17 : decode cX8_sumLaid 17 = .ok (.iconst 2, 1) := by decide +kernel
theorem dX8_sumLaid_18 : decode cX8_sumLaid 18 = .ok (.iaload, 1) := by decide +kernel
theorem dX8_sumLaid_19 : decode cX8_sumLaid 19 = .ok (.iadd, 1) := by decide +kernel
theorem dX8_sumLaid_20 : decode cX8_sumLaid 20 = .ok (.aload_n 0, 1) := by decide +kernel
theorem dX8_sumLaid_21 : decode cX8_sumLaid 21 = .ok (.getfield 87, 3) := by decide +kernel
theorem dX8_sumLaid_24 : decode cX8_sumLaid 24 = .ok (.iconst 3, 1) := by decide +kernel
theorem dX8_sumLaid_25 : decode cX8_sumLaid 25 = .ok (.iaload, 1) := by decide +kernel
theorem dX8_sumLaid_26 : decode cX8_sumLaid 26 = .ok (.iadd, 1) := by decide +kernel
theorem dX8_sumLaid_27 : decode cX8_sumLaid 27 = .ok (.aload_n 0, 1) := by decide +kernel
theorem dX8_sumLaid_28 : decode cX8_sumLaid 28 = .ok (.getfield 87, 3) := by decide +kernel
theorem dX8_sumLaid_31 : decode cX8_sumLaid 31 = .ok (.iconst 4, 1) := by decide +kernel
theorem dX8_sumLaid_32 : decode cX8_sumLaid 32 = .ok (.iaload, 1) := by decide +kernel
theorem dX8_sumLaid_33 : decode cX8_sumLaid 33 = .ok (.iadd, 1) := by decide +kernel
theorem dX8_sumLaid_34 : decode cX8_sumLaid 34 = .ok (.ireturn, 1) := by decide +kernel
theorem dX8_layShared_0 : decode cX8_layShared 0 = .ok (.aload_n 0, 1) := by decide +kernel
theorem dX8_layShared_1 : decode cX8_layShared 1 = .ok (.invokevirtual 360, 3) := by decide +kernel
theorem dX8_layShared_4 : decode cX8_layShared 4 = .ok (.aload_n 0, 1) := by decide +kernel
theorem dX8_layShared_5 : decode cX8_layShared 5 = .ok (.invokevirtual 353, 3) := by decide +kernel
theorem dX8_layShared_8 : decode cX8_layShared 8 = .ok (.iconst 1, 1) := by decide +kernel
theorem dX8_layShared_9 : decode cX8_layShared 9 = .ok (.istore_n 1, 1) := by decide +kernel
theorem dX8_layShared_10 : decode cX8_layShared 10 = .ok (.iconst 0, 1) := by decide +kernel
theorem dX8_layShared_11 : decode cX8_layShared 11 = .ok (.istore_n 2, 1) := by decide +kernel
theorem dX8_layShared_12 : decode cX8_layShared 12 = .ok (.iload_n 2, 1) := by decide +kernel
theorem dX8_layShared_13 : decode cX8_layShared 13 = .ok (.aload_n 0, 1) := by decide +kernel
theorem dX8_layShared_14 : decode cX8_layShared 14 = .ok (.getfield 7, 3) := by decide +kernel
theorem dX8_layShared_17 : decode cX8_layShared 17 = .ok (.if_icmp .ge 25, 3) := by decide +kernel
theorem dX8_layShared_20 : decode cX8_layShared 20 = .ok (.iload_n 1, 1) := by decide +kernel
theorem dX8_layShared_21 : decode cX8_layShared 21 = .ok (.aload_n 0, 1) := by decide +kernel
theorem dX8_layShared_22 : decode cX8_layShared 22 = .ok (.iload_n 2, 1) := by decide +kernel
theorem dX8_layShared_23 : decode cX8_layShared 23 = .ok (.invokevirtual 232, 3) := by decide +kernel
theorem dX8_layShared_26 : decode cX8_layShared 26 = .ok (.ifCond .eq 7, 3) := by decide +kernel
theorem dX8_layShared_29 : decode cX8_layShared 29 = .ok (.iconst 1, 1) := by decide +kernel
theorem dX8_layShared_30 : decode cX8_layShared 30 = .ok (.goto 4, 3) := by decide +kernel
theorem dX8_layShared_33 : decode cX8_layShared 33 = .ok (.iconst 5, 1) := by decide +kernel
theorem dX8_layShared_34 : decode cX8_layShared 34 = .ok (.imul, 1) := by decide +kernel
theorem dX8_layShared_35 : decode cX8_layShared 35 = .ok (.istore_n 1, 1) := by decide +kernel
theorem dX8_layShared_36 : decode cX8_layShared 36 = .ok (.iinc 2 1, 3) := by decide +kernel
theorem dX8_layShared_39 : decode cX8_layShared 39 = .ok (.goto (-27), 3) := by decide +kernel
theorem dX8_layShared_42 : decode cX8_layShared 42 = .ok (.aload_n 0, 1) := by decide +kernel
theorem dX8_layShared_43 : decode cX8_layShared 43 = .ok (.ldc_w 359, 3) := by decide +kernel
theorem dX8_layShared_46 : decode cX8_layShared 46 = .ok (.putfield 105, 3) := by decide +kernel
theorem dX8_layShared_49 : decode cX8_layShared 49 = .ok (.aload_n 0, 1) := by decide +kernel
theorem dX8_layShared_50 : decode cX8_layShared 50 = .ok (.iconst 0, 1) := by decide +kernel
theorem dX8_layShared_51 : decode cX8_layShared 51 = .ok (.putfield 108, 3) := by decide +kernel
theorem dX8_layShared_54 : decode cX8_layShared 54 = .ok (.iconst 0, 1) := by decide +kernel
theorem dX8_layShared_55 : decode cX8_layShared 55 = .ok (.istore_n 2, 1) := by decide +kernel
theorem dX8_layShared_56 : decode cX8_layShared 56 = .ok (.iload_n 2, 1) := by decide +kernel
theorem dX8_layShared_57 : decode cX8_layShared 57 = .ok (.iload_n 1, 1) := by decide +kernel
theorem dX8_layShared_58 : decode cX8_layShared 58 = .ok (.if_icmp .ge 94, 3) := by decide +kernel
theorem dX8_layShared_61 : decode cX8_layShared 61 = .ok (.aload_n 0, 1) := by decide +kernel
theorem dX8_layShared_62 : decode cX8_layShared 62 = .ok (.iload_n 2, 1) := by decide +kernel
theorem dX8_layShared_63 : decode cX8_layShared 63 = .ok (.invokevirtual 363, 3) := by decide +kernel
theorem dX8_layShared_66 : decode cX8_layShared 66 = .ok (.aload_n 0, 1) := by decide +kernel
theorem dX8_layShared_67 : decode cX8_layShared 67 = .ok (.invokevirtual 323, 3) := by decide +kernel
theorem dX8_layShared_70 : decode cX8_layShared 70 = .ok (.istore_n 3, 1) := by decide +kernel
theorem dX8_layShared_71 : decode cX8_layShared 71 = .ok (.aload_n 0, 1) := by decide +kernel
theorem dX8_layShared_72 : decode cX8_layShared 72 = .ok (.invokevirtual 366, 3) := by decide +kernel
theorem dX8_layShared_75 : decode cX8_layShared 75 = .ok (.istore 4, 2) := by decide +kernel
theorem dX8_layShared_77 : decode cX8_layShared 77 = .ok (.iload_n 3, 1) := by decide +kernel
theorem dX8_layShared_78 : decode cX8_layShared 78 = .ok (.aload_n 0, 1) := by decide +kernel
theorem dX8_layShared_79 : decode cX8_layShared 79 = .ok (.getfield 105, 3) := by decide +kernel
theorem dX8_layShared_82 : decode cX8_layShared 82 = .ok (.if_icmp .gt 64, 3) := by decide +kernel
theorem dX8_layShared_85 : decode cX8_layShared 85 = .ok (.iload_n 3, 1) := by decide +kernel
theorem dX8_layShared_86 : decode cX8_layShared 86 = .ok (.aload_n 0, 1) := by decide +kernel
theorem dX8_layShared_87 : decode cX8_layShared 87 = .ok (.getfield 105, 3) := by decide +kernel
theorem dX8_layShared_90 : decode cX8_layShared 90 = .ok (.if_icmp .ne 15, 3) := by decide +kernel
theorem dX8_layShared_93 : decode cX8_layShared 93 = .ok (.iload 4, 2) := by decide +kernel
theorem dX8_layShared_95 : decode cX8_layShared 95 = .ok (.aload_n 0, 1) := by decide +kernel
theorem dX8_layShared_96 : decode cX8_layShared 96 = .ok (.getfield 108, 3) := by decide +kernel
theorem dX8_layShared_99 : decode cX8_layShared 99 = .ok (.if_icmp .lt 6, 3) := by decide +kernel
theorem dX8_layShared_102 : decode cX8_layShared 102 = .ok (.goto 44, 3) := by decide +kernel
theorem dX8_layShared_105 : decode cX8_layShared 105 = .ok (.aload_n 0, 1) := by decide +kernel
theorem dX8_layShared_106 : decode cX8_layShared 106 = .ok (.iload_n 3, 1) := by decide +kernel
theorem dX8_layShared_107 : decode cX8_layShared 107 = .ok (.putfield 105, 3) := by decide +kernel
theorem dX8_layShared_110 : decode cX8_layShared 110 = .ok (.aload_n 0, 1) := by decide +kernel
theorem dX8_layShared_111 : decode cX8_layShared 111 = .ok (.iload 4, 2) := by decide +kernel
theorem dX8_layShared_113 : decode cX8_layShared 113 = .ok (.putfield 108, 3) := by decide +kernel
theorem dX8_layShared_116 : decode cX8_layShared 116 = .ok (.iconst 0, 1) := by decide +kernel
theorem dX8_layShared_117 : decode cX8_layShared 117 = .ok (.istore 5, 2) := by decide +kernel
theorem dX8_layShared_119 : decode cX8_layShared 119 = .ok (.iload 5, 2) := by decide +kernel
theorem dX8_layShared_121 : decode cX8_layShared 121 = .ok (.bipush 6, 2) := by decide +kernel
theorem dX8_layShared_123 : decode cX8_layShared 123 = .ok (.if_icmp .ge 23, 3) := by decide +kernel
theorem dX8_layShared_126 : decode cX8_layShared 126 = .ok (.aload_n 0, 1) := by decide +kernel
theorem dX8_layShared_127 : decode cX8_layShared 127 = .ok (.getfield 102, 3) := by decide +kernel
theorem dX8_layShared_130 : decode cX8_layShared 130 = .ok (.iload 5, 2) := by decide +kernel
theorem dX8_layShared_132 : decode cX8_layShared 132 = .ok (.aload_n 0, 1) := by decide +kernel
theorem dX8_layShared_133 : decode cX8_layShared 133 = .ok (.getfield 26, 3) := by decide +kernel
theorem dX8_layShared_136 : decode cX8_layShared 136 = .ok (.iload 5, 2) := by decide +kernel
theorem dX8_layShared_138 : decode cX8_layShared 138 = .ok (.iaload, 1) := by decide +kernel
theorem dX8_layShared_139 : decode cX8_layShared 139 = .ok (.iastore, 1) := by decide +kernel
theorem dX8_layShared_140 : decode cX8_layShared 140 = .ok (.iinc 5 1, 3) := by decide +kernel
theorem dX8_layShared_143 : decode cX8_layShared 143 = .ok (.goto (-24), 3) := by decide +kernel
theorem dX8_layShared_146 : decode cX8_layShared 146 = .ok (.iinc 2 1, 3) := by decide +kernel
theorem dX8_layShared_149 : decode cX8_layShared 149 = .ok (.goto (-93), 3) := by decide +kernel
theorem dX8_layShared_152 : decode cX8_layShared 152 = .ok (.aload_n 0, 1) := by decide +kernel
theorem dX8_layShared_153 : decode cX8_layShared 153 = .ok (.invokevirtual 356, 3) := by decide +kernel
theorem dX8_layShared_156 : decode cX8_layShared 156 = .ok (.return_, 1) := by decide +kernel
theorem dX8_shared_0 : decode cX8_shared 0 = .ok (.aload_n 0, 1) := by decide +kernel
theorem dX8_shared_1 : decode cX8_shared 1 = .ok (.iload_n 1, 1) := by decide +kernel
theorem dX8_shared_2 : decode cX8_shared 2 = .ok (.iconst 0, 1) := by decide +kernel
theorem dX8_shared_3 : decode cX8_shared 3 = .ok (.iconst 1, 1) := by decide +kernel
theorem dX8_shared_4 : decode cX8_shared 4 = .ok (.invokevirtual 218, 3) := by decide +kernel
theorem dX8_shared_7 : decode cX8_shared 7 = .ok (.ifCond .ne 22, 3) := by decide +kernel
theorem dX8_shared_10 : decode cX8_shared 10 = .ok (.aload_n 0, 1) := by decide +kernel
theorem dX8_shared_11 : decode cX8_shared 11 = .ok (.iload_n 1, 1) := by decide +kernel
theorem dX8_shared_12 : decode cX8_shared 12 = .ok (.bipush 10, 2) := by decide +kernel
theorem dX8_shared_14 : decode cX8_shared 14 = .ok (.bipush 9, 2) := by decide +kernel
theorem dX8_shared_16 : decode cX8_shared 16 = .ok (.aload_n 0, 1) := by decide +kernel
theorem dX8_shared_17 : decode cX8_shared 17 = .ok (.getfield 7, 3) := by decide +kernel
theorem dX8_shared_20 : decode cX8_shared 20 = .ok (.iadd, 1) := by decide +kernel
theorem dX8_shared_21 : decode cX8_shared 21 = .ok (.invokevirtual 218, 3) := by decide +kernel
theorem dX8_shared_24 : decode cX8_shared 24 = .ok (.ifCond .ne 5, 3) := by decide +kernel
theorem dX8_shared_27 : decode cX8_shared 27 = .ok (.iconst (-1), 1) := by decide +kernel
theorem dX8_shared_28 : decode cX8_shared 28 = .ok (.ireturn, 1) := by decide +kernel
theorem dX8_shared_29 : decode cX8_shared 29 = .ok (.aload_n 0, 1) := by decide +kernel
theorem dX8_shared_30 : decode cX8_shared 30 = .ok (.invokevirtual 369, 3) := by decide +kernel
theorem dX8_shared_33 : decode cX8_shared 33 = .ok (.iload_n 1, 1) := by decide +kernel
theorem dX8_shared_34 : decode cX8_shared 34 = .ok (.ifCond .ne 10, 3) := by decide +kernel
theorem dX8_shared_37 : decode cX8_shared 37 = .ok (.aload_n 0, 1) := by decide +kernel
theorem dX8_shared_38 : decode cX8_shared 38 = .ok (.getfield 105, 3) := by decide +kernel
theorem dX8_shared_41 : decode cX8_shared 41 = .ok (.goto 24, 3) := by decide +kernel
theorem dX8_shared_44 : decode cX8_shared 44 = .ok (.iload_n 1, 1) := by decide +kernel
theorem dX8_shared_45 : decode cX8_shared 45 = .ok (.iconst 1, 1) := by decide +kernel
theorem dX8_shared_46 : decode cX8_shared 46 = .ok (.if_icmp .ne 10, 3) := by decide +kernel
theorem dX8_shared_49 : decode cX8_shared 49 = .ok (.aload_n 0, 1) := by decide +kernel
theorem dX8_shared_50 : decode cX8_shared 50 = .ok (.getfield 108, 3) := by decide +kernel
theorem dX8_shared_53 : decode cX8_shared 53 = .ok (.goto 12, 3) := by decide +kernel
theorem dX8_shared_56 : decode cX8_shared 56 = .ok (.aload_n 0, 1) := by decide +kernel
theorem dX8_shared_57 : decode cX8_shared 57 = .ok (.getfield 102, 3) := by decide +kernel
theorem dX8_shared_60 : decode cX8_shared 60 = .ok (.iload_n 1, 1) := by decide +kernel
theorem dX8_shared_61 : decode cX8_shared 61 = .ok (.bipush 10, 2) := by decide +kernel
theorem dX8_shared_63 : decode cX8_shared 63 = .ok (.isub, 1) := by decide +kernel
theorem dX8_shared_64 : decode cX8_shared 64 = .ok (.iaload, 1) := by decide +kernel
theorem dX8_shared_65 : decode cX8_shared 65 = .ok (.ireturn, 1) := by decide +kernel
theorem dX8_swaps_0 : decode cX8_swaps 0 = .ok (.aload_n 0, 1) := by decide +kernel
theorem dX8_swaps_1 : decode cX8_swaps 1 = .ok (.getfield 26, 3) := by decide +kernel
theorem dX8_swaps_4 : decode cX8_swaps 4 = .ok (.iload_n 1, 1) := by decide +kernel
theorem dX8_swaps_5 : decode cX8_swaps 5 = .ok (.iaload, 1) := by decide +kernel
theorem dX8_swaps_6 : decode cX8_swaps 6 = .ok (.istore_n 3, 1) := by decide +kernel
theorem dX8_swaps_7 : decode cX8_swaps 7 = .ok (.aload_n 0, 1) := by decide +kernel
theorem dX8_swaps_8 : decode cX8_swaps 8 = .ok (.getfield 26, 3) := by decide +kernel
theorem dX8_swaps_11 : decode cX8_swaps 11 = .ok (.iload_n 1, 1) := by decide +kernel
theorem dX8_swaps_12 : decode cX8_swaps 12 = .ok (.aload_n 0, 1) := by decide +kernel
theorem dX8_swaps_13 : decode cX8_swaps 13 = .ok (.getfield 26, 3) := by decide +kernel
theorem dX8_swaps_16 : decode cX8_swaps 16 = .ok (.iload_n 2, 1) := by decide +kernel
theorem dX8_swaps_17 : decode cX8_swaps 17 = .ok (.iaload, 1) := by decide +kernel
theorem dX8_swaps_18 : decode cX8_swaps 18 = .ok (.iastore, 1) := by decide +kernel
theorem dX8_swaps_19 : decode cX8_swaps 19 = .ok (.aload_n 0, 1) := by decide +kernel
theorem dX8_swaps_20 : decode cX8_swaps 20 = .ok (.getfield 26, 3) := by decide +kernel
theorem dX8_swaps_23 : decode cX8_swaps 23 = .ok (.iload_n 2, 1) := by decide +kernel
theorem dX8_swaps_24 : decode cX8_swaps 24 = .ok (.iload_n 3, 1) := by decide +kernel
theorem dX8_swaps_25 : decode cX8_swaps 25 = .ok (.iastore, 1) := by decide +kernel
theorem dX8_swaps_26 : decode cX8_swaps 26 = .ok (.return_, 1) := by decide +kernel
theorem dX8_changeOf_0 : decode cX8_changeOf 0 = .ok (.bipush (-5), 2) := by decide +kernel
theorem dX8_changeOf_2 : decode cX8_changeOf 2 = .ok (.istore_n 1, 1) := by decide +kernel
theorem dX8_changeOf_3 : decode cX8_changeOf 3 = .ok (.aload_n 0, 1) := by decide +kernel
theorem dX8_changeOf_4 : decode cX8_changeOf 4 = .ok (.invokevirtual 338, 3) := by decide +kernel
theorem dX8_changeOf_7 : decode cX8_changeOf 7 = .ok (.istore_n 2, 1) := by decide +kernel
theorem dX8_changeOf_8 : decode cX8_changeOf 8 = .ok (.iconst 0, 1) := by decide +kernel
theorem dX8_changeOf_9 : decode cX8_changeOf 9 = .ok (.istore_n 3, 1) := by decide +kernel
theorem dX8_changeOf_10 : decode cX8_changeOf 10 = .ok (.iload_n 3, 1) := by decide +kernel
theorem dX8_changeOf_11 : decode cX8_changeOf 11 = .ok (.aload_n 0, 1) := by decide +kernel
theorem dX8_changeOf_12 : decode cX8_changeOf 12 = .ok (.getfield 7, 3) := by decide +kernel
theorem dX8_changeOf_15 : decode cX8_changeOf 15 = .ok (.if_icmp .ge 89, 3) := by decide +kernel
theorem dX8_changeOf_18 : decode cX8_changeOf 18 = .ok (.iload_n 3, 1) := by decide +kernel
theorem dX8_changeOf_19 : decode cX8_changeOf 19 = .ok (.iconst 1, 1) := by decide +kernel
theorem dX8_changeOf_20 : decode cX8_changeOf 20 = .ok (.iadd, 1) := by decide +kernel
theorem dX8_changeOf_21 : decode cX8_changeOf 21 = .ok (.istore 4, 2) := by decide +kernel
theorem dX8_changeOf_23 : decode cX8_changeOf 23 = .ok (.iload 4, 2) := by decide +kernel
theorem dX8_changeOf_25 : decode cX8_changeOf 25 = .ok (.aload_n 0, 1) := by decide +kernel
theorem dX8_changeOf_26 : decode cX8_changeOf 26 = .ok (.getfield 7, 3) := by decide +kernel
theorem dX8_changeOf_29 : decode cX8_changeOf 29 = .ok (.if_icmp .ge 69, 3) := by decide +kernel
theorem dX8_changeOf_32 : decode cX8_changeOf 32 = .ok (.aload_n 0, 1) := by decide +kernel
theorem dX8_changeOf_33 : decode cX8_changeOf 33 = .ok (.iload_n 3, 1) := by decide +kernel
theorem dX8_changeOf_34 : decode cX8_changeOf 34 = .ok (.invokevirtual 232, 3) := by decide +kernel
theorem dX8_changeOf_37 : decode cX8_changeOf 37 = .ok (.ifCond .ne 55, 3) := by decide +kernel
theorem dX8_changeOf_40 : decode cX8_changeOf 40 = .ok (.aload_n 0, 1) := by decide +kernel
theorem dX8_changeOf_41 : decode cX8_changeOf 41 = .ok (.iload 4, 2) := by decide +kernel
theorem dX8_changeOf_43 : decode cX8_changeOf 43 = .ok (.invokevirtual 232, 3) := by decide +kernel
theorem dX8_changeOf_46 : decode cX8_changeOf 46 = .ok (.ifCond .eq 6, 3) := by decide +kernel
theorem dX8_changeOf_49 : decode cX8_changeOf 49 = .ok (.goto 43, 3) := by decide +kernel
theorem dX8_changeOf_52 : decode cX8_changeOf 52 = .ok (.aload_n 0, 1) := by decide +kernel
theorem dX8_changeOf_53 : decode cX8_changeOf 53 = .ok (.iload_n 3, 1) := by decide +kernel
theorem dX8_changeOf_54 : decode cX8_changeOf 54 = .ok (.iload 4, 2) := by decide +kernel
theorem dX8_changeOf_56 : decode cX8_changeOf 56 = .ok (.invokevirtual 372, 3) := by decide +kernel
theorem dX8_changeOf_59 : decode cX8_changeOf 59 = .ok (.aload_n 0, 1) := by decide +kernel
theorem dX8_changeOf_60 : decode cX8_changeOf 60 = .ok (.invokevirtual 338, 3) := by decide +kernel
theorem dX8_changeOf_63 : decode cX8_changeOf 63 = .ok (.istore 5, 2) := by decide +kernel
theorem dX8_changeOf_65 : decode cX8_changeOf 65 = .ok (.aload_n 0, 1) := by decide +kernel
theorem dX8_changeOf_66 : decode cX8_changeOf 66 = .ok (.iload_n 3, 1) := by decide +kernel
theorem dX8_changeOf_67 : decode cX8_changeOf 67 = .ok (.iload 4, 2) := by decide +kernel
theorem dX8_changeOf_69 : decode cX8_changeOf 69 = .ok (.invokevirtual 372, 3) := by decide +kernel
theorem dX8_changeOf_72 : decode cX8_changeOf 72 = .ok (.iload 5, 2) := by decide +kernel
theorem dX8_changeOf_74 : decode cX8_changeOf 74 = .ok (.iload_n 2, 1) := by decide +kernel
theorem dX8_changeOf_75 : decode cX8_changeOf 75 = .ok (.if_icmp .lt 6, 3) := by decide +kernel
theorem dX8_changeOf_78 : decode cX8_changeOf 78 = .ok (.goto 14, 3) := by decide +kernel
theorem dX8_changeOf_81 : decode cX8_changeOf 81 = .ok (.bipush 10, 2) := by decide +kernel
theorem dX8_changeOf_83 : decode cX8_changeOf 83 = .ok (.iload_n 3, 1) := by decide +kernel
theorem dX8_changeOf_84 : decode cX8_changeOf 84 = .ok (.imul, 1) := by decide +kernel
theorem dX8_changeOf_85 : decode cX8_changeOf 85 = .ok (.iload 4, 2) := by decide +kernel
theorem dX8_changeOf_87 : decode cX8_changeOf 87 = .ok (.iadd, 1) := by decide +kernel
theorem dX8_changeOf_88 : decode cX8_changeOf 88 = .ok (.istore_n 1, 1) := by decide +kernel
theorem dX8_changeOf_89 : decode cX8_changeOf 89 = .ok (.iload 5, 2) := by decide +kernel
theorem dX8_changeOf_91 : decode cX8_changeOf 91 = .ok (.istore_n 2, 1) := by decide +kernel
theorem dX8_changeOf_92 : decode cX8_changeOf 92 = .ok (.iinc 4 1, 3) := by decide +kernel
theorem dX8_changeOf_95 : decode cX8_changeOf 95 = .ok (.goto (-72), 3) := by decide +kernel
theorem dX8_changeOf_98 : decode cX8_changeOf 98 = .ok (.iinc 3 1, 3) := by decide +kernel
theorem dX8_changeOf_101 : decode cX8_changeOf 101 = .ok (.goto (-91), 3) := by decide +kernel
theorem dX8_changeOf_104 : decode cX8_changeOf 104 = .ok (.iload_n 1, 1) := by decide +kernel
theorem dX8_changeOf_105 : decode cX8_changeOf 105 = .ok (.ireturn, 1) := by decide +kernel
theorem dX8_greatestWithout_0 : decode cX8_greatestWithout 0 = .ok (.aload_n 0, 1) := by decide +kernel
theorem dX8_greatestWithout_1 : decode cX8_greatestWithout 1 = .ok (.getfield 26, 3) := by decide +kernel
theorem dX8_greatestWithout_4 : decode cX8_greatestWithout 4 = .ok (.iload_n 1, 1) := by decide +kernel
theorem dX8_greatestWithout_5 : decode cX8_greatestWithout 5 = .ok (.iaload, 1) := by decide +kernel
theorem dX8_greatestWithout_6 : decode cX8_greatestWithout 6 = .ok (.istore_n 2, 1) := by decide +kernel
theorem dX8_greatestWithout_7 : decode cX8_greatestWithout 7 = .ok (.aload_n 0, 1) := by decide +kernel
theorem dX8_greatestWithout_8 : decode cX8_greatestWithout 8 = .ok (.getfield 26, 3) := by decide +kernel
theorem dX8_greatestWithout_11 : decode cX8_greatestWithout 11 = .ok (.iload_n 1, 1) := by decide +kernel
theorem dX8_greatestWithout_12 : decode cX8_greatestWithout 12 = .ok (.bipush (-5), 2) := by decide +kernel
theorem dX8_greatestWithout_14 : decode cX8_greatestWithout 14 = .ok (.iastore, 1) := by decide +kernel
theorem dX8_greatestWithout_15 : decode cX8_greatestWithout 15 = .ok (.aload_n 0, 1) := by decide +kernel
theorem dX8_greatestWithout_16 : decode cX8_greatestWithout 16 = .ok (.invokevirtual 338, 3) := by decide +kernel
theorem dX8_greatestWithout_19 : decode cX8_greatestWithout 19 = .ok (.istore_n 3, 1) := by decide +kernel
theorem dX8_greatestWithout_20 : decode cX8_greatestWithout 20 = .ok (.aload_n 0, 1) := by decide +kernel
theorem dX8_greatestWithout_21 : decode cX8_greatestWithout 21 = .ok (.getfield 26, 3) := by decide +kernel
theorem dX8_greatestWithout_24 : decode cX8_greatestWithout 24 = .ok (.iload_n 1, 1) := by decide +kernel
theorem dX8_greatestWithout_25 : decode cX8_greatestWithout 25 = .ok (.iload_n 2, 1) := by decide +kernel
theorem dX8_greatestWithout_26 : decode cX8_greatestWithout 26 = .ok (.iastore, 1) := by decide +kernel
theorem dX8_greatestWithout_27 : decode cX8_greatestWithout 27 = .ok (.iload_n 3, 1) := by decide +kernel
theorem dX8_greatestWithout_28 : decode cX8_greatestWithout 28 = .ok (.ireturn, 1) := by decide +kernel
theorem dX8_worstOf_0 : decode cX8_worstOf 0 = .ok (.bipush (-5), 2) := by decide +kernel
theorem dX8_worstOf_2 : decode cX8_worstOf 2 = .ok (.istore_n 1, 1) := by decide +kernel
theorem dX8_worstOf_3 : decode cX8_worstOf 3 = .ok (.iconst 0, 1) := by decide +kernel
theorem dX8_worstOf_4 : decode cX8_worstOf 4 = .ok (.istore_n 2, 1) := by decide +kernel
theorem dX8_worstOf_5 : decode cX8_worstOf 5 = .ok (.iconst 0, 1) := by decide +kernel
theorem dX8_worstOf_6 : decode cX8_worstOf 6 = .ok (.istore_n 3, 1) := by decide +kernel
theorem dX8_worstOf_7 : decode cX8_worstOf 7 = .ok (.iload_n 3, 1) := by decide +kernel
theorem dX8_worstOf_8 : decode cX8_worstOf 8 = .ok (.aload_n 0, 1) := by decide +kernel
theorem dX8_worstOf_9 : decode cX8_worstOf 9 = .ok (.getfield 7, 3) := by decide +kernel
theorem dX8_worstOf_12 : decode cX8_worstOf 12 = .ok (.if_icmp .ge 34, 3) := by decide +kernel
theorem dX8_worstOf_15 : decode cX8_worstOf 15 = .ok (.aload_n 0, 1) := by decide +kernel
theorem dX8_worstOf_16 : decode cX8_worstOf 16 = .ok (.iload_n 3, 1) := by decide +kernel
theorem dX8_worstOf_17 : decode cX8_worstOf 17 = .ok (.invokevirtual 376, 3) := by decide +kernel
theorem dX8_worstOf_20 : decode cX8_worstOf 20 = .ok (.istore 4, 2) := by decide +kernel
theorem dX8_worstOf_22 : decode cX8_worstOf 22 = .ok (.iload_n 1, 1) := by decide +kernel
theorem dX8_worstOf_23 : decode cX8_worstOf 23 = .ok (.ifCond .lt 12, 3) := by decide +kernel
theorem dX8_worstOf_26 : decode cX8_worstOf 26 = .ok (.iload 4, 2) := by decide +kernel
theorem dX8_worstOf_28 : decode cX8_worstOf 28 = .ok (.iload_n 2, 1) := by decide +kernel
theorem dX8_worstOf_29 : decode cX8_worstOf 29 = .ok (.if_icmp .lt 6, 3) := by decide +kernel
theorem dX8_worstOf_32 : decode cX8_worstOf 32 = .ok (.goto 8, 3) := by decide +kernel
theorem dX8_worstOf_35 : decode cX8_worstOf 35 = .ok (.iload_n 3, 1) := by decide +kernel
theorem dX8_worstOf_36 : decode cX8_worstOf 36 = .ok (.istore_n 1, 1) := by decide +kernel
theorem dX8_worstOf_37 : decode cX8_worstOf 37 = .ok (.iload 4, 2) := by decide +kernel
theorem dX8_worstOf_39 : decode cX8_worstOf 39 = .ok (.istore_n 2, 1) := by decide +kernel
theorem dX8_worstOf_40 : decode cX8_worstOf 40 = .ok (.iinc 3 1, 3) := by decide +kernel
theorem dX8_worstOf_43 : decode cX8_worstOf 43 = .ok (.goto (-36), 3) := by decide +kernel
theorem dX8_worstOf_46 : decode cX8_worstOf 46 = .ok (.iload_n 1, 1) := by decide +kernel
theorem dX8_worstOf_47 : decode cX8_worstOf 47 = .ok (.ireturn, 1) := by decide +kernel
theorem dX8_best_0 : decode cX8_best 0 = .ok (.iload_n 1, 1) := by decide +kernel
theorem dX8_best_1 : decode cX8_best 1 = .ok (.ifCond .ne 10, 3) := by decide +kernel
theorem dX8_best_4 : decode cX8_best 4 = .ok (.aload_n 0, 1) := by decide +kernel
theorem dX8_best_5 : decode cX8_best 5 = .ok (.invokevirtual 379, 3) := by decide +kernel
theorem dX8_best_8 : decode cX8_best 8 = .ok (.goto 16, 3) := by decide +kernel
theorem dX8_best_11 : decode cX8_best 11 = .ok (.iload_n 1, 1) := by decide +kernel
theorem dX8_best_12 : decode cX8_best 12 = .ok (.iconst 1, 1) := by decide +kernel
theorem dX8_best_13 : decode cX8_best 13 = .ok (.if_icmp .ne 10, 3) := by decide +kernel
theorem dX8_best_16 : decode cX8_best 16 = .ok (.aload_n 0, 1) := by decide +kernel
theorem dX8_best_17 : decode cX8_best 17 = .ok (.invokevirtual 382, 3) := by decide +kernel
theorem dX8_best_20 : decode cX8_best 20 = .ok (.goto 4, 3) := by decide +kernel
theorem dX8_best_23 : decode cX8_best 23 = .ok (.iconst (-1), 1) := by decide +kernel
theorem dX8_best_24 : decode cX8_best 24 = .ok (.ireturn, 1) := by decide +kernel
theorem dX8_stepOf_0 : decode cX8_stepOf 0 = .ok (.iconst 1, 1) := by decide +kernel
theorem dX8_stepOf_1 : decode cX8_stepOf 1 = .ok (.istore 4, 2) := by decide +kernel
theorem dX8_stepOf_3 : decode cX8_stepOf 3 = .ok (.iload_n 3, 1) := by decide +kernel
theorem dX8_stepOf_4 : decode cX8_stepOf 4 = .ok (.iconst 1, 1) := by decide +kernel
theorem dX8_stepOf_5 : decode cX8_stepOf 5 = .ok (.iadd, 1) := by decide +kernel
theorem dX8_stepOf_6 : decode cX8_stepOf 6 = .ok (.istore 5, 2) := by decide +kernel
theorem dX8_stepOf_8 : decode cX8_stepOf 8 = .ok (.iload 5, 2) := by decide +kernel
theorem dX8_stepOf_10 : decode cX8_stepOf 10 = .ok (.iload_n 2, 1) := by decide +kernel
theorem dX8_stepOf_11 : decode cX8_stepOf 11 = .ok (.if_icmp .ge 16, 3) := by decide +kernel
theorem dX8_stepOf_14 : decode cX8_stepOf 14 = .ok (.iload 4, 2) := by decide +kernel
theorem dX8_stepOf_16 : decode cX8_stepOf 16 = .ok (.bipush 30, 2) := by decide +kernel
theorem dX8_stepOf_18 : decode cX8_stepOf 18 = .ok (.imul, 1) := by decide +kernel
theorem dX8_stepOf_19 : decode cX8_stepOf 19 = .ok (.istore 4, 2) := by decide +kernel
theorem dX8_stepOf_21 : decode cX8_stepOf 21 = .ok (.iinc 5 1, 3) := by decide +kernel
theorem dX8_stepOf_24 : decode cX8_stepOf 24 = .ok (.goto (-16), 3) := by decide +kernel
theorem dX8_stepOf_27 : decode cX8_stepOf 27 = .ok (.iload_n 1, 1) := by decide +kernel
theorem dX8_stepOf_28 : decode cX8_stepOf 28 = .ok (.iload 4, 2) := by decide +kernel
theorem dX8_stepOf_30 : decode cX8_stepOf 30 = .ok (.idiv, 1) := by decide +kernel
theorem dX8_stepOf_31 : decode cX8_stepOf 31 = .ok (.bipush 30, 2) := by decide +kernel
theorem dX8_stepOf_33 : decode cX8_stepOf 33 = .ok (.irem, 1) := by decide +kernel
theorem dX8_stepOf_34 : decode cX8_stepOf 34 = .ok (.ireturn, 1) := by decide +kernel
theorem dX8_isStillBy_0 : decode cX8_isStillBy 0 = .ok (.aload_n 0, 1) := by decide +kernel
theorem dX8_isStillBy_1 : decode cX8_isStillBy 1 = .ok (.invokevirtual 353, 3) := by decide +kernel
theorem dX8_isStillBy_4 : decode cX8_isStillBy 4 = .ok (.iconst 1, 1) := by decide +kernel
theorem dX8_isStillBy_5 : decode cX8_isStillBy 5 = .ok (.istore_n 3, 1) := by decide +kernel
theorem dX8_isStillBy_6 : decode cX8_isStillBy 6 = .ok (.iconst 0, 1) := by decide +kernel
theorem dX8_isStillBy_7 : decode cX8_isStillBy 7 = .ok (.istore 4, 2) := by decide +kernel
theorem dX8_isStillBy_9 : decode cX8_isStillBy 9 = .ok (.iload 4, 2) := by decide +kernel
theorem dX8_isStillBy_11 : decode cX8_isStillBy 11 = .ok (.iload_n 2, 1) := by decide +kernel
theorem dX8_isStillBy_12 : decode cX8_isStillBy 12 = .ok (.if_icmp .ge 91, 3) := by decide +kernel
theorem dX8_isStillBy_15 : decode cX8_isStillBy 15 = .ok (.iload_n 3, 1) := by decide +kernel
theorem dX8_isStillBy_16 : decode cX8_isStillBy 16 = .ok (.ifCond .eq 87, 3) := by decide +kernel
theorem dX8_isStillBy_19 : decode cX8_isStillBy 19 = .ok (.aload_n 0, 1) := by decide +kernel
theorem dX8_isStillBy_20 : decode cX8_isStillBy 20 = .ok (.iload_n 1, 1) := by decide +kernel
theorem dX8_isStillBy_21 : decode cX8_isStillBy 21 = .ok (.iload_n 2, 1) := by decide +kernel
theorem dX8_isStillBy_22 : decode cX8_isStillBy 22 = .ok (.iload 4, 2) := by decide +kernel
theorem dX8_isStillBy_24 : decode cX8_isStillBy 24 = .ok (.invokevirtual 385, 3) := by decide +kernel
theorem dX8_isStillBy_27 : decode cX8_isStillBy 27 = .ok (.iconst 5, 1) := by decide +kernel
theorem dX8_isStillBy_28 : decode cX8_isStillBy 28 = .ok (.idiv, 1) := by decide +kernel
theorem dX8_isStillBy_29 : decode cX8_isStillBy 29 = .ok (.istore 5, 2) := by decide +kernel
theorem dX8_isStillBy_31 : decode cX8_isStillBy 31 = .ok (.aload_n 0, 1) := by decide +kernel
theorem dX8_isStillBy_32 : decode cX8_isStillBy 32 = .ok (.iload_n 1, 1) := by decide +kernel
theorem dX8_isStillBy_33 : decode cX8_isStillBy 33 = .ok (.iload_n 2, 1) := by decide +kernel
theorem dX8_isStillBy_34 : decode cX8_isStillBy 34 = .ok (.iload 4, 2) := by decide +kernel
theorem dX8_isStillBy_36 : decode cX8_isStillBy 36 = .ok (.invokevirtual 385, 3) := by decide +kernel
theorem dX8_isStillBy_39 : decode cX8_isStillBy 39 = .ok (.iconst 5, 1) := by decide +kernel
theorem dX8_isStillBy_40 : decode cX8_isStillBy 40 = .ok (.irem, 1) := by decide +kernel
theorem dX8_isStillBy_41 : decode cX8_isStillBy 41 = .ok (.istore 6, 2) := by decide +kernel
theorem dX8_isStillBy_43 : decode cX8_isStillBy 43 = .ok (.aload_n 0, 1) := by decide +kernel
theorem dX8_isStillBy_44 : decode cX8_isStillBy 44 = .ok (.iload 5, 2) := by decide +kernel
theorem dX8_isStillBy_46 : decode cX8_isStillBy 46 = .ok (.invokevirtual 229, 3) := by decide +kernel
theorem dX8_isStillBy_49 : decode cX8_isStillBy 49 = .ok (.ifCond .eq 33, 3) := by decide +kernel
theorem dX8_isStillBy_52 : decode cX8_isStillBy 52 = .ok (.aload_n 0, 1) := by decide +kernel
theorem dX8_isStillBy_53 : decode cX8_isStillBy 53 = .ok (.iload 5, 2) := by decide +kernel
theorem dX8_isStillBy_55 : decode cX8_isStillBy 55 = .ok (.invokevirtual 232, 3) := by decide +kernel
theorem dX8_isStillBy_58 : decode cX8_isStillBy 58 = .ok (.ifCond .ne 24, 3) := by decide +kernel
theorem dX8_isStillBy_61 : decode cX8_isStillBy 61 = .ok (.aload_n 0, 1) := by decide +kernel
theorem dX8_isStillBy_62 : decode cX8_isStillBy 62 = .ok (.aload_n 0, 1) := by decide +kernel
theorem dX8_isStillBy_63 : decode cX8_isStillBy 63 = .ok (.getfield 26, 3) := by decide +kernel
theorem dX8_isStillBy_66 : decode cX8_isStillBy 66 = .ok (.iload 5, 2) := by decide +kernel
theorem dX8_isStillBy_68 : decode cX8_isStillBy 68 = .ok (.iaload, 1) := by decide +kernel
theorem dX8_isStillBy_69 : decode cX8_isStillBy 69 = .ok (.iload 6, 2) := by decide +kernel
theorem dX8_isStillBy_71 : decode cX8_isStillBy 71 = .ok (.invokevirtual 235, 3) := by decide +kernel
theorem dX8_isStillBy_74 : decode cX8_isStillBy 74 = .ok (.iconst 1, 1) := by decide +kernel
theorem dX8_isStillBy_75 : decode cX8_isStillBy 75 = .ok (.if_icmp .ne 7, 3) := by decide +kernel
theorem dX8_isStillBy_78 : decode cX8_isStillBy 78 = .ok (.iconst 1, 1) := by decide +kernel
theorem dX8_isStillBy_79 : decode cX8_isStillBy 79 = .ok (.goto 4, 3) := by decide +kernel
theorem dX8_isStillBy_82 : decode cX8_isStillBy 82 = .ok (.iconst 0, 1) := by decide +kernel
theorem dX8_isStillBy_83 : decode cX8_isStillBy 83 = .ok (.istore_n 3, 1) := by decide +kernel
theorem dX8_isStillBy_84 : decode cX8_isStillBy 84 = .ok (.iload_n 3, 1) := by decide +kernel
theorem dX8_isStillBy_85 : decode cX8_isStillBy 85 = .ok (.ifCond .eq 12, 3) := by decide +kernel
theorem dX8_isStillBy_88 : decode cX8_isStillBy 88 = .ok (.aload_n 0, 1) := by decide +kernel
theorem dX8_isStillBy_89 : decode cX8_isStillBy 89 = .ok (.getfield 26, 3) := by decide +kernel
theorem dX8_isStillBy_92 : decode cX8_isStillBy 92 = .ok (.iload 5, 2) := by decide +kernel
theorem dX8_isStillBy_94 : decode cX8_isStillBy 94 = .ok (.iload 6, 2) := by decide +kernel
theorem dX8_isStillBy_96 : decode cX8_isStillBy 96 = .ok (.iastore, 1) := by decide +kernel
theorem dX8_isStillBy_97 : decode cX8_isStillBy 97 = .ok (.iinc 4 1, 3) := by decide +kernel
theorem dX8_isStillBy_100 : decode cX8_isStillBy 100 = .ok (.goto (-91), 3) := by decide +kernel
theorem dX8_isStillBy_103 : decode cX8_isStillBy 103 = .ok (.iload_n 3, 1) := by decide +kernel
theorem dX8_isStillBy_104 : decode cX8_isStillBy 104 = .ok (.ifCond .eq 16, 3) := by decide +kernel
theorem dX8_isStillBy_107 : decode cX8_isStillBy 107 = .ok (.aload_n 0, 1) := by decide +kernel
theorem dX8_isStillBy_108 : decode cX8_isStillBy 108 = .ok (.invokevirtual 341, 3) := by decide +kernel
theorem dX8_isStillBy_111 : decode cX8_isStillBy 111 = .ok (.bipush 31, 2) := by decide +kernel
theorem dX8_isStillBy_113 : decode cX8_isStillBy 113 = .ok (.if_icmp .ne 7, 3) := by decide +kernel
theorem dX8_isStillBy_116 : decode cX8_isStillBy 116 = .ok (.iconst 1, 1) := by decide +kernel
theorem dX8_isStillBy_117 : decode cX8_isStillBy 117 = .ok (.goto 4, 3) := by decide +kernel
theorem dX8_isStillBy_120 : decode cX8_isStillBy 120 = .ok (.iconst 0, 1) := by decide +kernel
theorem dX8_isStillBy_121 : decode cX8_isStillBy 121 = .ok (.istore_n 3, 1) := by decide +kernel
theorem dX8_isStillBy_122 : decode cX8_isStillBy 122 = .ok (.aload_n 0, 1) := by decide +kernel
theorem dX8_isStillBy_123 : decode cX8_isStillBy 123 = .ok (.invokevirtual 356, 3) := by decide +kernel
theorem dX8_isStillBy_126 : decode cX8_isStillBy 126 = .ok (.iload_n 3, 1) := by decide +kernel
theorem dX8_isStillBy_127 : decode cX8_isStillBy 127 = .ok (.ireturn, 1) := by decide +kernel
theorem dX8_fewest_0 : decode cX8_fewest 0 = .ok (.aload_n 0, 1) := by decide +kernel
theorem dX8_fewest_1 : decode cX8_fewest 1 = .ok (.iload_n 1, 1) := by decide +kernel
theorem dX8_fewest_2 : decode cX8_fewest 2 = .ok (.iconst (-1), 1) := by decide +kernel
theorem dX8_fewest_3 : decode cX8_fewest 3 = .ok (.iconst 2, 1) := by decide +kernel
theorem dX8_fewest_4 : decode cX8_fewest 4 = .ok (.invokevirtual 218, 3) := by decide +kernel
theorem dX8_fewest_7 : decode cX8_fewest 7 = .ok (.ifCond .ne 5, 3) := by decide +kernel
theorem dX8_fewest_10 : decode cX8_fewest 10 = .ok (.iconst (-1), 1) := by decide +kernel
theorem dX8_fewest_11 : decode cX8_fewest 11 = .ok (.ireturn, 1) := by decide +kernel
theorem dX8_fewest_12 : decode cX8_fewest 12 = .ok (.iconst 1, 1) := by decide +kernel
theorem dX8_fewest_13 : decode cX8_fewest 13 = .ok (.istore_n 2, 1) := by decide +kernel
theorem dX8_fewest_14 : decode cX8_fewest 14 = .ok (.iconst 0, 1) := by decide +kernel
theorem dX8_fewest_15 : decode cX8_fewest 15 = .ok (.istore_n 3, 1) := by decide +kernel
theorem dX8_fewest_16 : decode cX8_fewest 16 = .ok (.iload_n 3, 1) := by decide +kernel
theorem dX8_fewest_17 : decode cX8_fewest 17 = .ok (.iconst 4, 1) := by decide +kernel
theorem dX8_fewest_18 : decode cX8_fewest 18 = .ok (.if_icmp .ge 83, 3) := by decide +kernel
theorem dX8_fewest_21 : decode cX8_fewest 21 = .ok (.iconst 0, 1) := by decide +kernel
theorem dX8_fewest_22 : decode cX8_fewest 22 = .ok (.istore 4, 2) := by decide +kernel
theorem dX8_fewest_24 : decode cX8_fewest 24 = .ok (.iload 4, 2) := by decide +kernel
theorem dX8_fewest_26 : decode cX8_fewest 26 = .ok (.iload_n 2, 1) := by decide +kernel
theorem dX8_fewest_27 : decode cX8_fewest 27 = .ok (.if_icmp .ge 63, 3) := by decide +kernel
theorem dX8_fewest_30 : decode cX8_fewest 30 = .ok (.aload_n 0, 1) := by decide +kernel
theorem dX8_fewest_31 : decode cX8_fewest 31 = .ok (.iload 4, 2) := by decide +kernel
theorem dX8_fewest_33 : decode cX8_fewest 33 = .ok (.iload_n 3, 1) := by decide +kernel
theorem dX8_fewest_34 : decode cX8_fewest 34 = .ok (.invokevirtual 388, 3) := by decide +kernel
theorem dX8_fewest_37 : decode cX8_fewest 37 = .ok (.ifCond .ne 6, 3) := by decide +kernel
theorem dX8_fewest_40 : decode cX8_fewest 40 = .ok (.goto 44, 3) := by decide +kernel
theorem dX8_fewest_43 : decode cX8_fewest 43 = .ok (.iload_n 1, 1) := by decide +kernel
theorem dX8_fewest_44 : decode cX8_fewest 44 = .ok (.ifCond .ge 5, 3) := by decide +kernel
theorem dX8_fewest_47 : decode cX8_fewest 47 = .ok (.iload_n 3, 1) := by decide +kernel
theorem dX8_fewest_48 : decode cX8_fewest 48 = .ok (.ireturn, 1) := by decide +kernel
theorem dX8_fewest_49 : decode cX8_fewest 49 = .ok (.iload_n 1, 1) := by decide +kernel
theorem dX8_fewest_50 : decode cX8_fewest 50 = .ok (.iload_n 3, 1) := by decide +kernel
theorem dX8_fewest_51 : decode cX8_fewest 51 = .ok (.if_icmp .ge 30, 3) := by decide +kernel
theorem dX8_fewest_54 : decode cX8_fewest 54 = .ok (.bipush 10, 2) := by decide +kernel
theorem dX8_fewest_56 : decode cX8_fewest 56 = .ok (.aload_n 0, 1) := by decide +kernel
theorem dX8_fewest_57 : decode cX8_fewest 57 = .ok (.iload 4, 2) := by decide +kernel
theorem dX8_fewest_59 : decode cX8_fewest 59 = .ok (.iload_n 3, 1) := by decide +kernel
theorem dX8_fewest_60 : decode cX8_fewest 60 = .ok (.iload_n 1, 1) := by decide +kernel
theorem dX8_fewest_61 : decode cX8_fewest 61 = .ok (.invokevirtual 385, 3) := by decide +kernel
theorem dX8_fewest_64 : decode cX8_fewest 64 = .ok (.iconst 5, 1) := by decide +kernel
theorem dX8_fewest_65 : decode cX8_fewest 65 = .ok (.idiv, 1) := by decide +kernel
theorem dX8_fewest_66 : decode cX8_fewest 66 = .ok (.imul, 1) := by decide +kernel
theorem dX8_fewest_67 : decode cX8_fewest 67 = .ok (.aload_n 0, 1) := by decide +kernel
theorem dX8_fewest_68 : decode cX8_fewest 68 = .ok (.iload 4, 2) := by decide +kernel
theorem dX8_fewest_70 : decode cX8_fewest 70 = .ok (.iload_n 3, 1) := by decide +kernel
theorem dX8_fewest_71 : decode cX8_fewest 71 = .ok (.iload_n 1, 1) := by decide +kernel
theorem dX8_fewest_72 : decode cX8_fewest 72 = .ok (.invokevirtual 385, 3) := by decide +kernel
theorem dX8_fewest_75 : decode cX8_fewest 75 = .ok (.iconst 5, 1) := by decide +kernel
theorem dX8_fewest_76 : decode cX8_fewest 76 = .ok (.irem, 1) := by decide +kernel
theorem dX8_fewest_77 : decode cX8_fewest 77 = .ok (.iadd, 1) := by decide +kernel
theorem dX8_fewest_78 : decode cX8_fewest 78 = .ok (.goto 5, 3) := by decide +kernel
theorem dX8_fewest_81 : decode cX8_fewest 81 = .ok (.bipush (-5), 2) := by decide +kernel
theorem dX8_fewest_83 : decode cX8_fewest 83 = .ok (.ireturn, 1) := by decide +kernel
theorem dX8_fewest_84 : decode cX8_fewest 84 = .ok (.iinc 4 1, 3) := by decide +kernel
theorem dX8_fewest_87 : decode cX8_fewest 87 = .ok (.goto (-63), 3) := by decide +kernel
theorem dX8_fewest_90 : decode cX8_fewest 90 = .ok (.iload_n 2, 1) := by decide +kernel
theorem dX8_fewest_91 : decode cX8_fewest 91 = .ok (.bipush 30, 2) := by decide +kernel
theorem dX8_fewest_93 : decode cX8_fewest 93 = .ok (.imul, 1) := by decide +kernel
theorem dX8_fewest_94 : decode cX8_fewest 94 = .ok (.istore_n 2, 1) := by decide +kernel
theorem dX8_fewest_95 : decode cX8_fewest 95 = .ok (.iinc 3 1, 3) := by decide +kernel
theorem dX8_fewest_98 : decode cX8_fewest 98 = .ok (.goto (-82), 3) := by decide +kernel
theorem dX8_fewest_101 : decode cX8_fewest 101 = .ok (.bipush (-5), 2) := by decide +kernel
theorem dX8_fewest_103 : decode cX8_fewest 103 = .ok (.ireturn, 1) := by decide +kernel
theorem dX8_see_0 : decode cX8_see 0 = .ok (.iload_n 1, 1) := by decide +kernel
theorem dX8_see_1 : decode cX8_see 1 = .ok (.iconst (-1), 1) := by decide +kernel
theorem dX8_see_2 : decode cX8_see 2 = .ok (.if_icmp .ne 10, 3) := by decide +kernel
theorem dX8_see_5 : decode cX8_see 5 = .ok (.aload_n 0, 1) := by decide +kernel
theorem dX8_see_6 : decode cX8_see 6 = .ok (.iconst 0, 1) := by decide +kernel
theorem dX8_see_7 : decode cX8_see 7 = .ok (.putfield 111, 3) := by decide +kernel
theorem dX8_see_10 : decode cX8_see 10 = .ok (.iconst 0, 1) := by decide +kernel
theorem dX8_see_11 : decode cX8_see 11 = .ok (.ireturn, 1) := by decide +kernel
theorem dX8_see_12 : decode cX8_see 12 = .ok (.aload_n 0, 1) := by decide +kernel
theorem dX8_see_13 : decode cX8_see 13 = .ok (.iload_n 1, 1) := by decide +kernel
theorem dX8_see_14 : decode cX8_see 14 = .ok (.invokevirtual 222, 3) := by decide +kernel
theorem dX8_see_17 : decode cX8_see 17 = .ok (.ifCond .ne 5, 3) := by decide +kernel
theorem dX8_see_20 : decode cX8_see 20 = .ok (.iconst (-1), 1) := by decide +kernel
theorem dX8_see_21 : decode cX8_see 21 = .ok (.ireturn, 1) := by decide +kernel
theorem dX8_see_22 : decode cX8_see 22 = .ok (.aload_n 0, 1) := by decide +kernel
theorem dX8_see_23 : decode cX8_see 23 = .ok (.iload_n 2, 1) := by decide +kernel
theorem dX8_see_24 : decode cX8_see 24 = .ok (.iconst 0, 1) := by decide +kernel
theorem dX8_see_25 : decode cX8_see 25 = .ok (.sipush 999, 3) := by decide +kernel
theorem dX8_see_28 : decode cX8_see 28 = .ok (.invokevirtual 218, 3) := by decide +kernel
theorem dX8_see_31 : decode cX8_see 31 = .ok (.ifCond .eq 14, 3) := by decide +kernel
theorem dX8_see_34 : decode cX8_see 34 = .ok (.aload_n 0, 1) := by decide +kernel
theorem dX8_see_35 : decode cX8_see 35 = .ok (.iload_n 3, 1) := by decide +kernel
theorem dX8_see_36 : decode cX8_see 36 = .ok (.iconst 0, 1) := by decide +kernel
theorem dX8_see_37 : decode cX8_see 37 = .ok (.bipush 20, 2) := by decide +kernel
theorem dX8_see_39 : decode cX8_see 39 = .ok (.invokevirtual 218, 3) := by decide +kernel
theorem dX8_see_42 : decode cX8_see 42 = .ok (.ifCond .ne 6, 3) := by decide +kernel
theorem dX8_see_45 : decode cX8_see 45 = .ok (.bipush (-2), 2) := by decide +kernel
theorem dX8_see_47 : decode cX8_see 47 = .ok (.ireturn, 1) := by decide +kernel
theorem dX8_see_48 : decode cX8_see 48 = .ok (.aload_n 0, 1) := by decide +kernel
theorem dX8_see_49 : decode cX8_see 49 = .ok (.getfield 111, 3) := by decide +kernel
theorem dX8_see_52 : decode cX8_see 52 = .ok (.iconst 5, 1) := by decide +kernel
theorem dX8_see_53 : decode cX8_see 53 = .ok (.if_icmp .ne 6, 3) := by decide +kernel
theorem dX8_see_56 : decode cX8_see 56 = .ok (.bipush (-4), 2) := by decide +kernel
theorem dX8_see_58 : decode cX8_see 58 = .ok (.ireturn, 1) := by decide +kernel
theorem dX8_see_59 : decode cX8_see 59 = .ok (.aload_n 0, 1) := by decide +kernel
theorem dX8_see_60 : decode cX8_see 60 = .ok (.getfield 114, 3) := by decide +kernel
theorem dX8_see_63 : decode cX8_see 63 = .ok (.aload_n 0, 1) := by decide +kernel
theorem dX8_see_64 : decode cX8_see 64 = .ok (.getfield 111, 3) := by decide +kernel
theorem dX8_see_67 : decode cX8_see 67 = .ok (.iload_n 1, 1) := by decide +kernel
theorem dX8_see_68 : decode cX8_see 68 = .ok (.iastore, 1) := by decide +kernel
theorem dX8_see_69 : decode cX8_see 69 = .ok (.aload_n 0, 1) := by decide +kernel
theorem dX8_see_70 : decode cX8_see 70 = .ok (.getfield 117, 3) := by decide +kernel
theorem dX8_see_73 : decode cX8_see 73 = .ok (.aload_n 0, 1) := by decide +kernel
theorem dX8_see_74 : decode cX8_see 74 = .ok (.getfield 111, 3) := by decide +kernel
theorem dX8_see_77 : decode cX8_see 77 = .ok (.iload_n 2, 1) := by decide +kernel
theorem dX8_see_78 : decode cX8_see 78 = .ok (.iastore, 1) := by decide +kernel
theorem dX8_see_79 : decode cX8_see 79 = .ok (.aload_n 0, 1) := by decide +kernel
theorem dX8_see_80 : decode cX8_see 80 = .ok (.getfield 120, 3) := by decide +kernel
theorem dX8_see_83 : decode cX8_see 83 = .ok (.aload_n 0, 1) := by decide +kernel
theorem dX8_see_84 : decode cX8_see 84 = .ok (.getfield 111, 3) := by decide +kernel
theorem dX8_see_87 : decode cX8_see 87 = .ok (.iload_n 3, 1) := by decide +kernel
theorem dX8_see_88 : decode cX8_see 88 = .ok (.iastore, 1) := by decide +kernel
theorem dX8_see_89 : decode cX8_see 89 = .ok (.aload_n 0, 1) := by decide +kernel
theorem dX8_see_90 : decode cX8_see 90 = .ok (.dup, 1) := by decide +kernel
theorem dX8_see_91 : decode cX8_see 91 = .ok (.getfield 111, 3) := by decide +kernel
theorem dX8_see_94 : decode cX8_see 94 = .ok (.iconst 1, 1) := by decide +kernel
theorem dX8_see_95 : decode cX8_see 95 = .ok (.iadd, 1) := by decide +kernel
theorem dX8_see_96 : decode cX8_see 96 = .ok (.putfield 111, 3) := by decide +kernel
theorem dX8_see_99 : decode cX8_see 99 = .ok (.aload_n 0, 1) := by decide +kernel
theorem dX8_see_100 : decode cX8_see 100 = .ok (.getfield 111, 3) := by decide +kernel
theorem dX8_see_103 : decode cX8_see 103 = .ok (.ireturn, 1) := by decide +kernel
theorem dX8_isSeen_0 : decode cX8_isSeen 0 = .ok (.iconst 1, 1) := by decide +kernel
theorem dX8_isSeen_1 : decode cX8_isSeen 1 = .ok (.istore_n 1, 1) := by decide +kernel
theorem dX8_isSeen_2 : decode cX8_isSeen 2 = .ok (.iconst 0, 1) := by decide +kernel
theorem dX8_isSeen_3 : decode cX8_isSeen 3 = .ok (.istore_n 2, 1) := by decide +kernel
theorem dX8_isSeen_4 : decode cX8_isSeen 4 = .ok (.iload_n 2, 1) := by decide +kernel
theorem dX8_isSeen_5 : decode cX8_isSeen 5 = .ok (.aload_n 0, 1) := by decide +kernel
theorem dX8_isSeen_6 : decode cX8_isSeen 6 = .ok (.getfield 111, 3) := by decide +kernel
theorem dX8_isSeen_9 : decode cX8_isSeen 9 = .ok (.if_icmp .ge 56, 3) := by decide +kernel
theorem dX8_isSeen_12 : decode cX8_isSeen 12 = .ok (.iload_n 1, 1) := by decide +kernel
theorem dX8_isSeen_13 : decode cX8_isSeen 13 = .ok (.ifCond .eq 52, 3) := by decide +kernel
theorem dX8_isSeen_16 : decode cX8_isSeen 16 = .ok (.aload_n 0, 1) := by decide +kernel
theorem dX8_isSeen_17 : decode cX8_isSeen 17 = .ok (.invokevirtual 353, 3) := by decide +kernel
theorem dX8_isSeen_20 : decode cX8_isSeen 20 = .ok (.aload_n 0, 1) := by decide +kernel
theorem dX8_isSeen_21 : decode cX8_isSeen 21 = .ok (.aload_n 0, 1) := by decide +kernel
theorem dX8_isSeen_22 : decode cX8_isSeen 22 = .ok (.getfield 120, 3) := by decide +kernel
theorem dX8_isSeen_25 : decode cX8_isSeen 25 = .ok (.iload_n 2, 1) := by decide +kernel
theorem dX8_isSeen_26 : decode cX8_isSeen 26 = .ok (.iaload, 1) := by decide +kernel
theorem dX8_isSeen_27 : decode cX8_isSeen 27 = .ok (.invokevirtual 350, 3) := by decide +kernel
theorem dX8_isSeen_30 : decode cX8_isSeen 30 = .ok (.aload_n 0, 1) := by decide +kernel
theorem dX8_isSeen_31 : decode cX8_isSeen 31 = .ok (.aload_n 0, 1) := by decide +kernel
theorem dX8_isSeen_32 : decode cX8_isSeen 32 = .ok (.getfield 114, 3) := by decide +kernel
theorem dX8_isSeen_35 : decode cX8_isSeen 35 = .ok (.iload_n 2, 1) := by decide +kernel
theorem dX8_isSeen_36 : decode cX8_isSeen 36 = .ok (.iaload, 1) := by decide +kernel
theorem dX8_isSeen_37 : decode cX8_isSeen 37 = .ok (.invokevirtual 239, 3) := by decide +kernel
theorem dX8_isSeen_40 : decode cX8_isSeen 40 = .ok (.aload_n 0, 1) := by decide +kernel
theorem dX8_isSeen_41 : decode cX8_isSeen 41 = .ok (.getfield 117, 3) := by decide +kernel
theorem dX8_isSeen_44 : decode cX8_isSeen 44 = .ok (.iload_n 2, 1) := by decide +kernel
theorem dX8_isSeen_45 : decode cX8_isSeen 45 = .ok (.iaload, 1) := by decide +kernel
theorem dX8_isSeen_46 : decode cX8_isSeen 46 = .ok (.if_icmp .ne 7, 3) := by decide +kernel
theorem dX8_isSeen_49 : decode cX8_isSeen 49 = .ok (.iconst 1, 1) := by decide +kernel
theorem dX8_isSeen_50 : decode cX8_isSeen 50 = .ok (.goto 4, 3) := by decide +kernel
theorem dX8_isSeen_53 : decode cX8_isSeen 53 = .ok (.iconst 0, 1) := by decide +kernel
theorem dX8_isSeen_54 : decode cX8_isSeen 54 = .ok (.istore_n 1, 1) := by decide +kernel
theorem dX8_isSeen_55 : decode cX8_isSeen 55 = .ok (.aload_n 0, 1) := by decide +kernel
theorem dX8_isSeen_56 : decode cX8_isSeen 56 = .ok (.invokevirtual 356, 3) := by decide +kernel
theorem dX8_isSeen_59 : decode cX8_isSeen 59 = .ok (.iinc 2 1, 3) := by decide +kernel
theorem dX8_isSeen_62 : decode cX8_isSeen 62 = .ok (.goto (-58), 3) := by decide +kernel
theorem dX8_isSeen_65 : decode cX8_isSeen 65 = .ok (.iload_n 1, 1) := by decide +kernel
theorem dX8_isSeen_66 : decode cX8_isSeen 66 = .ok (.ireturn, 1) := by decide +kernel
theorem dX8_louds_0 : decode cX8_louds 0 = .ok (.aload_n 0, 1) := by decide +kernel
theorem dX8_louds_1 : decode cX8_louds 1 = .ok (.iload_n 1, 1) := by decide +kernel
theorem dX8_louds_2 : decode cX8_louds 2 = .ok (.invokevirtual 229, 3) := by decide +kernel
theorem dX8_louds_5 : decode cX8_louds 5 = .ok (.ifCond .eq 13, 3) := by decide +kernel
theorem dX8_louds_8 : decode cX8_louds 8 = .ok (.aload_n 0, 1) := by decide +kernel
theorem dX8_louds_9 : decode cX8_louds 9 = .ok (.iload_n 2, 1) := by decide +kernel
theorem dX8_louds_10 : decode cX8_louds 10 = .ok (.iconst 0, 1) := by decide +kernel
theorem dX8_louds_11 : decode cX8_louds 11 = .ok (.iconst 1, 1) := by decide +kernel
theorem dX8_louds_12 : decode cX8_louds 12 = .ok (.invokevirtual 218, 3) := by decide +kernel
theorem dX8_louds_15 : decode cX8_louds 15 = .ok (.ifCond .ne 5, 3) := by decide +kernel
theorem dX8_louds_18 : decode cX8_louds 18 = .ok (.iconst (-1), 1) := by decide +kernel
theorem dX8_louds_19 : decode cX8_louds 19 = .ok (.ireturn, 1) := by decide +kernel
theorem dX8_louds_20 : decode cX8_louds 20 = .ok (.aload_n 0, 1) := by decide +kernel
theorem dX8_louds_21 : decode cX8_louds 21 = .ok (.getfield 23, 3) := by decide +kernel
theorem dX8_louds_24 : decode cX8_louds 24 = .ok (.iload_n 1, 1) := by decide +kernel
theorem dX8_louds_25 : decode cX8_louds 25 = .ok (.iaload, 1) := by decide +kernel
theorem dX8_louds_26 : decode cX8_louds 26 = .ok (.istore_n 3, 1) := by decide +kernel
theorem dX8_louds_27 : decode cX8_louds 27 = .ok (.iconst 0, 1) := by decide +kernel
theorem dX8_louds_28 : decode cX8_louds 28 = .ok (.istore 4, 2) := by decide +kernel
theorem dX8_louds_30 : decode cX8_louds 30 = .ok (.bipush (-5), 2) := by decide +kernel
theorem dX8_louds_32 : decode cX8_louds 32 = .ok (.istore 5, 2) := by decide +kernel
theorem dX8_louds_34 : decode cX8_louds 34 = .ok (.bipush 40, 2) := by decide +kernel
theorem dX8_louds_36 : decode cX8_louds 36 = .ok (.istore 6, 2) := by decide +kernel
theorem dX8_louds_38 : decode cX8_louds 38 = .ok (.iload 6, 2) := by decide +kernel
theorem dX8_louds_40 : decode cX8_louds 40 = .ok (.ifCond .lt 34, 3) := by decide +kernel
theorem dX8_louds_43 : decode cX8_louds 43 = .ok (.aload_n 0, 1) := by decide +kernel
theorem dX8_louds_44 : decode cX8_louds 44 = .ok (.getfield 23, 3) := by decide +kernel
theorem dX8_louds_47 : decode cX8_louds 47 = .ok (.iload_n 1, 1) := by decide +kernel
theorem dX8_louds_48 : decode cX8_louds 48 = .ok (.iload 6, 2) := by decide +kernel
theorem dX8_louds_50 : decode cX8_louds 50 = .ok (.iastore, 1) := by decide +kernel
theorem dX8_louds_51 : decode cX8_louds 51 = .ok (.aload_n 0, 1) := by decide +kernel
theorem dX8_louds_52 : decode cX8_louds 52 = .ok (.invokevirtual 391, 3) := by decide +kernel
theorem dX8_louds_55 : decode cX8_louds 55 = .ok (.ifCond .ne 6, 3) := by decide +kernel
theorem dX8_louds_58 : decode cX8_louds 58 = .ok (.goto 10, 3) := by decide +kernel
theorem dX8_louds_61 : decode cX8_louds 61 = .ok (.iinc 4 1, 3) := by decide +kernel
theorem dX8_louds_64 : decode cX8_louds 64 = .ok (.iload 6, 2) := by decide +kernel
theorem dX8_louds_66 : decode cX8_louds 66 = .ok (.istore 5, 2) := by decide +kernel
theorem dX8_louds_68 : decode cX8_louds 68 = .ok (.iinc 6 (-1), 3) := by decide +kernel
theorem dX8_louds_71 : decode cX8_louds 71 = .ok (.goto (-33), 3) := by decide +kernel
theorem dX8_louds_74 : decode cX8_louds 74 = .ok (.aload_n 0, 1) := by decide +kernel
theorem dX8_louds_75 : decode cX8_louds 75 = .ok (.getfield 23, 3) := by decide +kernel
theorem dX8_louds_78 : decode cX8_louds 78 = .ok (.iload_n 1, 1) := by decide +kernel
theorem dX8_louds_79 : decode cX8_louds 79 = .ok (.iload_n 3, 1) := by decide +kernel
theorem dX8_louds_80 : decode cX8_louds 80 = .ok (.iastore, 1) := by decide +kernel
theorem dX8_louds_81 : decode cX8_louds 81 = .ok (.iload_n 2, 1) := by decide +kernel
theorem dX8_louds_82 : decode cX8_louds 82 = .ok (.ifCond .ne 8, 3) := by decide +kernel
theorem dX8_louds_85 : decode cX8_louds 85 = .ok (.iload 4, 2) := by decide +kernel
theorem dX8_louds_87 : decode cX8_louds 87 = .ok (.goto 5, 3) := by decide +kernel
theorem dX8_louds_90 : decode cX8_louds 90 = .ok (.iload 5, 2) := by decide +kernel
theorem dX8_louds_92 : decode cX8_louds 92 = .ok (.ireturn, 1) := by decide +kernel
theorem dX8_can_0 : decode cX8_can 0 = .ok (.aload_n 0, 1) := by decide +kernel
theorem dX8_can_1 : decode cX8_can 1 = .ok (.iload_n 1, 1) := by decide +kernel
theorem dX8_can_2 : decode cX8_can 2 = .ok (.invokevirtual 229, 3) := by decide +kernel
theorem dX8_can_5 : decode cX8_can 5 = .ok (.ifCond .eq 13, 3) := by decide +kernel
theorem dX8_can_8 : decode cX8_can 8 = .ok (.aload_n 0, 1) := by decide +kernel
theorem dX8_can_9 : decode cX8_can 9 = .ok (.iload_n 2, 1) := by decide +kernel
theorem dX8_can_10 : decode cX8_can 10 = .ok (.iconst 0, 1) := by decide +kernel
theorem dX8_can_11 : decode cX8_can 11 = .ok (.iconst 1, 1) := by decide +kernel
theorem dX8_can_12 : decode cX8_can 12 = .ok (.invokevirtual 218, 3) := by decide +kernel
theorem dX8_can_15 : decode cX8_can 15 = .ok (.ifCond .ne 5, 3) := by decide +kernel
theorem dX8_can_18 : decode cX8_can 18 = .ok (.iconst (-1), 1) := by decide +kernel
theorem dX8_can_19 : decode cX8_can 19 = .ok (.ireturn, 1) := by decide +kernel
theorem dX8_can_20 : decode cX8_can 20 = .ok (.aload_n 0, 1) := by decide +kernel
theorem dX8_can_21 : decode cX8_can 21 = .ok (.getfield 20, 3) := by decide +kernel
theorem dX8_can_24 : decode cX8_can 24 = .ok (.iload_n 1, 1) := by decide +kernel
theorem dX8_can_25 : decode cX8_can 25 = .ok (.iaload, 1) := by decide +kernel
theorem dX8_can_26 : decode cX8_can 26 = .ok (.istore_n 3, 1) := by decide +kernel
theorem dX8_can_27 : decode cX8_can 27 = .ok (.iconst 0, 1) := by decide +kernel
theorem dX8_can_28 : decode cX8_can 28 = .ok (.istore 4, 2) := by decide +kernel
theorem dX8_can_30 : decode cX8_can 30 = .ok (.bipush (-5), 2) := by decide +kernel
theorem dX8_can_32 : decode cX8_can 32 = .ok (.istore 5, 2) := by decide +kernel
theorem dX8_can_34 : decode cX8_can 34 = .ok (.bipush 9, 2) := by decide +kernel
theorem dX8_can_36 : decode cX8_can 36 = .ok (.istore 6, 2) := by decide +kernel
theorem dX8_can_38 : decode cX8_can 38 = .ok (.iload 6, 2) := by decide +kernel
theorem dX8_can_40 : decode cX8_can 40 = .ok (.ifCond .lt 34, 3) := by decide +kernel
theorem dX8_can_43 : decode cX8_can 43 = .ok (.aload_n 0, 1) := by decide +kernel
theorem dX8_can_44 : decode cX8_can 44 = .ok (.getfield 20, 3) := by decide +kernel
theorem dX8_can_47 : decode cX8_can 47 = .ok (.iload_n 1, 1) := by decide +kernel
theorem dX8_can_48 : decode cX8_can 48 = .ok (.iload 6, 2) := by decide +kernel
theorem dX8_can_50 : decode cX8_can 50 = .ok (.iastore, 1) := by decide +kernel
theorem dX8_can_51 : decode cX8_can 51 = .ok (.aload_n 0, 1) := by decide +kernel
theorem dX8_can_52 : decode cX8_can 52 = .ok (.invokevirtual 391, 3) := by decide +kernel
theorem dX8_can_55 : decode cX8_can 55 = .ok (.ifCond .ne 6, 3) := by decide +kernel
theorem dX8_can_58 : decode cX8_can 58 = .ok (.goto 10, 3) := by decide +kernel
theorem dX8_can_61 : decode cX8_can 61 = .ok (.iinc 4 1, 3) := by decide +kernel
theorem dX8_can_64 : decode cX8_can 64 = .ok (.iload 6, 2) := by decide +kernel
theorem dX8_can_66 : decode cX8_can 66 = .ok (.istore 5, 2) := by decide +kernel
theorem dX8_can_68 : decode cX8_can 68 = .ok (.iinc 6 (-1), 3) := by decide +kernel
theorem dX8_can_71 : decode cX8_can 71 = .ok (.goto (-33), 3) := by decide +kernel
theorem dX8_can_74 : decode cX8_can 74 = .ok (.aload_n 0, 1) := by decide +kernel
theorem dX8_can_75 : decode cX8_can 75 = .ok (.getfield 20, 3) := by decide +kernel
theorem dX8_can_78 : decode cX8_can 78 = .ok (.iload_n 1, 1) := by decide +kernel
theorem dX8_can_79 : decode cX8_can 79 = .ok (.iload_n 3, 1) := by decide +kernel
theorem dX8_can_80 : decode cX8_can 80 = .ok (.iastore, 1) := by decide +kernel
theorem dX8_can_81 : decode cX8_can 81 = .ok (.iload_n 2, 1) := by decide +kernel
theorem dX8_can_82 : decode cX8_can 82 = .ok (.ifCond .ne 8, 3) := by decide +kernel
theorem dX8_can_85 : decode cX8_can 85 = .ok (.iload 4, 2) := by decide +kernel
theorem dX8_can_87 : decode cX8_can 87 = .ok (.goto 5, 3) := by decide +kernel
theorem dX8_can_90 : decode cX8_can 90 = .ok (.iload 5, 2) := by decide +kernel
theorem dX8_can_92 : decode cX8_can 92 = .ok (.ireturn, 1) := by decide +kernel
theorem dX8_where_0 : decode cX8_where 0 = .ok (.aload_n 0, 1) := by decide +kernel
theorem dX8_where_1 : decode cX8_where 1 = .ok (.iload_n 1, 1) := by decide +kernel
theorem dX8_where_2 : decode cX8_where 2 = .ok (.invokevirtual 229, 3) := by decide +kernel
theorem dX8_where_5 : decode cX8_where 5 = .ok (.ifCond .ne 5, 3) := by decide +kernel
theorem dX8_where_8 : decode cX8_where 8 = .ok (.iconst (-1), 1) := by decide +kernel
theorem dX8_where_9 : decode cX8_where 9 = .ok (.ireturn, 1) := by decide +kernel
theorem dX8_where_10 : decode cX8_where 10 = .ok (.aload_n 0, 1) := by decide +kernel
theorem dX8_where_11 : decode cX8_where 11 = .ok (.getfield 26, 3) := by decide +kernel
theorem dX8_where_14 : decode cX8_where 14 = .ok (.iload_n 1, 1) := by decide +kernel
theorem dX8_where_15 : decode cX8_where 15 = .ok (.iaload, 1) := by decide +kernel
theorem dX8_where_16 : decode cX8_where 16 = .ok (.istore_n 2, 1) := by decide +kernel
theorem dX8_where_17 : decode cX8_where 17 = .ok (.iconst 0, 1) := by decide +kernel
theorem dX8_where_18 : decode cX8_where 18 = .ok (.istore_n 3, 1) := by decide +kernel
theorem dX8_where_19 : decode cX8_where 19 = .ok (.iconst 0, 1) := by decide +kernel
theorem dX8_where_20 : decode cX8_where 20 = .ok (.istore 4, 2) := by decide +kernel
theorem dX8_where_22 : decode cX8_where 22 = .ok (.iload 4, 2) := by decide +kernel
theorem dX8_where_24 : decode cX8_where 24 = .ok (.iconst 5, 1) := by decide +kernel
theorem dX8_where_25 : decode cX8_where 25 = .ok (.if_icmp .ge 35, 3) := by decide +kernel
theorem dX8_where_28 : decode cX8_where 28 = .ok (.aload_n 0, 1) := by decide +kernel
theorem dX8_where_29 : decode cX8_where 29 = .ok (.getfield 26, 3) := by decide +kernel
theorem dX8_where_32 : decode cX8_where 32 = .ok (.iload_n 1, 1) := by decide +kernel
theorem dX8_where_33 : decode cX8_where 33 = .ok (.iload 4, 2) := by decide +kernel
theorem dX8_where_35 : decode cX8_where 35 = .ok (.iastore, 1) := by decide +kernel
theorem dX8_where_36 : decode cX8_where 36 = .ok (.iload_n 3, 1) := by decide +kernel
theorem dX8_where_37 : decode cX8_where 37 = .ok (.aload_n 0, 1) := by decide +kernel
theorem dX8_where_38 : decode cX8_where 38 = .ok (.invokevirtual 391, 3) := by decide +kernel
theorem dX8_where_41 : decode cX8_where 41 = .ok (.ifCond .eq 10, 3) := by decide +kernel
theorem dX8_where_44 : decode cX8_where 44 = .ok (.iconst 1, 1) := by decide +kernel
theorem dX8_where_45 : decode cX8_where 45 = .ok (.iload 4, 2) := by decide +kernel
theorem dX8_where_47 : decode cX8_where 47 = .ok (.ishl, 1) := by decide +kernel
theorem dX8_where_48 : decode cX8_where 48 = .ok (.goto 4, 3) := by decide +kernel
theorem dX8_where_51 : decode cX8_where 51 = .ok (.iconst 0, 1) := by decide +kernel
theorem dX8_where_52 : decode cX8_where 52 = .ok (.ior, 1) := by decide +kernel
theorem dX8_where_53 : decode cX8_where 53 = .ok (.istore_n 3, 1) := by decide +kernel
theorem dX8_where_54 : decode cX8_where 54 = .ok (.iinc 4 1, 3) := by decide +kernel
theorem dX8_where_57 : decode cX8_where 57 = .ok (.goto (-35), 3) := by decide +kernel
theorem dX8_where_60 : decode cX8_where 60 = .ok (.aload_n 0, 1) := by decide +kernel
theorem dX8_where_61 : decode cX8_where 61 = .ok (.getfield 26, 3) := by decide +kernel
theorem dX8_where_64 : decode cX8_where 64 = .ok (.iload_n 1, 1) := by decide +kernel
theorem dX8_where_65 : decode cX8_where 65 = .ok (.iload_n 2, 1) := by decide +kernel
theorem dX8_where_66 : decode cX8_where 66 = .ok (.iastore, 1) := by decide +kernel
theorem dX8_where_67 : decode cX8_where 67 = .ok (.iload_n 3, 1) := by decide +kernel
theorem dX8_where_68 : decode cX8_where 68 = .ok (.ireturn, 1) := by decide +kernel
theorem dX8_divisor_0 : decode cX8_divisor 0 = .ok (.iload_n 1, 1) := by decide +kernel
theorem dX8_divisor_1 : decode cX8_divisor 1 = .ok (.istore_n 3, 1) := by decide +kernel
theorem dX8_divisor_2 : decode cX8_divisor 2 = .ok (.iload_n 2, 1) := by decide +kernel
theorem dX8_divisor_3 : decode cX8_divisor 3 = .ok (.istore 4, 2) := by decide +kernel
theorem dX8_divisor_5 : decode cX8_divisor 5 = .ok (.iload 4, 2) := by decide +kernel
theorem dX8_divisor_7 : decode cX8_divisor 7 = .ok (.ifCond .eq 19, 3) := by decide +kernel
theorem dX8_divisor_10 : decode cX8_divisor 10 = .ok (.iload_n 3, 1) := by decide +kernel
theorem dX8_divisor_11 : decode cX8_divisor 11 = .ok (.iload 4, 2) := by decide +kernel
theorem dX8_divisor_13 : decode cX8_divisor 13 = .ok (.irem, 1) := by decide +kernel
theorem dX8_divisor_14 : decode cX8_divisor 14 = .ok (.istore 5, 2) := by decide +kernel
theorem dX8_divisor_16 : decode cX8_divisor 16 = .ok (.iload 4, 2) := by decide +kernel
theorem dX8_divisor_18 : decode cX8_divisor 18 = .ok (.istore_n 3, 1) := by decide +kernel
theorem dX8_divisor_19 : decode cX8_divisor 19 = .ok (.iload 5, 2) := by decide +kernel
theorem dX8_divisor_21 : decode cX8_divisor 21 = .ok (.istore 4, 2) := by decide +kernel
theorem dX8_divisor_23 : decode cX8_divisor 23 = .ok (.goto (-18), 3) := by decide +kernel
theorem dX8_divisor_26 : decode cX8_divisor 26 = .ok (.iload_n 3, 1) := by decide +kernel
theorem dX8_divisor_27 : decode cX8_divisor 27 = .ok (.ireturn, 1) := by decide +kernel
theorem dX8_lowest_0 : decode cX8_lowest 0 = .ok (.aload_n 0, 1) := by decide +kernel
theorem dX8_lowest_1 : decode cX8_lowest 1 = .ok (.iload_n 1, 1) := by decide +kernel
theorem dX8_lowest_2 : decode cX8_lowest 2 = .ok (.iload_n 2, 1) := by decide +kernel
theorem dX8_lowest_3 : decode cX8_lowest 3 = .ok (.invokevirtual 394, 3) := by decide +kernel
theorem dX8_lowest_6 : decode cX8_lowest 6 = .ok (.istore 4, 2) := by decide +kernel
theorem dX8_lowest_8 : decode cX8_lowest 8 = .ok (.iload_n 3, 1) := by decide +kernel
theorem dX8_lowest_9 : decode cX8_lowest 9 = .ok (.ifCond .ne 11, 3) := by decide +kernel
theorem dX8_lowest_12 : decode cX8_lowest 12 = .ok (.iload_n 1, 1) := by decide +kernel
theorem dX8_lowest_13 : decode cX8_lowest 13 = .ok (.iload 4, 2) := by decide +kernel
theorem dX8_lowest_15 : decode cX8_lowest 15 = .ok (.idiv, 1) := by decide +kernel
theorem dX8_lowest_16 : decode cX8_lowest 16 = .ok (.i2l, 1) := by decide +kernel
theorem dX8_lowest_17 : decode cX8_lowest 17 = .ok (.goto 8, 3) := by decide +kernel
theorem dX8_lowest_20 : decode cX8_lowest 20 = .ok (.iload_n 2, 1) := by decide +kernel
theorem dX8_lowest_21 : decode cX8_lowest 21 = .ok (.iload 4, 2) := by decide +kernel
theorem dX8_lowest_23 : decode cX8_lowest 23 = .ok (.idiv, 1) := by decide +kernel
theorem dX8_lowest_24 : decode cX8_lowest 24 = .ok (.i2l, 1) := by decide +kernel
theorem dX8_lowest_25 : decode cX8_lowest 25 = .ok (.lreturn, 1) := by decide +kernel
theorem dX8_odds_0 : decode cX8_odds 0 = .ok (.aload_n 0, 1) := by decide +kernel
theorem dX8_odds_1 : decode cX8_odds 1 = .ok (.iload_n 1, 1) := by decide +kernel
theorem dX8_odds_2 : decode cX8_odds 2 = .ok (.invokevirtual 222, 3) := by decide +kernel
theorem dX8_odds_5 : decode cX8_odds 5 = .ok (.ifCond .eq 20, 3) := by decide +kernel
theorem dX8_odds_8 : decode cX8_odds 8 = .ok (.aload_n 0, 1) := by decide +kernel
theorem dX8_odds_9 : decode cX8_odds 9 = .ok (.iload_n 2, 1) := by decide +kernel
theorem dX8_odds_10 : decode cX8_odds 10 = .ok (.iconst 0, 1) := by decide +kernel
theorem dX8_odds_11 : decode cX8_odds 11 = .ok (.iconst 1, 1) := by decide +kernel
theorem dX8_odds_12 : decode cX8_odds 12 = .ok (.invokevirtual 218, 3) := by decide +kernel
theorem dX8_odds_15 : decode cX8_odds 15 = .ok (.ifCond .eq 10, 3) := by decide +kernel
theorem dX8_odds_18 : decode cX8_odds 18 = .ok (.aload_n 0, 1) := by decide +kernel
theorem dX8_odds_19 : decode cX8_odds 19 = .ok (.getfield 7, 3) := by decide +kernel
theorem dX8_odds_22 : decode cX8_odds 22 = .ok (.ifCond .ne 7, 3) := by decide +kernel
theorem dX8_odds_25 : decode cX8_odds 25 = .ok (.ldc2_w 397, 3) := by decide +kernel
theorem dX8_odds_28 : decode cX8_odds 28 = .ok (.lreturn, 1) := by decide +kernel
theorem dX8_odds_29 : decode cX8_odds 29 = .ok (.iconst 0, 1) := by decide +kernel
theorem dX8_odds_30 : decode cX8_odds 30 = .ok (.istore_n 3, 1) := by decide +kernel
theorem dX8_odds_31 : decode cX8_odds 31 = .ok (.iconst 0, 1) := by decide +kernel
theorem dX8_odds_32 : decode cX8_odds 32 = .ok (.istore 4, 2) := by decide +kernel
theorem dX8_odds_34 : decode cX8_odds 34 = .ok (.iload 4, 2) := by decide +kernel
theorem dX8_odds_36 : decode cX8_odds 36 = .ok (.aload_n 0, 1) := by decide +kernel
theorem dX8_odds_37 : decode cX8_odds 37 = .ok (.getfield 7, 3) := by decide +kernel
theorem dX8_odds_40 : decode cX8_odds 40 = .ok (.if_icmp .ge 56, 3) := by decide +kernel
theorem dX8_odds_43 : decode cX8_odds 43 = .ok (.aload_n 0, 1) := by decide +kernel
theorem dX8_odds_44 : decode cX8_odds 44 = .ok (.getfield 26, 3) := by decide +kernel
theorem dX8_odds_47 : decode cX8_odds 47 = .ok (.iload 4, 2) := by decide +kernel
theorem dX8_odds_49 : decode cX8_odds 49 = .ok (.iaload, 1) := by decide +kernel
theorem dX8_odds_50 : decode cX8_odds 50 = .ok (.istore 5, 2) := by decide +kernel
theorem dX8_odds_52 : decode cX8_odds 52 = .ok (.aload_n 0, 1) := by decide +kernel
theorem dX8_odds_53 : decode cX8_odds 53 = .ok (.getfield 26, 3) := by decide +kernel
theorem dX8_odds_56 : decode cX8_odds 56 = .ok (.iload 4, 2) := by decide +kernel
theorem dX8_odds_58 : decode cX8_odds 58 = .ok (.bipush (-5), 2) := by decide +kernel
theorem dX8_odds_60 : decode cX8_odds 60 = .ok (.iastore, 1) := by decide +kernel
theorem dX8_odds_61 : decode cX8_odds 61 = .ok (.iload_n 3, 1) := by decide +kernel
theorem dX8_odds_62 : decode cX8_odds 62 = .ok (.aload_n 0, 1) := by decide +kernel
theorem dX8_odds_63 : decode cX8_odds 63 = .ok (.iload_n 1, 1) := by decide +kernel
theorem dX8_odds_64 : decode cX8_odds 64 = .ok (.invokevirtual 239, 3) := by decide +kernel
theorem dX8_odds_67 : decode cX8_odds 67 = .ok (.aload_n 0, 1) := by decide +kernel
theorem dX8_odds_68 : decode cX8_odds 68 = .ok (.invokevirtual 326, 3) := by decide +kernel
theorem dX8_odds_71 : decode cX8_odds 71 = .ok (.if_icmp .gt 7, 3) := by decide +kernel
theorem dX8_odds_74 : decode cX8_odds 74 = .ok (.iconst 1, 1) := by decide +kernel
theorem dX8_odds_75 : decode cX8_odds 75 = .ok (.goto 4, 3) := by decide +kernel
theorem dX8_odds_78 : decode cX8_odds 78 = .ok (.iconst 0, 1) := by decide +kernel
theorem dX8_odds_79 : decode cX8_odds 79 = .ok (.iadd, 1) := by decide +kernel
theorem dX8_odds_80 : decode cX8_odds 80 = .ok (.istore_n 3, 1) := by decide +kernel
theorem dX8_odds_81 : decode cX8_odds 81 = .ok (.aload_n 0, 1) := by decide +kernel
theorem dX8_odds_82 : decode cX8_odds 82 = .ok (.getfield 26, 3) := by decide +kernel
theorem dX8_odds_85 : decode cX8_odds 85 = .ok (.iload 4, 2) := by decide +kernel
theorem dX8_odds_87 : decode cX8_odds 87 = .ok (.iload 5, 2) := by decide +kernel
theorem dX8_odds_89 : decode cX8_odds 89 = .ok (.iastore, 1) := by decide +kernel
theorem dX8_odds_90 : decode cX8_odds 90 = .ok (.iinc 4 1, 3) := by decide +kernel
theorem dX8_odds_93 : decode cX8_odds 93 = .ok (.goto (-59), 3) := by decide +kernel
theorem dX8_odds_96 : decode cX8_odds 96 = .ok (.aload_n 0, 1) := by decide +kernel
theorem dX8_odds_97 : decode cX8_odds 97 = .ok (.iload_n 3, 1) := by decide +kernel
theorem dX8_odds_98 : decode cX8_odds 98 = .ok (.aload_n 0, 1) := by decide +kernel
theorem dX8_odds_99 : decode cX8_odds 99 = .ok (.getfield 7, 3) := by decide +kernel
theorem dX8_odds_102 : decode cX8_odds 102 = .ok (.iload_n 2, 1) := by decide +kernel
theorem dX8_odds_103 : decode cX8_odds 103 = .ok (.invokevirtual 399, 3) := by decide +kernel
theorem dX8_odds_106 : decode cX8_odds 106 = .ok (.lreturn, 1) := by decide +kernel
theorem dX8_mean_0 : decode cX8_mean 0 = .ok (.aload_n 0, 1) := by decide +kernel
theorem dX8_mean_1 : decode cX8_mean 1 = .ok (.iload_n 1, 1) := by decide +kernel
theorem dX8_mean_2 : decode cX8_mean 2 = .ok (.invokevirtual 347, 3) := by decide +kernel
theorem dX8_mean_5 : decode cX8_mean 5 = .ok (.ifCond .eq 13, 3) := by decide +kernel
theorem dX8_mean_8 : decode cX8_mean 8 = .ok (.aload_n 0, 1) := by decide +kernel
theorem dX8_mean_9 : decode cX8_mean 9 = .ok (.iload_n 2, 1) := by decide +kernel
theorem dX8_mean_10 : decode cX8_mean 10 = .ok (.iconst 0, 1) := by decide +kernel
theorem dX8_mean_11 : decode cX8_mean 11 = .ok (.iconst 1, 1) := by decide +kernel
theorem dX8_mean_12 : decode cX8_mean 12 = .ok (.invokevirtual 218, 3) := by decide +kernel
theorem dX8_mean_15 : decode cX8_mean 15 = .ok (.ifCond .ne 7, 3) := by decide +kernel
theorem dX8_mean_18 : decode cX8_mean 18 = .ok (.ldc2_w 397, 3) := by decide +kernel
theorem dX8_mean_21 : decode cX8_mean 21 = .ok (.lreturn, 1) := by decide +kernel
theorem dX8_mean_22 : decode cX8_mean 22 = .ok (.aload_n 0, 1) := by decide +kernel
theorem dX8_mean_23 : decode cX8_mean 23 = .ok (.invokevirtual 353, 3) := by decide +kernel
theorem dX8_mean_26 : decode cX8_mean 26 = .ok (.aload_n 0, 1) := by decide +kernel
theorem dX8_mean_27 : decode cX8_mean 27 = .ok (.iload_n 1, 1) := by decide +kernel
theorem dX8_mean_28 : decode cX8_mean 28 = .ok (.invokevirtual 350, 3) := by decide +kernel
theorem dX8_mean_31 : decode cX8_mean 31 = .ok (.aload_n 0, 1) := by decide +kernel
theorem dX8_mean_32 : decode cX8_mean 32 = .ok (.invokevirtual 320, 3) := by decide +kernel
theorem dX8_mean_35 : decode cX8_mean 35 = .ok (.aload_n 0, 1) := by decide +kernel
theorem dX8_mean_36 : decode cX8_mean 36 = .ok (.invokevirtual 366, 3) := by decide +kernel
theorem dX8_mean_39 : decode cX8_mean 39 = .ok (.istore_n 3, 1) := by decide +kernel
theorem dX8_mean_40 : decode cX8_mean 40 = .ok (.aload_n 0, 1) := by decide +kernel
theorem dX8_mean_41 : decode cX8_mean 41 = .ok (.invokevirtual 356, 3) := by decide +kernel
theorem dX8_mean_44 : decode cX8_mean 44 = .ok (.aload_n 0, 1) := by decide +kernel
theorem dX8_mean_45 : decode cX8_mean 45 = .ok (.iload_n 3, 1) := by decide +kernel
theorem dX8_mean_46 : decode cX8_mean 46 = .ok (.iconst 5, 1) := by decide +kernel
theorem dX8_mean_47 : decode cX8_mean 47 = .ok (.iload_n 2, 1) := by decide +kernel
theorem dX8_mean_48 : decode cX8_mean 48 = .ok (.invokevirtual 399, 3) := by decide +kernel
theorem dX8_mean_51 : decode cX8_mean 51 = .ok (.lreturn, 1) := by decide +kernel
theorem dX8_plan_0 : decode cX8_plan 0 = .ok (.iload_n 1, 1) := by decide +kernel
theorem dX8_plan_1 : decode cX8_plan 1 = .ok (.iconst (-1), 1) := by decide +kernel
theorem dX8_plan_2 : decode cX8_plan 2 = .ok (.if_icmp .ne 10, 3) := by decide +kernel
theorem dX8_plan_5 : decode cX8_plan 5 = .ok (.aload_n 0, 1) := by decide +kernel
theorem dX8_plan_6 : decode cX8_plan 6 = .ok (.iconst 0, 1) := by decide +kernel
theorem dX8_plan_7 : decode cX8_plan 7 = .ok (.putfield 123, 3) := by decide +kernel
theorem dX8_plan_10 : decode cX8_plan 10 = .ok (.iconst 0, 1) := by decide +kernel
theorem dX8_plan_11 : decode cX8_plan 11 = .ok (.ireturn, 1) := by decide +kernel
theorem dX8_plan_12 : decode cX8_plan 12 = .ok (.aload_n 0, 1) := by decide +kernel
theorem dX8_plan_13 : decode cX8_plan 13 = .ok (.iload_n 1, 1) := by decide +kernel
theorem dX8_plan_14 : decode cX8_plan 14 = .ok (.iconst 0, 1) := by decide +kernel
theorem dX8_plan_15 : decode cX8_plan 15 = .ok (.iconst 3, 1) := by decide +kernel
theorem dX8_plan_16 : decode cX8_plan 16 = .ok (.invokevirtual 218, 3) := by decide +kernel
theorem dX8_plan_19 : decode cX8_plan 19 = .ok (.ifCond .eq 15, 3) := by decide +kernel
theorem dX8_plan_22 : decode cX8_plan 22 = .ok (.iload_n 1, 1) := by decide +kernel
theorem dX8_plan_23 : decode cX8_plan 23 = .ok (.ifCond .le 13, 3) := by decide +kernel
theorem dX8_plan_26 : decode cX8_plan 26 = .ok (.aload_n 0, 1) := by decide +kernel
theorem dX8_plan_27 : decode cX8_plan 27 = .ok (.iload_n 2, 1) := by decide +kernel
theorem dX8_plan_28 : decode cX8_plan 28 = .ok (.invokevirtual 229, 3) := by decide +kernel
theorem dX8_plan_31 : decode cX8_plan 31 = .ok (.ifCond .ne 5, 3) := by decide +kernel
theorem dX8_plan_34 : decode cX8_plan 34 = .ok (.iconst (-1), 1) := by decide +kernel
theorem dX8_plan_35 : decode cX8_plan 35 = .ok (.ireturn, 1) := by decide +kernel
theorem dX8_plan_36 : decode cX8_plan 36 = .ok (.aload_n 0, 1) := by decide +kernel
theorem dX8_plan_37 : decode cX8_plan 37 = .ok (.getfield 123, 3) := by decide +kernel
theorem dX8_plan_40 : decode cX8_plan 40 = .ok (.bipush 10, 2) := by decide +kernel
theorem dX8_plan_42 : decode cX8_plan 42 = .ok (.if_icmp .ne 6, 3) := by decide +kernel
theorem dX8_plan_45 : decode cX8_plan 45 = .ok (.bipush (-4), 2) := by decide +kernel
theorem dX8_plan_47 : decode cX8_plan 47 = .ok (.ireturn, 1) := by decide +kernel
theorem dX8_plan_48 : decode cX8_plan 48 = .ok (.aload_n 0, 1) := by decide +kernel
theorem dX8_plan_49 : decode cX8_plan 49 = .ok (.getfield 129, 3) := by decide +kernel
theorem dX8_plan_52 : decode cX8_plan 52 = .ok (.aload_n 0, 1) := by decide +kernel
theorem dX8_plan_53 : decode cX8_plan 53 = .ok (.getfield 123, 3) := by decide +kernel
theorem dX8_plan_56 : decode cX8_plan 56 = .ok (.iload_n 1, 1) := by decide +kernel
theorem dX8_plan_57 : decode cX8_plan 57 = .ok (.iastore, 1) := by decide +kernel
theorem dX8_plan_58 : decode cX8_plan 58 = .ok (.aload_n 0, 1) := by decide +kernel
theorem dX8_plan_59 : decode cX8_plan 59 = .ok (.getfield 132, 3) := by decide +kernel
theorem dX8_plan_62 : decode cX8_plan 62 = .ok (.aload_n 0, 1) := by decide +kernel
theorem dX8_plan_63 : decode cX8_plan 63 = .ok (.getfield 123, 3) := by decide +kernel
theorem dX8_plan_66 : decode cX8_plan 66 = .ok (.iload_n 1, 1) := by decide +kernel
theorem dX8_plan_67 : decode cX8_plan 67 = .ok (.ifCond .le 7, 3) := by decide +kernel
theorem dX8_plan_70 : decode cX8_plan 70 = .ok (.iload_n 2, 1) := by decide +kernel
theorem dX8_plan_71 : decode cX8_plan 71 = .ok (.goto 4, 3) := by decide +kernel
theorem dX8_plan_74 : decode cX8_plan 74 = .ok (.iconst 0, 1) := by decide +kernel
theorem dX8_plan_75 : decode cX8_plan 75 = .ok (.iastore, 1) := by decide +kernel
theorem dX8_plan_76 : decode cX8_plan 76 = .ok (.aload_n 0, 1) := by decide +kernel
theorem dX8_plan_77 : decode cX8_plan 77 = .ok (.dup, 1) := by decide +kernel
theorem dX8_plan_78 : decode cX8_plan 78 = .ok (.getfield 123, 3) := by decide +kernel
theorem dX8_plan_81 : decode cX8_plan 81 = .ok (.iconst 1, 1) := by decide +kernel
theorem dX8_plan_82 : decode cX8_plan 82 = .ok (.iadd, 1) := by decide +kernel
theorem dX8_plan_83 : decode cX8_plan 83 = .ok (.putfield 123, 3) := by decide +kernel
theorem dX8_plan_86 : decode cX8_plan 86 = .ok (.aload_n 0, 1) := by decide +kernel
theorem dX8_plan_87 : decode cX8_plan 87 = .ok (.getfield 123, 3) := by decide +kernel
theorem dX8_plan_90 : decode cX8_plan 90 = .ok (.ireturn, 1) := by decide +kernel
theorem dX8_goPlan_0 : decode cX8_goPlan 0 = .ok (.iload_n 1, 1) := by decide +kernel
theorem dX8_goPlan_1 : decode cX8_goPlan 1 = .ok (.ifCond .ne 7, 3) := by decide +kernel
theorem dX8_goPlan_4 : decode cX8_goPlan 4 = .ok (.aload_n 0, 1) := by decide +kernel
theorem dX8_goPlan_5 : decode cX8_goPlan 5 = .ok (.invokevirtual 344, 3) := by decide +kernel
theorem dX8_goPlan_8 : decode cX8_goPlan 8 = .ok (.iload_n 1, 1) := by decide +kernel
theorem dX8_goPlan_9 : decode cX8_goPlan 9 = .ok (.ifCond .eq 11, 3) := by decide +kernel
theorem dX8_goPlan_12 : decode cX8_goPlan 12 = .ok (.aload_n 0, 1) := by decide +kernel
theorem dX8_goPlan_13 : decode cX8_goPlan 13 = .ok (.iload_n 2, 1) := by decide +kernel
theorem dX8_goPlan_14 : decode cX8_goPlan 14 = .ok (.invokevirtual 232, 3) := by decide +kernel
theorem dX8_goPlan_17 : decode cX8_goPlan 17 = .ok (.ifCond .eq 4, 3) := by decide +kernel
theorem dX8_goPlan_20 : decode cX8_goPlan 20 = .ok (.return_, 1) := by decide +kernel
theorem dX8_goPlan_21 : decode cX8_goPlan 21 = .ok (.iload_n 1, 1) := by decide +kernel
theorem dX8_goPlan_22 : decode cX8_goPlan 22 = .ok (.iconst 1, 1) := by decide +kernel
theorem dX8_goPlan_23 : decode cX8_goPlan 23 = .ok (.if_icmp .ne 11, 3) := by decide +kernel
theorem dX8_goPlan_26 : decode cX8_goPlan 26 = .ok (.aload_n 0, 1) := by decide +kernel
theorem dX8_goPlan_27 : decode cX8_goPlan 27 = .ok (.getfield 26, 3) := by decide +kernel
theorem dX8_goPlan_30 : decode cX8_goPlan 30 = .ok (.iload_n 2, 1) := by decide +kernel
theorem dX8_goPlan_31 : decode cX8_goPlan 31 = .ok (.bipush (-5), 2) := by decide +kernel
theorem dX8_goPlan_33 : decode cX8_goPlan 33 = .ok (.iastore, 1) := by decide +kernel
theorem dX8_goPlan_34 : decode cX8_goPlan 34 = .ok (.iload_n 1, 1) := by decide +kernel
theorem dX8_goPlan_35 : decode cX8_goPlan 35 = .ok (.iconst 2, 1) := by decide +kernel
theorem dX8_goPlan_36 : decode cX8_goPlan 36 = .ok (.if_icmp .ne 23, 3) := by decide +kernel
theorem dX8_goPlan_39 : decode cX8_goPlan 39 = .ok (.aload_n 0, 1) := by decide +kernel
theorem dX8_goPlan_40 : decode cX8_goPlan 40 = .ok (.getfield 26, 3) := by decide +kernel
theorem dX8_goPlan_43 : decode cX8_goPlan 43 = .ok (.iload_n 2, 1) := by decide +kernel
theorem dX8_goPlan_44 : decode cX8_goPlan 44 = .ok (.iaload, 1) := by decide +kernel
theorem dX8_goPlan_45 : decode cX8_goPlan 45 = .ok (.iconst 4, 1) := by decide +kernel
theorem dX8_goPlan_46 : decode cX8_goPlan 46 = .ok (.if_icmp .ge 13, 3) := by decide +kernel
theorem dX8_goPlan_49 : decode cX8_goPlan 49 = .ok (.aload_n 0, 1) := by decide +kernel
theorem dX8_goPlan_50 : decode cX8_goPlan 50 = .ok (.getfield 26, 3) := by decide +kernel
theorem dX8_goPlan_53 : decode cX8_goPlan 53 = .ok (.iload_n 2, 1) := by decide +kernel
theorem dX8_goPlan_54 : decode cX8_goPlan 54 = .ok (.dup2, 1) := by decide +kernel
theorem dX8_goPlan_55 : decode cX8_goPlan 55 = .ok (.iaload, 1) := by decide +kernel
theorem dX8_goPlan_56 : decode cX8_goPlan 56 = .ok (.iconst 1, 1) := by decide +kernel
theorem dX8_goPlan_57 : decode cX8_goPlan 57 = .ok (.iadd, 1) := by decide +kernel
theorem dX8_goPlan_58 : decode cX8_goPlan 58 = .ok (.iastore, 1) := by decide +kernel
theorem dX8_goPlan_59 : decode cX8_goPlan 59 = .ok (.iload_n 1, 1) := by decide +kernel
theorem dX8_goPlan_60 : decode cX8_goPlan 60 = .ok (.iconst 3, 1) := by decide +kernel
theorem dX8_goPlan_61 : decode cX8_goPlan 61 = .ok (.if_icmp .ne 22, 3) := by decide +kernel
theorem dX8_goPlan_64 : decode cX8_goPlan 64 = .ok (.aload_n 0, 1) := by decide +kernel
theorem dX8_goPlan_65 : decode cX8_goPlan 65 = .ok (.getfield 26, 3) := by decide +kernel
theorem dX8_goPlan_68 : decode cX8_goPlan 68 = .ok (.iload_n 2, 1) := by decide +kernel
theorem dX8_goPlan_69 : decode cX8_goPlan 69 = .ok (.iaload, 1) := by decide +kernel
theorem dX8_goPlan_70 : decode cX8_goPlan 70 = .ok (.ifCond .le 13, 3) := by decide +kernel
theorem dX8_goPlan_73 : decode cX8_goPlan 73 = .ok (.aload_n 0, 1) := by decide +kernel
theorem dX8_goPlan_74 : decode cX8_goPlan 74 = .ok (.getfield 26, 3) := by decide +kernel
theorem dX8_goPlan_77 : decode cX8_goPlan 77 = .ok (.iload_n 2, 1) := by decide +kernel
theorem dX8_goPlan_78 : decode cX8_goPlan 78 = .ok (.dup2, 1) := by decide +kernel
theorem dX8_goPlan_79 : decode cX8_goPlan 79 = .ok (.iaload, 1) := by decide +kernel
theorem dX8_goPlan_80 : decode cX8_goPlan 80 = .ok (.iconst 1, 1) := by decide +kernel
theorem dX8_goPlan_81 : decode cX8_goPlan 81 = .ok (.isub, 1) := by decide +kernel
theorem dX8_goPlan_82 : decode cX8_goPlan 82 = .ok (.iastore, 1) := by decide +kernel
theorem dX8_goPlan_83 : decode cX8_goPlan 83 = .ok (.return_, 1) := by decide +kernel
theorem dX8_ends_0 : decode cX8_ends 0 = .ok (.aload_n 0, 1) := by decide +kernel
theorem dX8_ends_1 : decode cX8_ends 1 = .ok (.iload_n 1, 1) := by decide +kernel
theorem dX8_ends_2 : decode cX8_ends 2 = .ok (.iconst 0, 1) := by decide +kernel
theorem dX8_ends_3 : decode cX8_ends 3 = .ok (.iconst 1, 1) := by decide +kernel
theorem dX8_ends_4 : decode cX8_ends 4 = .ok (.invokevirtual 218, 3) := by decide +kernel
theorem dX8_ends_7 : decode cX8_ends 7 = .ok (.ifCond .ne 5, 3) := by decide +kernel
theorem dX8_ends_10 : decode cX8_ends 10 = .ok (.iconst (-1), 1) := by decide +kernel
theorem dX8_ends_11 : decode cX8_ends 11 = .ok (.ireturn, 1) := by decide +kernel
theorem dX8_ends_12 : decode cX8_ends 12 = .ok (.aload_n 0, 1) := by decide +kernel
theorem dX8_ends_13 : decode cX8_ends 13 = .ok (.invokevirtual 353, 3) := by decide +kernel
theorem dX8_ends_16 : decode cX8_ends 16 = .ok (.iconst 0, 1) := by decide +kernel
theorem dX8_ends_17 : decode cX8_ends 17 = .ok (.istore_n 2, 1) := by decide +kernel
theorem dX8_ends_18 : decode cX8_ends 18 = .ok (.iload_n 2, 1) := by decide +kernel
theorem dX8_ends_19 : decode cX8_ends 19 = .ok (.aload_n 0, 1) := by decide +kernel
theorem dX8_ends_20 : decode cX8_ends 20 = .ok (.getfield 123, 3) := by decide +kernel
theorem dX8_ends_23 : decode cX8_ends 23 = .ok (.if_icmp .ge 25, 3) := by decide +kernel
theorem dX8_ends_26 : decode cX8_ends 26 = .ok (.aload_n 0, 1) := by decide +kernel
theorem dX8_ends_27 : decode cX8_ends 27 = .ok (.aload_n 0, 1) := by decide +kernel
theorem dX8_ends_28 : decode cX8_ends 28 = .ok (.getfield 129, 3) := by decide +kernel
theorem dX8_ends_31 : decode cX8_ends 31 = .ok (.iload_n 2, 1) := by decide +kernel
theorem dX8_ends_32 : decode cX8_ends 32 = .ok (.iaload, 1) := by decide +kernel
theorem dX8_ends_33 : decode cX8_ends 33 = .ok (.aload_n 0, 1) := by decide +kernel
theorem dX8_ends_34 : decode cX8_ends 34 = .ok (.getfield 132, 3) := by decide +kernel
theorem dX8_ends_37 : decode cX8_ends 37 = .ok (.iload_n 2, 1) := by decide +kernel
theorem dX8_ends_38 : decode cX8_ends 38 = .ok (.iaload, 1) := by decide +kernel
theorem dX8_ends_39 : decode cX8_ends 39 = .ok (.invokevirtual 403, 3) := by decide +kernel
theorem dX8_ends_42 : decode cX8_ends 42 = .ok (.iinc 2 1, 3) := by decide +kernel
theorem dX8_ends_45 : decode cX8_ends 45 = .ok (.goto (-27), 3) := by decide +kernel
theorem dX8_ends_48 : decode cX8_ends 48 = .ok (.aload_n 0, 1) := by decide +kernel
theorem dX8_ends_49 : decode cX8_ends 49 = .ok (.invokevirtual 341, 3) := by decide +kernel
theorem dX8_ends_52 : decode cX8_ends 52 = .ok (.istore_n 2, 1) := by decide +kernel
theorem dX8_ends_53 : decode cX8_ends 53 = .ok (.iconst 0, 1) := by decide +kernel
theorem dX8_ends_54 : decode cX8_ends 54 = .ok (.istore_n 3, 1) := by decide +kernel
theorem dX8_ends_55 : decode cX8_ends 55 = .ok (.iconst 0, 1) := by decide +kernel
theorem dX8_ends_56 : decode cX8_ends 56 = .ok (.istore 4, 2) := by decide +kernel
theorem dX8_ends_58 : decode cX8_ends 58 = .ok (.iload 4, 2) := by decide +kernel
theorem dX8_ends_60 : decode cX8_ends 60 = .ok (.iconst 5, 1) := by decide +kernel
theorem dX8_ends_61 : decode cX8_ends 61 = .ok (.if_icmp .ge 18, 3) := by decide +kernel
theorem dX8_ends_64 : decode cX8_ends 64 = .ok (.iload_n 3, 1) := by decide +kernel
theorem dX8_ends_65 : decode cX8_ends 65 = .ok (.iload_n 2, 1) := by decide +kernel
theorem dX8_ends_66 : decode cX8_ends 66 = .ok (.iload 4, 2) := by decide +kernel
theorem dX8_ends_68 : decode cX8_ends 68 = .ok (.ishr, 1) := by decide +kernel
theorem dX8_ends_69 : decode cX8_ends 69 = .ok (.iconst 1, 1) := by decide +kernel
theorem dX8_ends_70 : decode cX8_ends 70 = .ok (.iand, 1) := by decide +kernel
theorem dX8_ends_71 : decode cX8_ends 71 = .ok (.iadd, 1) := by decide +kernel
theorem dX8_ends_72 : decode cX8_ends 72 = .ok (.istore_n 3, 1) := by decide +kernel
theorem dX8_ends_73 : decode cX8_ends 73 = .ok (.iinc 4 1, 3) := by decide +kernel
theorem dX8_ends_76 : decode cX8_ends 76 = .ok (.goto (-18), 3) := by decide +kernel
theorem dX8_ends_79 : decode cX8_ends 79 = .ok (.iload_n 1, 1) := by decide +kernel
theorem dX8_ends_80 : decode cX8_ends 80 = .ok (.ifCond .ne 10, 3) := by decide +kernel
theorem dX8_ends_83 : decode cX8_ends 83 = .ok (.aload_n 0, 1) := by decide +kernel
theorem dX8_ends_84 : decode cX8_ends 84 = .ok (.invokevirtual 338, 3) := by decide +kernel
theorem dX8_ends_87 : decode cX8_ends 87 = .ok (.goto 4, 3) := by decide +kernel
theorem dX8_ends_90 : decode cX8_ends 90 = .ok (.iload_n 3, 1) := by decide +kernel
theorem dX8_ends_91 : decode cX8_ends 91 = .ok (.istore 4, 2) := by decide +kernel
theorem dX8_ends_93 : decode cX8_ends 93 = .ok (.aload_n 0, 1) := by decide +kernel
theorem dX8_ends_94 : decode cX8_ends 94 = .ok (.invokevirtual 356, 3) := by decide +kernel
theorem dX8_ends_97 : decode cX8_ends 97 = .ok (.iload 4, 2) := by decide +kernel
theorem dX8_ends_99 : decode cX8_ends 99 = .ok (.ireturn, 1) := by decide +kernel
theorem dX8_book_0 : decode cX8_book 0 = .ok (.iload_n 1, 1) := by decide +kernel
theorem dX8_book_1 : decode cX8_book 1 = .ok (.iconst (-1), 1) := by decide +kernel
theorem dX8_book_2 : decode cX8_book 2 = .ok (.if_icmp .ne 10, 3) := by decide +kernel
theorem dX8_book_5 : decode cX8_book 5 = .ok (.aload_n 0, 1) := by decide +kernel
theorem dX8_book_6 : decode cX8_book 6 = .ok (.iconst 0, 1) := by decide +kernel
theorem dX8_book_7 : decode cX8_book 7 = .ok (.putfield 126, 3) := by decide +kernel
theorem dX8_book_10 : decode cX8_book 10 = .ok (.iconst 0, 1) := by decide +kernel
theorem dX8_book_11 : decode cX8_book 11 = .ok (.ireturn, 1) := by decide +kernel
theorem dX8_book_12 : decode cX8_book 12 = .ok (.aload_n 0, 1) := by decide +kernel
theorem dX8_book_13 : decode cX8_book 13 = .ok (.iload_n 1, 1) := by decide +kernel
theorem dX8_book_14 : decode cX8_book 14 = .ok (.invokevirtual 229, 3) := by decide +kernel
theorem dX8_book_17 : decode cX8_book 17 = .ok (.ifCond .eq 13, 3) := by decide +kernel
theorem dX8_book_20 : decode cX8_book 20 = .ok (.aload_n 0, 1) := by decide +kernel
theorem dX8_book_21 : decode cX8_book 21 = .ok (.iload_n 2, 1) := by decide +kernel
theorem dX8_book_22 : decode cX8_book 22 = .ok (.iconst 0, 1) := by decide +kernel
theorem dX8_book_23 : decode cX8_book 23 = .ok (.iconst 5, 1) := by decide +kernel
theorem dX8_book_24 : decode cX8_book 24 = .ok (.invokevirtual 218, 3) := by decide +kernel
theorem dX8_book_27 : decode cX8_book 27 = .ok (.ifCond .ne 5, 3) := by decide +kernel
theorem dX8_book_30 : decode cX8_book 30 = .ok (.iconst (-1), 1) := by decide +kernel
theorem dX8_book_31 : decode cX8_book 31 = .ok (.ireturn, 1) := by decide +kernel
theorem dX8_book_32 : decode cX8_book 32 = .ok (.aload_n 0, 1) := by decide +kernel
theorem dX8_book_33 : decode cX8_book 33 = .ok (.getfield 126, 3) := by decide +kernel
theorem dX8_book_36 : decode cX8_book 36 = .ok (.bipush 8, 2) := by decide +kernel
theorem dX8_book_38 : decode cX8_book 38 = .ok (.if_icmp .ne 6, 3) := by decide +kernel
theorem dX8_book_41 : decode cX8_book 41 = .ok (.bipush (-4), 2) := by decide +kernel
theorem dX8_book_43 : decode cX8_book 43 = .ok (.ireturn, 1) := by decide +kernel
theorem dX8_book_44 : decode cX8_book 44 = .ok (.aload_n 0, 1) := by decide +kernel
theorem dX8_book_45 : decode cX8_book 45 = .ok (.getfield 135, 3) := by decide +kernel
theorem dX8_book_48 : decode cX8_book 48 = .ok (.aload_n 0, 1) := by decide +kernel
theorem dX8_book_49 : decode cX8_book 49 = .ok (.getfield 126, 3) := by decide +kernel
theorem dX8_book_52 : decode cX8_book 52 = .ok (.iload_n 1, 1) := by decide +kernel
theorem dX8_book_53 : decode cX8_book 53 = .ok (.iastore, 1) := by decide +kernel
theorem dX8_book_54 : decode cX8_book 54 = .ok (.aload_n 0, 1) := by decide +kernel
theorem dX8_book_55 : decode cX8_book 55 = .ok (.getfield 138, 3) := by decide +kernel
theorem dX8_book_58 : decode cX8_book 58 = .ok (.aload_n 0, 1) := by decide +kernel
theorem dX8_book_59 : decode cX8_book 59 = .ok (.getfield 126, 3) := by decide +kernel
theorem dX8_book_62 : decode cX8_book 62 = .ok (.iload_n 2, 1) := by decide +kernel
theorem dX8_book_63 : decode cX8_book 63 = .ok (.iconst 5, 1) := by decide +kernel
theorem dX8_book_64 : decode cX8_book 64 = .ok (.if_icmp .ne 8, 3) := by decide +kernel
theorem dX8_book_67 : decode cX8_book 67 = .ok (.bipush (-5), 2) := by decide +kernel
theorem dX8_book_69 : decode cX8_book 69 = .ok (.goto 4, 3) := by decide +kernel
theorem dX8_book_72 : decode cX8_book 72 = .ok (.iload_n 2, 1) := by decide +kernel
theorem dX8_book_73 : decode cX8_book 73 = .ok (.iastore, 1) := by decide +kernel
theorem dX8_book_74 : decode cX8_book 74 = .ok (.aload_n 0, 1) := by decide +kernel
theorem dX8_book_75 : decode cX8_book 75 = .ok (.dup, 1) := by decide +kernel
theorem dX8_book_76 : decode cX8_book 76 = .ok (.getfield 126, 3) := by decide +kernel
theorem dX8_book_79 : decode cX8_book 79 = .ok (.iconst 1, 1) := by decide +kernel
theorem dX8_book_80 : decode cX8_book 80 = .ok (.iadd, 1) := by decide +kernel
theorem dX8_book_81 : decode cX8_book 81 = .ok (.putfield 126, 3) := by decide +kernel
theorem dX8_book_84 : decode cX8_book 84 = .ok (.aload_n 0, 1) := by decide +kernel
theorem dX8_book_85 : decode cX8_book 85 = .ok (.getfield 126, 3) := by decide +kernel
theorem dX8_book_88 : decode cX8_book 88 = .ok (.ireturn, 1) := by decide +kernel
theorem dX8_looked_0 : decode cX8_looked 0 = .ok (.iconst 0, 1) := by decide +kernel
theorem dX8_looked_1 : decode cX8_looked 1 = .ok (.istore_n 1, 1) := by decide +kernel
theorem dX8_looked_2 : decode cX8_looked 2 = .ok (.iload_n 1, 1) := by decide +kernel
theorem dX8_looked_3 : decode cX8_looked 3 = .ok (.aload_n 0, 1) := by decide +kernel
theorem dX8_looked_4 : decode cX8_looked 4 = .ok (.getfield 126, 3) := by decide +kernel
theorem dX8_looked_7 : decode cX8_looked 7 = .ok (.if_icmp .ge 31, 3) := by decide +kernel
theorem dX8_looked_10 : decode cX8_looked 10 = .ok (.aload_n 0, 1) := by decide +kernel
theorem dX8_looked_11 : decode cX8_looked 11 = .ok (.getfield 26, 3) := by decide +kernel
theorem dX8_looked_14 : decode cX8_looked 14 = .ok (.aload_n 0, 1) := by decide +kernel
theorem dX8_looked_15 : decode cX8_looked 15 = .ok (.getfield 135, 3) := by decide +kernel
theorem dX8_looked_18 : decode cX8_looked 18 = .ok (.iload_n 1, 1) := by decide +kernel
theorem dX8_looked_19 : decode cX8_looked 19 = .ok (.iaload, 1) := by decide +kernel
theorem dX8_looked_20 : decode cX8_looked 20 = .ok (.iaload, 1) := by decide +kernel
theorem dX8_looked_21 : decode cX8_looked 21 = .ok (.aload_n 0, 1) := by decide +kernel
theorem dX8_looked_22 : decode cX8_looked 22 = .ok (.getfield 138, 3) := by decide +kernel
theorem dX8_looked_25 : decode cX8_looked 25 = .ok (.iload_n 1, 1) := by decide +kernel
theorem dX8_looked_26 : decode cX8_looked 26 = .ok (.iaload, 1) := by decide +kernel
theorem dX8_looked_27 : decode cX8_looked 27 = .ok (.if_icmp .eq 5, 3) := by decide +kernel
theorem dX8_looked_30 : decode cX8_looked 30 = .ok (.iload_n 1, 1) := by decide +kernel
theorem dX8_looked_31 : decode cX8_looked 31 = .ok (.ireturn, 1) := by decide +kernel
theorem dX8_looked_32 : decode cX8_looked 32 = .ok (.iinc 1 1, 3) := by decide +kernel
theorem dX8_looked_35 : decode cX8_looked 35 = .ok (.goto (-33), 3) := by decide +kernel
theorem dX8_looked_38 : decode cX8_looked 38 = .ok (.bipush (-5), 2) := by decide +kernel
theorem dX8_looked_40 : decode cX8_looked 40 = .ok (.ireturn, 1) := by decide +kernel
theorem dX8_judge_0 : decode cX8_judge 0 = .ok (.aload_n 0, 1) := by decide +kernel
theorem dX8_judge_1 : decode cX8_judge 1 = .ok (.iload_n 1, 1) := by decide +kernel
theorem dX8_judge_2 : decode cX8_judge 2 = .ok (.invokevirtual 406, 3) := by decide +kernel
theorem dX8_judge_5 : decode cX8_judge 5 = .ok (.ifCond .ne 5, 3) := by decide +kernel
theorem dX8_judge_8 : decode cX8_judge 8 = .ok (.iconst (-1), 1) := by decide +kernel
theorem dX8_judge_9 : decode cX8_judge 9 = .ok (.ireturn, 1) := by decide +kernel
theorem dX8_judge_10 : decode cX8_judge 10 = .ok (.aload_n 0, 1) := by decide +kernel
theorem dX8_judge_11 : decode cX8_judge 11 = .ok (.getfield 205, 3) := by decide +kernel
theorem dX8_judge_14 : decode cX8_judge 14 = .ok (.iload_n 1, 1) := by decide +kernel
theorem dX8_judge_15 : decode cX8_judge 15 = .ok (.iaload, 1) := by decide +kernel
theorem dX8_judge_16 : decode cX8_judge 16 = .ok (.ifCond .le 6, 3) := by decide +kernel
theorem dX8_judge_19 : decode cX8_judge 19 = .ok (.bipush (-12), 2) := by decide +kernel
theorem dX8_judge_21 : decode cX8_judge 21 = .ok (.ireturn, 1) := by decide +kernel
theorem dX8_judge_22 : decode cX8_judge 22 = .ok (.iconst 0, 1) := by decide +kernel
theorem dX8_judge_23 : decode cX8_judge 23 = .ok (.istore_n 3, 1) := by decide +kernel
theorem dX8_judge_24 : decode cX8_judge 24 = .ok (.iload_n 3, 1) := by decide +kernel
theorem dX8_judge_25 : decode cX8_judge 25 = .ok (.aload_n 0, 1) := by decide +kernel
theorem dX8_judge_26 : decode cX8_judge 26 = .ok (.getfield 7, 3) := by decide +kernel
theorem dX8_judge_29 : decode cX8_judge 29 = .ok (.if_icmp .ge 67, 3) := by decide +kernel
theorem dX8_judge_32 : decode cX8_judge 32 = .ok (.aload_n 0, 1) := by decide +kernel
theorem dX8_judge_33 : decode cX8_judge 33 = .ok (.getfield 205, 3) := by decide +kernel
theorem dX8_judge_36 : decode cX8_judge 36 = .ok (.iload_n 1, 1) := by decide +kernel
theorem dX8_judge_37 : decode cX8_judge 37 = .ok (.iaload, 1) := by decide +kernel
theorem dX8_judge_38 : decode cX8_judge 38 = .ok (.ifCond .lt 21, 3) := by decide +kernel
theorem dX8_judge_41 : decode cX8_judge 41 = .ok (.iload_n 2, 1) := by decide +kernel
theorem dX8_judge_42 : decode cX8_judge 42 = .ok (.ifCond .lt 17, 3) := by decide +kernel
theorem dX8_judge_45 : decode cX8_judge 45 = .ok (.iload_n 2, 1) := by decide +kernel
theorem dX8_judge_46 : decode cX8_judge 46 = .ok (.aload_n 0, 1) := by decide +kernel
theorem dX8_judge_47 : decode cX8_judge 47 = .ok (.getfield 208, 3) := by decide +kernel
theorem dX8_judge_50 : decode cX8_judge 50 = .ok (.iload_n 1, 1) := by decide +kernel
theorem dX8_judge_51 : decode cX8_judge 51 = .ok (.iaload, 1) := by decide +kernel
theorem dX8_judge_52 : decode cX8_judge 52 = .ok (.iload_n 3, 1) := by decide +kernel
theorem dX8_judge_53 : decode cX8_judge 53 = .ok (.isub, 1) := by decide +kernel
theorem dX8_judge_54 : decode cX8_judge 54 = .ok (.iconst 1, 1) := by decide +kernel
theorem dX8_judge_55 : decode cX8_judge 55 = .ok (.isub, 1) := by decide +kernel
theorem dX8_judge_56 : decode cX8_judge 56 = .ok (.if_icmp .le 8, 3) := by decide +kernel
theorem dX8_judge_59 : decode cX8_judge 59 = .ok (.bipush 100, 2) := by decide +kernel
theorem dX8_judge_61 : decode cX8_judge 61 = .ok (.iload_n 3, 1) := by decide +kernel
theorem dX8_judge_62 : decode cX8_judge 62 = .ok (.iadd, 1) := by decide +kernel
theorem dX8_judge_63 : decode cX8_judge 63 = .ok (.ireturn, 1) := by decide +kernel
theorem dX8_judge_64 : decode cX8_judge 64 = .ok (.aload_n 0, 1) := by decide +kernel
theorem dX8_judge_65 : decode cX8_judge 65 = .ok (.getfield 211, 3) := by decide +kernel
theorem dX8_judge_68 : decode cX8_judge 68 = .ok (.bipush 60, 2) := by decide +kernel
theorem dX8_judge_70 : decode cX8_judge 70 = .ok (.iload_n 1, 1) := by decide +kernel
theorem dX8_judge_71 : decode cX8_judge 71 = .ok (.imul, 1) := by decide +kernel
theorem dX8_judge_72 : decode cX8_judge 72 = .ok (.iload_n 2, 1) := by decide +kernel
theorem dX8_judge_73 : decode cX8_judge 73 = .ok (.iadd, 1) := by decide +kernel
theorem dX8_judge_74 : decode cX8_judge 74 = .ok (.iload_n 3, 1) := by decide +kernel
theorem dX8_judge_75 : decode cX8_judge 75 = .ok (.iadd, 1) := by decide +kernel
theorem dX8_judge_76 : decode cX8_judge 76 = .ok (.laload, 1) := by decide +kernel
theorem dX8_judge_77 : decode cX8_judge 77 = .ok (.aload_n 0, 1) := by decide +kernel
theorem dX8_judge_78 : decode cX8_judge 78 = .ok (.getfield 23, 3) := by decide +kernel
theorem dX8_judge_81 : decode cX8_judge 81 = .ok (.iload_n 3, 1) := by decide +kernel
theorem dX8_judge_82 : decode cX8_judge 82 = .ok (.iaload, 1) := by decide +kernel
theorem dX8_judge_83 : decode cX8_judge 83 = .ok (.i2l, 1) := by decide +kernel
theorem dX8_judge_84 : decode cX8_judge 84 = .ok (.lcmp, 1) := by decide +kernel
theorem dX8_judge_85 : decode cX8_judge 85 = .ok (.ifCond .eq 5, 3) := by decide +kernel
theorem dX8_judge_88 : decode cX8_judge 88 = .ok (.iload_n 3, 1) := by decide +kernel
theorem dX8_judge_89 : decode cX8_judge 89 = .ok (.ireturn, 1) := by decide +kernel
theorem dX8_judge_90 : decode cX8_judge 90 = .ok (.iinc 3 1, 3) := by decide +kernel
theorem dX8_judge_93 : decode cX8_judge 93 = .ok (.goto (-69), 3) := by decide +kernel
theorem dX8_judge_96 : decode cX8_judge 96 = .ok (.bipush (-5), 2) := by decide +kernel
theorem dX8_judge_98 : decode cX8_judge 98 = .ok (.ireturn, 1) := by decide +kernel
theorem dX8_image_0 : decode cX8_image 0 = .ok (.aload_n 0, 1) := by decide +kernel
theorem dX8_image_1 : decode cX8_image 1 = .ok (.iconst 1, 1) := by decide +kernel
theorem dX8_image_2 : decode cX8_image 2 = .ok (.putfield 141, 3) := by decide +kernel
theorem dX8_image_5 : decode cX8_image 5 = .ok (.aload_n 0, 1) := by decide +kernel
theorem dX8_image_6 : decode cX8_image 6 = .ok (.aload_n 0, 1) := by decide +kernel
theorem dX8_image_7 : decode cX8_image 7 = .ok (.getfield 35, 3) := by decide +kernel
theorem dX8_image_10 : decode cX8_image 10 = .ok (.putfield 145, 3) := by decide +kernel
theorem dX8_image_13 : decode cX8_image 13 = .ok (.aload_n 0, 1) := by decide +kernel
theorem dX8_image_14 : decode cX8_image 14 = .ok (.aload_n 0, 1) := by decide +kernel
theorem dX8_image_15 : decode cX8_image 15 = .ok (.getfield 7, 3) := by decide +kernel
theorem dX8_image_18 : decode cX8_image 18 = .ok (.putfield 148, 3) := by decide +kernel
theorem dX8_image_21 : decode cX8_image 21 = .ok (.aload_n 0, 1) := by decide +kernel
theorem dX8_image_22 : decode cX8_image 22 = .ok (.aload_n 0, 1) := by decide +kernel
theorem dX8_image_23 : decode cX8_image 23 = .ok (.getfield 13, 3) := by decide +kernel
theorem dX8_image_26 : decode cX8_image 26 = .ok (.putfield 151, 3) := by decide +kernel
theorem dX8_image_29 : decode cX8_image 29 = .ok (.aload_n 0, 1) := by decide +kernel
theorem dX8_image_30 : decode cX8_image 30 = .ok (.aload_n 0, 1) := by decide +kernel
theorem dX8_image_31 : decode cX8_image 31 = .ok (.getfield 111, 3) := by decide +kernel
theorem dX8_image_34 : decode cX8_image 34 = .ok (.putfield 154, 3) := by decide +kernel
theorem dX8_image_37 : decode cX8_image 37 = .ok (.aload_n 0, 1) := by decide +kernel
theorem dX8_image_38 : decode cX8_image 38 = .ok (.aload_n 0, 1) := by decide +kernel
theorem dX8_image_39 : decode cX8_image 39 = .ok (.getfield 123, 3) := by decide +kernel
theorem dX8_image_42 : decode cX8_image 42 = .ok (.putfield 157, 3) := by decide +kernel
theorem dX8_image_45 : decode cX8_image 45 = .ok (.aload_n 0, 1) := by decide +kernel
theorem dX8_image_46 : decode cX8_image 46 = .ok (.aload_n 0, 1) := by decide +kernel
theorem dX8_image_47 : decode cX8_image 47 = .ok (.getfield 126, 3) := by decide +kernel
theorem dX8_image_50 : decode cX8_image 50 = .ok (.putfield 160, 3) := by decide +kernel
theorem dX8_image_53 : decode cX8_image 53 = .ok (.iconst 0, 1) := by decide +kernel
theorem dX8_image_54 : decode cX8_image 54 = .ok (.istore_n 1, 1) := by decide +kernel
theorem dX8_image_55 : decode cX8_image 55 = .ok (.iload_n 1, 1) := by decide +kernel
theorem dX8_image_56 : decode cX8_image 56 = .ok (.bipush 6, 2) := by decide +kernel
theorem dX8_image_58 : decode cX8_image 58 = .ok (.if_icmp .ge 57, 3) := by decide +kernel
theorem dX8_image_61 : decode cX8_image 61 = .ok (.aload_n 0, 1) := by decide +kernel
theorem dX8_image_62 : decode cX8_image 62 = .ok (.getfield 163, 3) := by decide +kernel
theorem dX8_image_65 : decode cX8_image 65 = .ok (.iload_n 1, 1) := by decide +kernel
theorem dX8_image_66 : decode cX8_image 66 = .ok (.aload_n 0, 1) := by decide +kernel
theorem dX8_image_67 : decode cX8_image 67 = .ok (.getfield 16, 3) := by decide +kernel
theorem dX8_image_70 : decode cX8_image 70 = .ok (.iload_n 1, 1) := by decide +kernel
theorem dX8_image_71 : decode cX8_image 71 = .ok (.iaload, 1) := by decide +kernel
theorem dX8_image_72 : decode cX8_image 72 = .ok (.iastore, 1) := by decide +kernel
theorem dX8_image_73 : decode cX8_image 73 = .ok (.aload_n 0, 1) := by decide +kernel
theorem dX8_image_74 : decode cX8_image 74 = .ok (.getfield 166, 3) := by decide +kernel
theorem dX8_image_77 : decode cX8_image 77 = .ok (.iload_n 1, 1) := by decide +kernel
theorem dX8_image_78 : decode cX8_image 78 = .ok (.aload_n 0, 1) := by decide +kernel
theorem dX8_image_79 : decode cX8_image 79 = .ok (.getfield 20, 3) := by decide +kernel
theorem dX8_image_82 : decode cX8_image 82 = .ok (.iload_n 1, 1) := by decide +kernel
theorem dX8_image_83 : decode cX8_image 83 = .ok (.iaload, 1) := by decide +kernel
theorem dX8_image_84 : decode cX8_image 84 = .ok (.iastore, 1) := by decide +kernel
theorem dX8_image_85 : decode cX8_image 85 = .ok (.aload_n 0, 1) := by decide +kernel
theorem dX8_image_86 : decode cX8_image 86 = .ok (.getfield 169, 3) := by decide +kernel
theorem dX8_image_89 : decode cX8_image 89 = .ok (.iload_n 1, 1) := by decide +kernel
theorem dX8_image_90 : decode cX8_image 90 = .ok (.aload_n 0, 1) := by decide +kernel
theorem dX8_image_91 : decode cX8_image 91 = .ok (.getfield 23, 3) := by decide +kernel
theorem dX8_image_94 : decode cX8_image 94 = .ok (.iload_n 1, 1) := by decide +kernel
theorem dX8_image_95 : decode cX8_image 95 = .ok (.iaload, 1) := by decide +kernel
theorem dX8_image_96 : decode cX8_image 96 = .ok (.iastore, 1) := by decide +kernel
theorem dX8_image_97 : decode cX8_image 97 = .ok (.aload_n 0, 1) := by decide +kernel
theorem dX8_image_98 : decode cX8_image 98 = .ok (.getfield 172, 3) := by decide +kernel
theorem dX8_image_101 : decode cX8_image 101 = .ok (.iload_n 1, 1) := by decide +kernel
theorem dX8_image_102 : decode cX8_image 102 = .ok (.aload_n 0, 1) := by decide +kernel
theorem dX8_image_103 : decode cX8_image 103 = .ok (.getfield 26, 3) := by decide +kernel
theorem dX8_image_106 : decode cX8_image 106 = .ok (.iload_n 1, 1) := by decide +kernel
theorem dX8_image_107 : decode cX8_image 107 = .ok (.iaload, 1) := by decide +kernel
theorem dX8_image_108 : decode cX8_image 108 = .ok (.iastore, 1) := by decide +kernel
theorem dX8_image_109 : decode cX8_image 109 = .ok (.iinc 1 1, 3) := by decide +kernel
theorem dX8_image_112 : decode cX8_image 112 = .ok (.goto (-57), 3) := by decide +kernel
theorem dX8_image_115 : decode cX8_image 115 = .ok (.iconst 0, 1) := by decide +kernel
theorem dX8_image_116 : decode cX8_image 116 = .ok (.istore_n 1, 1) := by decide +kernel
theorem dX8_image_117 : decode cX8_image 117 = .ok (.iload_n 1, 1) := by decide +kernel
theorem dX8_image_118 : decode cX8_image 118 = .ok (.bipush 24, 2) := by decide +kernel
theorem dX8_image_120 : decode cX8_image 120 = .ok (.if_icmp .ge 21, 3) := by decide +kernel
theorem dX8_image_123 : decode cX8_image 123 = .ok (.aload_n 0, 1) := by decide +kernel
theorem dX8_image_124 : decode cX8_image 124 = .ok (.getfield 175, 3) := by decide +kernel
theorem dX8_image_127 : decode cX8_image 127 = .ok (.iload_n 1, 1) := by decide +kernel
theorem dX8_image_128 : decode cX8_image 128 = .ok (.aload_n 0, 1) := by decide +kernel
theorem dX8_image_129 : decode cX8_image 129 = .ok (.getfield 29, 3) := by decide +kernel
theorem dX8_image_132 : decode cX8_image 132 = .ok (.iload_n 1, 1) := by decide +kernel
theorem dX8_image_133 : decode cX8_image 133 = .ok (.iaload, 1) := by decide +kernel
theorem dX8_image_134 : decode cX8_image 134 = .ok (.iastore, 1) := by decide +kernel
theorem dX8_image_135 : decode cX8_image 135 = .ok (.iinc 1 1, 3) := by decide +kernel
theorem dX8_image_138 : decode cX8_image 138 = .ok (.goto (-21), 3) := by decide +kernel
theorem dX8_image_141 : decode cX8_image 141 = .ok (.iconst 0, 1) := by decide +kernel
theorem dX8_image_142 : decode cX8_image 142 = .ok (.istore_n 1, 1) := by decide +kernel
theorem dX8_image_143 : decode cX8_image 143 = .ok (.iload_n 1, 1) := by decide +kernel
theorem dX8_image_144 : decode cX8_image 144 = .ok (.iconst 5, 1) := by decide +kernel
theorem dX8_image_145 : decode cX8_image 145 = .ok (.if_icmp .ge 45, 3) := by decide +kernel
theorem dX8_image_148 : decode cX8_image 148 = .ok (.aload_n 0, 1) := by decide +kernel
theorem dX8_image_149 : decode cX8_image 149 = .ok (.getfield 178, 3) := by decide +kernel
theorem dX8_image_152 : decode cX8_image 152 = .ok (.iload_n 1, 1) := by decide +kernel
theorem dX8_image_153 : decode cX8_image 153 = .ok (.aload_n 0, 1) := by decide +kernel
theorem dX8_image_154 : decode cX8_image 154 = .ok (.getfield 114, 3) := by decide +kernel
theorem dX8_image_157 : decode cX8_image 157 = .ok (.iload_n 1, 1) := by decide +kernel
theorem dX8_image_158 : decode cX8_image 158 = .ok (.iaload, 1) := by decide +kernel
theorem dX8_image_159 : decode cX8_image 159 = .ok (.iastore, 1) := by decide +kernel
theorem dX8_image_160 : decode cX8_image 160 = .ok (.aload_n 0, 1) := by decide +kernel
theorem dX8_image_161 : decode cX8_image 161 = .ok (.getfield 181, 3) := by decide +kernel
theorem dX8_image_164 : decode cX8_image 164 = .ok (.iload_n 1, 1) := by decide +kernel
theorem dX8_image_165 : decode cX8_image 165 = .ok (.aload_n 0, 1) := by decide +kernel
theorem dX8_image_166 : decode cX8_image 166 = .ok (.getfield 117, 3) := by decide +kernel
theorem dX8_image_169 : decode cX8_image 169 = .ok (.iload_n 1, 1) := by decide +kernel
theorem dX8_image_170 : decode cX8_image 170 = .ok (.iaload, 1) := by decide +kernel
theorem dX8_image_171 : decode cX8_image 171 = .ok (.iastore, 1) := by decide +kernel
theorem dX8_image_172 : decode cX8_image 172 = .ok (.aload_n 0, 1) := by decide +kernel
theorem dX8_image_173 : decode cX8_image 173 = .ok (.getfield 184, 3) := by decide +kernel
theorem dX8_image_176 : decode cX8_image 176 = .ok (.iload_n 1, 1) := by decide +kernel
theorem dX8_image_177 : decode cX8_image 177 = .ok (.aload_n 0, 1) := by decide +kernel
theorem dX8_image_178 : decode cX8_image 178 = .ok (.getfield 120, 3) := by decide +kernel
theorem dX8_image_181 : decode cX8_image 181 = .ok (.iload_n 1, 1) := by decide +kernel
theorem dX8_image_182 : decode cX8_image 182 = .ok (.iaload, 1) := by decide +kernel
theorem dX8_image_183 : decode cX8_image 183 = .ok (.iastore, 1) := by decide +kernel
theorem dX8_image_184 : decode cX8_image 184 = .ok (.iinc 1 1, 3) := by decide +kernel
theorem dX8_image_187 : decode cX8_image 187 = .ok (.goto (-44), 3) := by decide +kernel
theorem dX8_image_190 : decode cX8_image 190 = .ok (.iconst 0, 1) := by decide +kernel
theorem dX8_image_191 : decode cX8_image 191 = .ok (.istore_n 1, 1) := by decide +kernel
theorem dX8_image_192 : decode cX8_image 192 = .ok (.iload_n 1, 1) := by decide +kernel
theorem dX8_image_193 : decode cX8_image 193 = .ok (.bipush 10, 2) := by decide +kernel
theorem dX8_image_195 : decode cX8_image 195 = .ok (.if_icmp .ge 33, 3) := by decide +kernel
theorem dX8_image_198 : decode cX8_image 198 = .ok (.aload_n 0, 1) := by decide +kernel
theorem dX8_image_199 : decode cX8_image 199 = .ok (.getfield 187, 3) := by decide +kernel
theorem dX8_image_202 : decode cX8_image 202 = .ok (.iload_n 1, 1) := by decide +kernel
theorem dX8_image_203 : decode cX8_image 203 = .ok (.aload_n 0, 1) := by decide +kernel
theorem dX8_image_204 : decode cX8_image 204 = .ok (.getfield 129, 3) := by decide +kernel
theorem dX8_image_207 : decode cX8_image 207 = .ok (.iload_n 1, 1) := by decide +kernel
theorem dX8_image_208 : decode cX8_image 208 = .ok (.iaload, 1) := by decide +kernel
theorem dX8_image_209 : decode cX8_image 209 = .ok (.iastore, 1) := by decide +kernel
theorem dX8_image_210 : decode cX8_image 210 = .ok (.aload_n 0, 1) := by decide +kernel
theorem dX8_image_211 : decode cX8_image 211 = .ok (.getfield 190, 3) := by decide +kernel
theorem dX8_image_214 : decode cX8_image 214 = .ok (.iload_n 1, 1) := by decide +kernel
theorem dX8_image_215 : decode cX8_image 215 = .ok (.aload_n 0, 1) := by decide +kernel
theorem dX8_image_216 : decode cX8_image 216 = .ok (.getfield 132, 3) := by decide +kernel
theorem dX8_image_219 : decode cX8_image 219 = .ok (.iload_n 1, 1) := by decide +kernel
theorem dX8_image_220 : decode cX8_image 220 = .ok (.iaload, 1) := by decide +kernel
theorem dX8_image_221 : decode cX8_image 221 = .ok (.iastore, 1) := by decide +kernel
theorem dX8_image_222 : decode cX8_image 222 = .ok (.iinc 1 1, 3) := by decide +kernel
theorem dX8_image_225 : decode cX8_image 225 = .ok (.goto (-33), 3) := by decide +kernel
theorem dX8_image_228 : decode cX8_image 228 = .ok (.iconst 0, 1) := by decide +kernel
theorem dX8_image_229 : decode cX8_image 229 = .ok (.istore_n 1, 1) := by decide +kernel
theorem dX8_image_230 : decode cX8_image 230 = .ok (.iload_n 1, 1) := by decide +kernel
theorem dX8_image_231 : decode cX8_image 231 = .ok (.bipush 8, 2) := by decide +kernel
theorem dX8_image_233 : decode cX8_image 233 = .ok (.if_icmp .ge 33, 3) := by decide +kernel
theorem dX8_image_236 : decode cX8_image 236 = .ok (.aload_n 0, 1) := by decide +kernel
theorem dX8_image_237 : decode cX8_image 237 = .ok (.getfield 193, 3) := by decide +kernel
theorem dX8_image_240 : decode cX8_image 240 = .ok (.iload_n 1, 1) := by decide +kernel
theorem dX8_image_241 : decode cX8_image 241 = .ok (.aload_n 0, 1) := by decide +kernel
theorem dX8_image_242 : decode cX8_image 242 = .ok (.getfield 135, 3) := by decide +kernel
theorem dX8_image_245 : decode cX8_image 245 = .ok (.iload_n 1, 1) := by decide +kernel
theorem dX8_image_246 : decode cX8_image 246 = .ok (.iaload, 1) := by decide +kernel
theorem dX8_image_247 : decode cX8_image 247 = .ok (.iastore, 1) := by decide +kernel
theorem dX8_image_248 : decode cX8_image 248 = .ok (.aload_n 0, 1) := by decide +kernel
theorem dX8_image_249 : decode cX8_image 249 = .ok (.getfield 196, 3) := by decide +kernel
theorem dX8_image_252 : decode cX8_image 252 = .ok (.iload_n 1, 1) := by decide +kernel
theorem dX8_image_253 : decode cX8_image 253 = .ok (.aload_n 0, 1) := by decide +kernel
theorem dX8_image_254 : decode cX8_image 254 = .ok (.getfield 138, 3) := by decide +kernel
theorem dX8_image_257 : decode cX8_image 257 = .ok (.iload_n 1, 1) := by decide +kernel
theorem dX8_image_258 : decode cX8_image 258 = .ok (.iaload, 1) := by decide +kernel
theorem dX8_image_259 : decode cX8_image 259 = .ok (.iastore, 1) := by decide +kernel
theorem dX8_image_260 : decode cX8_image 260 = .ok (.iinc 1 1, 3) := by decide +kernel
theorem dX8_image_263 : decode cX8_image 263 = .ok (.goto (-33), 3) := by decide +kernel
theorem dX8_image_266 : decode cX8_image 266 = .ok (.aload_n 0, 1) := by decide +kernel
theorem dX8_image_267 : decode cX8_image 267 = .ok (.getfield 7, 3) := by decide +kernel
theorem dX8_image_270 : decode cX8_image 270 = .ok (.ireturn, 1) := by decide +kernel
theorem dX8_undo_0 : decode cX8_undo 0 = .ok (.aload_n 0, 1) := by decide +kernel
theorem dX8_undo_1 : decode cX8_undo 1 = .ok (.getfield 141, 3) := by decide +kernel
theorem dX8_undo_4 : decode cX8_undo 4 = .ok (.ifCond .ne 6, 3) := by decide +kernel
theorem dX8_undo_7 : decode cX8_undo 7 = .ok (.bipush (-3), 2) := by decide +kernel
theorem dX8_undo_9 : decode cX8_undo 9 = .ok (.ireturn, 1) := by decide +kernel
theorem dX8_undo_10 : decode cX8_undo 10 = .ok (.aload_n 0, 1) := by decide +kernel
theorem dX8_undo_11 : decode cX8_undo 11 = .ok (.aload_n 0, 1) := by decide +kernel
theorem dX8_undo_12 : decode cX8_undo 12 = .ok (.getfield 145, 3) := by decide +kernel
theorem dX8_undo_15 : decode cX8_undo 15 = .ok (.putfield 35, 3) := by decide +kernel
theorem dX8_undo_18 : decode cX8_undo 18 = .ok (.aload_n 0, 1) := by decide +kernel
theorem dX8_undo_19 : decode cX8_undo 19 = .ok (.aload_n 0, 1) := by decide +kernel
theorem dX8_undo_20 : decode cX8_undo 20 = .ok (.getfield 148, 3) := by decide +kernel
theorem dX8_undo_23 : decode cX8_undo 23 = .ok (.putfield 7, 3) := by decide +kernel
theorem dX8_undo_26 : decode cX8_undo 26 = .ok (.aload_n 0, 1) := by decide +kernel
theorem dX8_undo_27 : decode cX8_undo 27 = .ok (.aload_n 0, 1) := by decide +kernel
theorem dX8_undo_28 : decode cX8_undo 28 = .ok (.getfield 151, 3) := by decide +kernel
theorem dX8_undo_31 : decode cX8_undo 31 = .ok (.putfield 13, 3) := by decide +kernel
theorem dX8_undo_34 : decode cX8_undo 34 = .ok (.aload_n 0, 1) := by decide +kernel
theorem dX8_undo_35 : decode cX8_undo 35 = .ok (.aload_n 0, 1) := by decide +kernel
theorem dX8_undo_36 : decode cX8_undo 36 = .ok (.getfield 154, 3) := by decide +kernel
theorem dX8_undo_39 : decode cX8_undo 39 = .ok (.putfield 111, 3) := by decide +kernel
theorem dX8_undo_42 : decode cX8_undo 42 = .ok (.aload_n 0, 1) := by decide +kernel
theorem dX8_undo_43 : decode cX8_undo 43 = .ok (.aload_n 0, 1) := by decide +kernel
theorem dX8_undo_44 : decode cX8_undo 44 = .ok (.getfield 157, 3) := by decide +kernel
theorem dX8_undo_47 : decode cX8_undo 47 = .ok (.putfield 123, 3) := by decide +kernel
theorem dX8_undo_50 : decode cX8_undo 50 = .ok (.aload_n 0, 1) := by decide +kernel
theorem dX8_undo_51 : decode cX8_undo 51 = .ok (.aload_n 0, 1) := by decide +kernel
theorem dX8_undo_52 : decode cX8_undo 52 = .ok (.getfield 160, 3) := by decide +kernel
theorem dX8_undo_55 : decode cX8_undo 55 = .ok (.putfield 126, 3) := by decide +kernel
theorem dX8_undo_58 : decode cX8_undo 58 = .ok (.iconst 0, 1) := by decide +kernel
theorem dX8_undo_59 : decode cX8_undo 59 = .ok (.istore_n 1, 1) := by decide +kernel
theorem dX8_undo_60 : decode cX8_undo 60 = .ok (.iload_n 1, 1) := by decide +kernel
theorem dX8_undo_61 : decode cX8_undo 61 = .ok (.bipush 6, 2) := by decide +kernel
theorem dX8_undo_63 : decode cX8_undo 63 = .ok (.if_icmp .ge 57, 3) := by decide +kernel
theorem dX8_undo_66 : decode cX8_undo 66 = .ok (.aload_n 0, 1) := by decide +kernel
theorem dX8_undo_67 : decode cX8_undo 67 = .ok (.getfield 16, 3) := by decide +kernel
theorem dX8_undo_70 : decode cX8_undo 70 = .ok (.iload_n 1, 1) := by decide +kernel
theorem dX8_undo_71 : decode cX8_undo 71 = .ok (.aload_n 0, 1) := by decide +kernel
theorem dX8_undo_72 : decode cX8_undo 72 = .ok (.getfield 163, 3) := by decide +kernel
theorem dX8_undo_75 : decode cX8_undo 75 = .ok (.iload_n 1, 1) := by decide +kernel
theorem dX8_undo_76 : decode cX8_undo 76 = .ok (.iaload, 1) := by decide +kernel
theorem dX8_undo_77 : decode cX8_undo 77 = .ok (.iastore, 1) := by decide +kernel
theorem dX8_undo_78 : decode cX8_undo 78 = .ok (.aload_n 0, 1) := by decide +kernel
theorem dX8_undo_79 : decode cX8_undo 79 = .ok (.getfield 20, 3) := by decide +kernel
theorem dX8_undo_82 : decode cX8_undo 82 = .ok (.iload_n 1, 1) := by decide +kernel
theorem dX8_undo_83 : decode cX8_undo 83 = .ok (.aload_n 0, 1) := by decide +kernel
theorem dX8_undo_84 : decode cX8_undo 84 = .ok (.getfield 166, 3) := by decide +kernel
theorem dX8_undo_87 : decode cX8_undo 87 = .ok (.iload_n 1, 1) := by decide +kernel
theorem dX8_undo_88 : decode cX8_undo 88 = .ok (.iaload, 1) := by decide +kernel
theorem dX8_undo_89 : decode cX8_undo 89 = .ok (.iastore, 1) := by decide +kernel
theorem dX8_undo_90 : decode cX8_undo 90 = .ok (.aload_n 0, 1) := by decide +kernel
theorem dX8_undo_91 : decode cX8_undo 91 = .ok (.getfield 23, 3) := by decide +kernel
theorem dX8_undo_94 : decode cX8_undo 94 = .ok (.iload_n 1, 1) := by decide +kernel
theorem dX8_undo_95 : decode cX8_undo 95 = .ok (.aload_n 0, 1) := by decide +kernel
theorem dX8_undo_96 : decode cX8_undo 96 = .ok (.getfield 169, 3) := by decide +kernel
theorem dX8_undo_99 : decode cX8_undo 99 = .ok (.iload_n 1, 1) := by decide +kernel
theorem dX8_undo_100 : decode cX8_undo 100 = .ok (.iaload, 1) := by decide +kernel
theorem dX8_undo_101 : decode cX8_undo 101 = .ok (.iastore, 1) := by decide +kernel
theorem dX8_undo_102 : decode cX8_undo 102 = .ok (.aload_n 0, 1) := by decide +kernel
theorem dX8_undo_103 : decode cX8_undo 103 = .ok (.getfield 26, 3) := by decide +kernel
theorem dX8_undo_106 : decode cX8_undo 106 = .ok (.iload_n 1, 1) := by decide +kernel
theorem dX8_undo_107 : decode cX8_undo 107 = .ok (.aload_n 0, 1) := by decide +kernel
theorem dX8_undo_108 : decode cX8_undo 108 = .ok (.getfield 172, 3) := by decide +kernel
theorem dX8_undo_111 : decode cX8_undo 111 = .ok (.iload_n 1, 1) := by decide +kernel
theorem dX8_undo_112 : decode cX8_undo 112 = .ok (.iaload, 1) := by decide +kernel
theorem dX8_undo_113 : decode cX8_undo 113 = .ok (.iastore, 1) := by decide +kernel
theorem dX8_undo_114 : decode cX8_undo 114 = .ok (.iinc 1 1, 3) := by decide +kernel
theorem dX8_undo_117 : decode cX8_undo 117 = .ok (.goto (-57), 3) := by decide +kernel
theorem dX8_undo_120 : decode cX8_undo 120 = .ok (.iconst 0, 1) := by decide +kernel
theorem dX8_undo_121 : decode cX8_undo 121 = .ok (.istore_n 1, 1) := by decide +kernel
theorem dX8_undo_122 : decode cX8_undo 122 = .ok (.iload_n 1, 1) := by decide +kernel
theorem dX8_undo_123 : decode cX8_undo 123 = .ok (.bipush 24, 2) := by decide +kernel
theorem dX8_undo_125 : decode cX8_undo 125 = .ok (.if_icmp .ge 21, 3) := by decide +kernel
theorem dX8_undo_128 : decode cX8_undo 128 = .ok (.aload_n 0, 1) := by decide +kernel
theorem dX8_undo_129 : decode cX8_undo 129 = .ok (.getfield 29, 3) := by decide +kernel
theorem dX8_undo_132 : decode cX8_undo 132 = .ok (.iload_n 1, 1) := by decide +kernel
theorem dX8_undo_133 : decode cX8_undo 133 = .ok (.aload_n 0, 1) := by decide +kernel
theorem dX8_undo_134 : decode cX8_undo 134 = .ok (.getfield 175, 3) := by decide +kernel
theorem dX8_undo_137 : decode cX8_undo 137 = .ok (.iload_n 1, 1) := by decide +kernel
theorem dX8_undo_138 : decode cX8_undo 138 = .ok (.iaload, 1) := by decide +kernel
theorem dX8_undo_139 : decode cX8_undo 139 = .ok (.iastore, 1) := by decide +kernel
theorem dX8_undo_140 : decode cX8_undo 140 = .ok (.iinc 1 1, 3) := by decide +kernel
theorem dX8_undo_143 : decode cX8_undo 143 = .ok (.goto (-21), 3) := by decide +kernel
theorem dX8_undo_146 : decode cX8_undo 146 = .ok (.iconst 0, 1) := by decide +kernel
theorem dX8_undo_147 : decode cX8_undo 147 = .ok (.istore_n 1, 1) := by decide +kernel
theorem dX8_undo_148 : decode cX8_undo 148 = .ok (.iload_n 1, 1) := by decide +kernel
theorem dX8_undo_149 : decode cX8_undo 149 = .ok (.iconst 5, 1) := by decide +kernel
theorem dX8_undo_150 : decode cX8_undo 150 = .ok (.if_icmp .ge 45, 3) := by decide +kernel
theorem dX8_undo_153 : decode cX8_undo 153 = .ok (.aload_n 0, 1) := by decide +kernel
theorem dX8_undo_154 : decode cX8_undo 154 = .ok (.getfield 114, 3) := by decide +kernel
theorem dX8_undo_157 : decode cX8_undo 157 = .ok (.iload_n 1, 1) := by decide +kernel
theorem dX8_undo_158 : decode cX8_undo 158 = .ok (.aload_n 0, 1) := by decide +kernel
theorem dX8_undo_159 : decode cX8_undo 159 = .ok (.getfield 178, 3) := by decide +kernel
theorem dX8_undo_162 : decode cX8_undo 162 = .ok (.iload_n 1, 1) := by decide +kernel
theorem dX8_undo_163 : decode cX8_undo 163 = .ok (.iaload, 1) := by decide +kernel
theorem dX8_undo_164 : decode cX8_undo 164 = .ok (.iastore, 1) := by decide +kernel
theorem dX8_undo_165 : decode cX8_undo 165 = .ok (.aload_n 0, 1) := by decide +kernel
theorem dX8_undo_166 : decode cX8_undo 166 = .ok (.getfield 117, 3) := by decide +kernel
theorem dX8_undo_169 : decode cX8_undo 169 = .ok (.iload_n 1, 1) := by decide +kernel
theorem dX8_undo_170 : decode cX8_undo 170 = .ok (.aload_n 0, 1) := by decide +kernel
theorem dX8_undo_171 : decode cX8_undo 171 = .ok (.getfield 181, 3) := by decide +kernel
theorem dX8_undo_174 : decode cX8_undo 174 = .ok (.iload_n 1, 1) := by decide +kernel
theorem dX8_undo_175 : decode cX8_undo 175 = .ok (.iaload, 1) := by decide +kernel
theorem dX8_undo_176 : decode cX8_undo 176 = .ok (.iastore, 1) := by decide +kernel
theorem dX8_undo_177 : decode cX8_undo 177 = .ok (.aload_n 0, 1) := by decide +kernel
theorem dX8_undo_178 : decode cX8_undo 178 = .ok (.getfield 120, 3) := by decide +kernel
theorem dX8_undo_181 : decode cX8_undo 181 = .ok (.iload_n 1, 1) := by decide +kernel
theorem dX8_undo_182 : decode cX8_undo 182 = .ok (.aload_n 0, 1) := by decide +kernel
theorem dX8_undo_183 : decode cX8_undo 183 = .ok (.getfield 184, 3) := by decide +kernel
theorem dX8_undo_186 : decode cX8_undo 186 = .ok (.iload_n 1, 1) := by decide +kernel
theorem dX8_undo_187 : decode cX8_undo 187 = .ok (.iaload, 1) := by decide +kernel
theorem dX8_undo_188 : decode cX8_undo 188 = .ok (.iastore, 1) := by decide +kernel
theorem dX8_undo_189 : decode cX8_undo 189 = .ok (.iinc 1 1, 3) := by decide +kernel
theorem dX8_undo_192 : decode cX8_undo 192 = .ok (.goto (-44), 3) := by decide +kernel
theorem dX8_undo_195 : decode cX8_undo 195 = .ok (.iconst 0, 1) := by decide +kernel
theorem dX8_undo_196 : decode cX8_undo 196 = .ok (.istore_n 1, 1) := by decide +kernel
theorem dX8_undo_197 : decode cX8_undo 197 = .ok (.iload_n 1, 1) := by decide +kernel
theorem dX8_undo_198 : decode cX8_undo 198 = .ok (.bipush 10, 2) := by decide +kernel
theorem dX8_undo_200 : decode cX8_undo 200 = .ok (.if_icmp .ge 33, 3) := by decide +kernel
theorem dX8_undo_203 : decode cX8_undo 203 = .ok (.aload_n 0, 1) := by decide +kernel
theorem dX8_undo_204 : decode cX8_undo 204 = .ok (.getfield 129, 3) := by decide +kernel
theorem dX8_undo_207 : decode cX8_undo 207 = .ok (.iload_n 1, 1) := by decide +kernel
theorem dX8_undo_208 : decode cX8_undo 208 = .ok (.aload_n 0, 1) := by decide +kernel
theorem dX8_undo_209 : decode cX8_undo 209 = .ok (.getfield 187, 3) := by decide +kernel
theorem dX8_undo_212 : decode cX8_undo 212 = .ok (.iload_n 1, 1) := by decide +kernel
theorem dX8_undo_213 : decode cX8_undo 213 = .ok (.iaload, 1) := by decide +kernel
theorem dX8_undo_214 : decode cX8_undo 214 = .ok (.iastore, 1) := by decide +kernel
theorem dX8_undo_215 : decode cX8_undo 215 = .ok (.aload_n 0, 1) := by decide +kernel
theorem dX8_undo_216 : decode cX8_undo 216 = .ok (.getfield 132, 3) := by decide +kernel
theorem dX8_undo_219 : decode cX8_undo 219 = .ok (.iload_n 1, 1) := by decide +kernel
theorem dX8_undo_220 : decode cX8_undo 220 = .ok (.aload_n 0, 1) := by decide +kernel
theorem dX8_undo_221 : decode cX8_undo 221 = .ok (.getfield 190, 3) := by decide +kernel
theorem dX8_undo_224 : decode cX8_undo 224 = .ok (.iload_n 1, 1) := by decide +kernel
theorem dX8_undo_225 : decode cX8_undo 225 = .ok (.iaload, 1) := by decide +kernel
theorem dX8_undo_226 : decode cX8_undo 226 = .ok (.iastore, 1) := by decide +kernel
theorem dX8_undo_227 : decode cX8_undo 227 = .ok (.iinc 1 1, 3) := by decide +kernel
theorem dX8_undo_230 : decode cX8_undo 230 = .ok (.goto (-33), 3) := by decide +kernel
theorem dX8_undo_233 : decode cX8_undo 233 = .ok (.iconst 0, 1) := by decide +kernel
theorem dX8_undo_234 : decode cX8_undo 234 = .ok (.istore_n 1, 1) := by decide +kernel
theorem dX8_undo_235 : decode cX8_undo 235 = .ok (.iload_n 1, 1) := by decide +kernel
theorem dX8_undo_236 : decode cX8_undo 236 = .ok (.bipush 8, 2) := by decide +kernel
theorem dX8_undo_238 : decode cX8_undo 238 = .ok (.if_icmp .ge 33, 3) := by decide +kernel
theorem dX8_undo_241 : decode cX8_undo 241 = .ok (.aload_n 0, 1) := by decide +kernel
theorem dX8_undo_242 : decode cX8_undo 242 = .ok (.getfield 135, 3) := by decide +kernel
theorem dX8_undo_245 : decode cX8_undo 245 = .ok (.iload_n 1, 1) := by decide +kernel
theorem dX8_undo_246 : decode cX8_undo 246 = .ok (.aload_n 0, 1) := by decide +kernel
theorem dX8_undo_247 : decode cX8_undo 247 = .ok (.getfield 193, 3) := by decide +kernel
theorem dX8_undo_250 : decode cX8_undo 250 = .ok (.iload_n 1, 1) := by decide +kernel
theorem dX8_undo_251 : decode cX8_undo 251 = .ok (.iaload, 1) := by decide +kernel
theorem dX8_undo_252 : decode cX8_undo 252 = .ok (.iastore, 1) := by decide +kernel
theorem dX8_undo_253 : decode cX8_undo 253 = .ok (.aload_n 0, 1) := by decide +kernel
theorem dX8_undo_254 : decode cX8_undo 254 = .ok (.getfield 138, 3) := by decide +kernel
theorem dX8_undo_257 : decode cX8_undo 257 = .ok (.iload_n 1, 1) := by decide +kernel
theorem dX8_undo_258 : decode cX8_undo 258 = .ok (.aload_n 0, 1) := by decide +kernel
theorem dX8_undo_259 : decode cX8_undo 259 = .ok (.getfield 196, 3) := by decide +kernel
theorem dX8_undo_262 : decode cX8_undo 262 = .ok (.iload_n 1, 1) := by decide +kernel
theorem dX8_undo_263 : decode cX8_undo 263 = .ok (.iaload, 1) := by decide +kernel
theorem dX8_undo_264 : decode cX8_undo 264 = .ok (.iastore, 1) := by decide +kernel
theorem dX8_undo_265 : decode cX8_undo 265 = .ok (.iinc 1 1, 3) := by decide +kernel
theorem dX8_undo_268 : decode cX8_undo 268 = .ok (.goto (-33), 3) := by decide +kernel
theorem dX8_undo_271 : decode cX8_undo 271 = .ok (.aload_n 0, 1) := by decide +kernel
theorem dX8_undo_272 : decode cX8_undo 272 = .ok (.getfield 7, 3) := by decide +kernel
theorem dX8_undo_275 : decode cX8_undo 275 = .ok (.ireturn, 1) := by decide +kernel
theorem dX8_body_0 : decode cX8_body 0 = .ok (.aload_n 0, 1) := by decide +kernel
theorem dX8_body_1 : decode cX8_body 1 = .ok (.getfield 199, 3) := by decide +kernel
theorem dX8_body_4 : decode cX8_body 4 = .ok (.bipush 20, 2) := by decide +kernel
theorem dX8_body_6 : decode cX8_body 6 = .ok (.if_icmp .ge 13, 3) := by decide +kernel
theorem dX8_body_9 : decode cX8_body 9 = .ok (.aload_n 0, 1) := by decide +kernel
theorem dX8_body_10 : decode cX8_body 10 = .ok (.getfield 202, 3) := by decide +kernel
theorem dX8_body_13 : decode cX8_body 13 = .ok (.aload_n 0, 1) := by decide +kernel
theorem dX8_body_14 : decode cX8_body 14 = .ok (.getfield 199, 3) := by decide +kernel
theorem dX8_body_17 : decode cX8_body 17 = .ok (.iload_n 1, 1) := by decide +kernel
theorem dX8_body_18 : decode cX8_body 18 = .ok (.iastore, 1) := by decide +kernel
theorem dX8_body_19 : decode cX8_body 19 = .ok (.aload_n 0, 1) := by decide +kernel
theorem dX8_body_20 : decode cX8_body 20 = .ok (.dup, 1) := by decide +kernel
theorem dX8_body_21 : decode cX8_body 21 = .ok (.getfield 199, 3) := by decide +kernel
theorem dX8_body_24 : decode cX8_body 24 = .ok (.iconst 1, 1) := by decide +kernel
theorem dX8_body_25 : decode cX8_body 25 = .ok (.iadd, 1) := by decide +kernel
theorem dX8_body_26 : decode cX8_body 26 = .ok (.putfield 199, 3) := by decide +kernel
theorem dX8_body_29 : decode cX8_body 29 = .ok (.return_, 1) := by decide +kernel
theorem dX8_soundCreaks_0 : decode cX8_soundCreaks 0 = .ok (.aload_n 0, 1) := by decide +kernel
theorem dX8_soundCreaks_1 : decode cX8_soundCreaks 1 = .ok (.bipush 10, 2) := by decide +kernel
theorem dX8_soundCreaks_3 : decode cX8_soundCreaks 3 = .ok (.invokevirtual 409, 3) := by decide +kernel
theorem dX8_soundCreaks_6 : decode cX8_soundCreaks 6 = .ok (.iload_n 2, 1) := by decide +kernel
theorem dX8_soundCreaks_7 : decode cX8_soundCreaks 7 = .ok (.iload_n 1, 1) := by decide +kernel
theorem dX8_soundCreaks_8 : decode cX8_soundCreaks 8 = .ok (.iadd, 1) := by decide +kernel
theorem dX8_soundCreaks_9 : decode cX8_soundCreaks 9 = .ok (.ireturn, 1) := by decide +kernel
theorem dX8_creaksAct_0 : decode cX8_creaksAct 0 = .ok (.aload_n 0, 1) := by decide +kernel
theorem dX8_creaksAct_1 : decode cX8_creaksAct 1 = .ok (.getfield 16, 3) := by decide +kernel
theorem dX8_creaksAct_4 : decode cX8_creaksAct 4 = .ok (.iload_n 1, 1) := by decide +kernel
theorem dX8_creaksAct_5 : decode cX8_creaksAct 5 = .ok (.iaload, 1) := by decide +kernel
theorem dX8_creaksAct_6 : decode cX8_creaksAct 6 = .ok (.tableswitch 83 2 6 #[34, 83, 49, 34, 63], 34) := by decide +kernel
theorem dX8_creaksAct_40 : decode cX8_creaksAct 40 = .ok (.aload_n 0, 1) := by decide +kernel
theorem dX8_creaksAct_41 : decode cX8_creaksAct 41 = .ok (.bipush 30, 2) := by decide +kernel
theorem dX8_creaksAct_43 : decode cX8_creaksAct 43 = .ok (.invokevirtual 409, 3) := by decide +kernel
theorem dX8_creaksAct_46 : decode cX8_creaksAct 46 = .ok (.aload_n 0, 1) := by decide +kernel
theorem dX8_creaksAct_47 : decode cX8_creaksAct 47 = .ok (.iload_n 1, 1) := by decide +kernel
theorem dX8_creaksAct_48 : decode cX8_creaksAct 48 = .ok (.iload_n 2, 1) := by decide +kernel
theorem dX8_creaksAct_49 : decode cX8_creaksAct 49 = .ok (.iconst 3, 1) := by decide +kernel
theorem dX8_creaksAct_50 : decode cX8_creaksAct 50 = .ok (.imul, 1) := by decide +kernel
theorem dX8_creaksAct_51 : decode cX8_creaksAct 51 = .ok (.invokevirtual 412, 3) := by decide +kernel
theorem dX8_creaksAct_54 : decode cX8_creaksAct 54 = .ok (.ireturn, 1) := by decide +kernel
theorem dX8_creaksAct_55 : decode cX8_creaksAct 55 = .ok (.aload_n 0, 1) := by decide +kernel
theorem dX8_creaksAct_56 : decode cX8_creaksAct 56 = .ok (.bipush 50, 2) := by decide +kernel
theorem dX8_creaksAct_58 : decode cX8_creaksAct 58 = .ok (.invokevirtual 409, 3) := by decide +kernel
theorem dX8_creaksAct_61 : decode cX8_creaksAct 61 = .ok (.aload_n 0, 1) := by decide +kernel
theorem dX8_creaksAct_62 : decode cX8_creaksAct 62 = .ok (.iload_n 1, 1) := by decide +kernel
theorem dX8_creaksAct_63 : decode cX8_creaksAct 63 = .ok (.iload_n 2, 1) := by decide +kernel
theorem dX8_creaksAct_64 : decode cX8_creaksAct 64 = .ok (.invokevirtual 412, 3) := by decide +kernel
theorem dX8_creaksAct_67 : decode cX8_creaksAct 67 = .ok (.ineg, 1) := by decide +kernel
theorem dX8_creaksAct_68 : decode cX8_creaksAct 68 = .ok (.ireturn, 1) := by decide +kernel
theorem dX8_creaksAct_69 : decode cX8_creaksAct 69 = .ok (.aload_n 0, 1) := by decide +kernel
theorem dX8_creaksAct_70 : decode cX8_creaksAct 70 = .ok (.bipush 71, 2) := by decide +kernel
theorem dX8_creaksAct_72 : decode cX8_creaksAct 72 = .ok (.invokevirtual 409, 3) := by decide +kernel
theorem dX8_creaksAct_75 : decode cX8_creaksAct 75 = .ok (.aload_n 0, 1) := by decide +kernel
theorem dX8_creaksAct_76 : decode cX8_creaksAct 76 = .ok (.iload_n 1, 1) := by decide +kernel
theorem dX8_creaksAct_77 : decode cX8_creaksAct 77 = .ok (.iload_n 2, 1) := by decide +kernel
theorem dX8_creaksAct_78 : decode cX8_creaksAct 78 = .ok (.invokevirtual 412, 3) := by decide +kernel
theorem dX8_creaksAct_81 : decode cX8_creaksAct 81 = .ok (.aload_n 0, 1) := by decide +kernel
theorem dX8_creaksAct_82 : decode cX8_creaksAct 82 = .ok (.getfield 20, 3) := by decide +kernel
theorem dX8_creaksAct_85 : decode cX8_creaksAct 85 = .ok (.iload_n 1, 1) := by decide +kernel
theorem dX8_creaksAct_86 : decode cX8_creaksAct 86 = .ok (.iaload, 1) := by decide +kernel
theorem dX8_creaksAct_87 : decode cX8_creaksAct 87 = .ok (.ixor, 1) := by decide +kernel
theorem dX8_creaksAct_88 : decode cX8_creaksAct 88 = .ok (.ireturn, 1) := by decide +kernel
theorem dX8_creaksAct_89 : decode cX8_creaksAct 89 = .ok (.aload_n 0, 1) := by decide +kernel
theorem dX8_creaksAct_90 : decode cX8_creaksAct 90 = .ok (.iload_n 1, 1) := by decide +kernel
theorem dX8_creaksAct_91 : decode cX8_creaksAct 91 = .ok (.iload_n 2, 1) := by decide +kernel
theorem dX8_creaksAct_92 : decode cX8_creaksAct 92 = .ok (.invokevirtual 412, 3) := by decide +kernel
theorem dX8_creaksAct_95 : decode cX8_creaksAct 95 = .ok (.ireturn, 1) := by decide +kernel
theorem dX8_soundRings_0 : decode cX8_soundRings 0 = .ok (.aload_n 0, 1) := by decide +kernel
theorem dX8_soundRings_1 : decode cX8_soundRings 1 = .ok (.bipush 11, 2) := by decide +kernel
theorem dX8_soundRings_3 : decode cX8_soundRings 3 = .ok (.invokevirtual 409, 3) := by decide +kernel
theorem dX8_soundRings_6 : decode cX8_soundRings 6 = .ok (.aload_n 0, 1) := by decide +kernel
theorem dX8_soundRings_7 : decode cX8_soundRings 7 = .ok (.iload_n 1, 1) := by decide +kernel
theorem dX8_soundRings_8 : decode cX8_soundRings 8 = .ok (.iload_n 2, 1) := by decide +kernel
theorem dX8_soundRings_9 : decode cX8_soundRings 9 = .ok (.invokevirtual 415, 3) := by decide +kernel
theorem dX8_soundRings_12 : decode cX8_soundRings 12 = .ok (.aload_n 0, 1) := by decide +kernel
theorem dX8_soundRings_13 : decode cX8_soundRings 13 = .ok (.getfield 20, 3) := by decide +kernel
theorem dX8_soundRings_16 : decode cX8_soundRings 16 = .ok (.iload_n 1, 1) := by decide +kernel
theorem dX8_soundRings_17 : decode cX8_soundRings 17 = .ok (.iaload, 1) := by decide +kernel
theorem dX8_soundRings_18 : decode cX8_soundRings 18 = .ok (.isub, 1) := by decide +kernel
theorem dX8_soundRings_19 : decode cX8_soundRings 19 = .ok (.ireturn, 1) := by decide +kernel
theorem dX8_squeakRings_0 : decode cX8_squeakRings 0 = .ok (.aload_n 0, 1) := by decide +kernel
theorem dX8_squeakRings_1 : decode cX8_squeakRings 1 = .ok (.bipush 20, 2) := by decide +kernel
theorem dX8_squeakRings_3 : decode cX8_squeakRings 3 = .ok (.invokevirtual 409, 3) := by decide +kernel
theorem dX8_squeakRings_6 : decode cX8_squeakRings 6 = .ok (.aload_n 0, 1) := by decide +kernel
theorem dX8_squeakRings_7 : decode cX8_squeakRings 7 = .ok (.iload_n 1, 1) := by decide +kernel
theorem dX8_squeakRings_8 : decode cX8_squeakRings 8 = .ok (.iload_n 2, 1) := by decide +kernel
theorem dX8_squeakRings_9 : decode cX8_squeakRings 9 = .ok (.invokevirtual 418, 3) := by decide +kernel
theorem dX8_squeakRings_12 : decode cX8_squeakRings 12 = .ok (.bipush 6, 2) := by decide +kernel
theorem dX8_squeakRings_14 : decode cX8_squeakRings 14 = .ok (.ixor, 1) := by decide +kernel
theorem dX8_squeakRings_15 : decode cX8_squeakRings 15 = .ok (.ireturn, 1) := by decide +kernel
theorem dX8_ringsAct_0 : decode cX8_ringsAct 0 = .ok (.aload_n 0, 1) := by decide +kernel
theorem dX8_ringsAct_1 : decode cX8_ringsAct 1 = .ok (.getfield 16, 3) := by decide +kernel
theorem dX8_ringsAct_4 : decode cX8_ringsAct 4 = .ok (.iload_n 1, 1) := by decide +kernel
theorem dX8_ringsAct_5 : decode cX8_ringsAct 5 = .ok (.iaload, 1) := by decide +kernel
theorem dX8_ringsAct_6 : decode cX8_ringsAct 6 = .ok (.lookupswitch 78 #[(1, 34), (4, 41), (6, 56)], 34) := by decide +kernel
theorem dX8_ringsAct_40 : decode cX8_ringsAct 40 = .ok (.aload_n 0, 1) := by decide +kernel
theorem dX8_ringsAct_41 : decode cX8_ringsAct 41 = .ok (.iload_n 1, 1) := by decide +kernel
theorem dX8_ringsAct_42 : decode cX8_ringsAct 42 = .ok (.iload_n 2, 1) := by decide +kernel
theorem dX8_ringsAct_43 : decode cX8_ringsAct 43 = .ok (.invokevirtual 421, 3) := by decide +kernel
theorem dX8_ringsAct_46 : decode cX8_ringsAct 46 = .ok (.ireturn, 1) := by decide +kernel
theorem dX8_ringsAct_47 : decode cX8_ringsAct 47 = .ok (.aload_n 0, 1) := by decide +kernel
theorem dX8_ringsAct_48 : decode cX8_ringsAct 48 = .ok (.bipush 51, 2) := by decide +kernel
theorem dX8_ringsAct_50 : decode cX8_ringsAct 50 = .ok (.invokevirtual 409, 3) := by decide +kernel
theorem dX8_ringsAct_53 : decode cX8_ringsAct 53 = .ok (.aload_n 0, 1) := by decide +kernel
theorem dX8_ringsAct_54 : decode cX8_ringsAct 54 = .ok (.iload_n 1, 1) := by decide +kernel
theorem dX8_ringsAct_55 : decode cX8_ringsAct 55 = .ok (.iload_n 2, 1) := by decide +kernel
theorem dX8_ringsAct_56 : decode cX8_ringsAct 56 = .ok (.iconst 1, 1) := by decide +kernel
theorem dX8_ringsAct_57 : decode cX8_ringsAct 57 = .ok (.iadd, 1) := by decide +kernel
theorem dX8_ringsAct_58 : decode cX8_ringsAct 58 = .ok (.invokevirtual 421, 3) := by decide +kernel
theorem dX8_ringsAct_61 : decode cX8_ringsAct 61 = .ok (.ireturn, 1) := by decide +kernel
theorem dX8_ringsAct_62 : decode cX8_ringsAct 62 = .ok (.aload_n 0, 1) := by decide +kernel
theorem dX8_ringsAct_63 : decode cX8_ringsAct 63 = .ok (.bipush 70, 2) := by decide +kernel
theorem dX8_ringsAct_65 : decode cX8_ringsAct 65 = .ok (.invokevirtual 409, 3) := by decide +kernel
theorem dX8_ringsAct_68 : decode cX8_ringsAct 68 = .ok (.aload_n 0, 1) := by decide +kernel
theorem dX8_ringsAct_69 : decode cX8_ringsAct 69 = .ok (.iload_n 1, 1) := by decide +kernel
theorem dX8_ringsAct_70 : decode cX8_ringsAct 70 = .ok (.iload_n 2, 1) := by decide +kernel
theorem dX8_ringsAct_71 : decode cX8_ringsAct 71 = .ok (.invokevirtual 418, 3) := by decide +kernel
theorem dX8_ringsAct_74 : decode cX8_ringsAct 74 = .ok (.istore_n 3, 1) := by decide +kernel
theorem dX8_ringsAct_75 : decode cX8_ringsAct 75 = .ok (.iload_n 3, 1) := by decide +kernel
theorem dX8_ringsAct_76 : decode cX8_ringsAct 76 = .ok (.aload_n 0, 1) := by decide +kernel
theorem dX8_ringsAct_77 : decode cX8_ringsAct 77 = .ok (.iload_n 1, 1) := by decide +kernel
theorem dX8_ringsAct_78 : decode cX8_ringsAct 78 = .ok (.iconst 2, 1) := by decide +kernel
theorem dX8_ringsAct_79 : decode cX8_ringsAct 79 = .ok (.invokevirtual 412, 3) := by decide +kernel
theorem dX8_ringsAct_82 : decode cX8_ringsAct 82 = .ok (.iadd, 1) := by decide +kernel
theorem dX8_ringsAct_83 : decode cX8_ringsAct 83 = .ok (.ireturn, 1) := by decide +kernel
theorem dX8_ringsAct_84 : decode cX8_ringsAct 84 = .ok (.aload_n 0, 1) := by decide +kernel
theorem dX8_ringsAct_85 : decode cX8_ringsAct 85 = .ok (.iload_n 1, 1) := by decide +kernel
theorem dX8_ringsAct_86 : decode cX8_ringsAct 86 = .ok (.iload_n 2, 1) := by decide +kernel
theorem dX8_ringsAct_87 : decode cX8_ringsAct 87 = .ok (.invokevirtual 418, 3) := by decide +kernel
theorem dX8_ringsAct_90 : decode cX8_ringsAct 90 = .ok (.ireturn, 1) := by decide +kernel
theorem dX8_soundTells_0 : decode cX8_soundTells 0 = .ok (.aload_n 0, 1) := by decide +kernel
theorem dX8_soundTells_1 : decode cX8_soundTells 1 = .ok (.bipush 12, 2) := by decide +kernel
theorem dX8_soundTells_3 : decode cX8_soundTells 3 = .ok (.invokevirtual 409, 3) := by decide +kernel
theorem dX8_soundTells_6 : decode cX8_soundTells 6 = .ok (.aload_n 0, 1) := by decide +kernel
theorem dX8_soundTells_7 : decode cX8_soundTells 7 = .ok (.iload_n 1, 1) := by decide +kernel
theorem dX8_soundTells_8 : decode cX8_soundTells 8 = .ok (.iload_n 2, 1) := by decide +kernel
theorem dX8_soundTells_9 : decode cX8_soundTells 9 = .ok (.invokevirtual 424, 3) := by decide +kernel
theorem dX8_soundTells_12 : decode cX8_soundTells 12 = .ok (.iconst 2, 1) := by decide +kernel
theorem dX8_soundTells_13 : decode cX8_soundTells 13 = .ok (.imul, 1) := by decide +kernel
theorem dX8_soundTells_14 : decode cX8_soundTells 14 = .ok (.ireturn, 1) := by decide +kernel
theorem dX8_tellsAct_0 : decode cX8_tellsAct 0 = .ok (.aload_n 0, 1) := by decide +kernel
theorem dX8_tellsAct_1 : decode cX8_tellsAct 1 = .ok (.getfield 16, 3) := by decide +kernel
theorem dX8_tellsAct_4 : decode cX8_tellsAct 4 = .ok (.iload_n 1, 1) := by decide +kernel
theorem dX8_tellsAct_5 : decode cX8_tellsAct 5 = .ok (.iaload, 1) := by decide +kernel
theorem dX8_tellsAct_6 : decode cX8_tellsAct 6 = .ok (.tableswitch 67 3 6 #[30, 67, 52, 30], 30) := by decide +kernel
theorem dX8_tellsAct_36 : decode cX8_tellsAct 36 = .ok (.aload_n 0, 1) := by decide +kernel
theorem dX8_tellsAct_37 : decode cX8_tellsAct 37 = .ok (.bipush 40, 2) := by decide +kernel
theorem dX8_tellsAct_39 : decode cX8_tellsAct 39 = .ok (.invokevirtual 409, 3) := by decide +kernel
theorem dX8_tellsAct_42 : decode cX8_tellsAct 42 = .ok (.aload_n 0, 1) := by decide +kernel
theorem dX8_tellsAct_43 : decode cX8_tellsAct 43 = .ok (.iload_n 1, 1) := by decide +kernel
theorem dX8_tellsAct_44 : decode cX8_tellsAct 44 = .ok (.iload_n 2, 1) := by decide +kernel
theorem dX8_tellsAct_45 : decode cX8_tellsAct 45 = .ok (.invokevirtual 427, 3) := by decide +kernel
theorem dX8_tellsAct_48 : decode cX8_tellsAct 48 = .ok (.istore_n 3, 1) := by decide +kernel
theorem dX8_tellsAct_49 : decode cX8_tellsAct 49 = .ok (.iload_n 3, 1) := by decide +kernel
theorem dX8_tellsAct_50 : decode cX8_tellsAct 50 = .ok (.aload_n 0, 1) := by decide +kernel
theorem dX8_tellsAct_51 : decode cX8_tellsAct 51 = .ok (.iload_n 1, 1) := by decide +kernel
theorem dX8_tellsAct_52 : decode cX8_tellsAct 52 = .ok (.iconst 1, 1) := by decide +kernel
theorem dX8_tellsAct_53 : decode cX8_tellsAct 53 = .ok (.invokevirtual 424, 3) := by decide +kernel
theorem dX8_tellsAct_56 : decode cX8_tellsAct 56 = .ok (.iadd, 1) := by decide +kernel
theorem dX8_tellsAct_57 : decode cX8_tellsAct 57 = .ok (.ireturn, 1) := by decide +kernel
theorem dX8_tellsAct_58 : decode cX8_tellsAct 58 = .ok (.aload_n 0, 1) := by decide +kernel
theorem dX8_tellsAct_59 : decode cX8_tellsAct 59 = .ok (.bipush 60, 2) := by decide +kernel
theorem dX8_tellsAct_61 : decode cX8_tellsAct 61 = .ok (.invokevirtual 409, 3) := by decide +kernel
theorem dX8_tellsAct_64 : decode cX8_tellsAct 64 = .ok (.aload_n 0, 1) := by decide +kernel
theorem dX8_tellsAct_65 : decode cX8_tellsAct 65 = .ok (.iload_n 1, 1) := by decide +kernel
theorem dX8_tellsAct_66 : decode cX8_tellsAct 66 = .ok (.iload_n 2, 1) := by decide +kernel
theorem dX8_tellsAct_67 : decode cX8_tellsAct 67 = .ok (.iload_n 1, 1) := by decide +kernel
theorem dX8_tellsAct_68 : decode cX8_tellsAct 68 = .ok (.isub, 1) := by decide +kernel
theorem dX8_tellsAct_69 : decode cX8_tellsAct 69 = .ok (.invokevirtual 427, 3) := by decide +kernel
theorem dX8_tellsAct_72 : decode cX8_tellsAct 72 = .ok (.ireturn, 1) := by decide +kernel
theorem dX8_tellsAct_73 : decode cX8_tellsAct 73 = .ok (.aload_n 0, 1) := by decide +kernel
theorem dX8_tellsAct_74 : decode cX8_tellsAct 74 = .ok (.iload_n 1, 1) := by decide +kernel
theorem dX8_tellsAct_75 : decode cX8_tellsAct 75 = .ok (.iload_n 2, 1) := by decide +kernel
theorem dX8_tellsAct_76 : decode cX8_tellsAct 76 = .ok (.invokevirtual 427, 3) := by decide +kernel
theorem dX8_tellsAct_79 : decode cX8_tellsAct 79 = .ok (.ireturn, 1) := by decide +kernel
theorem dX8_act_0 : decode cX8_act 0 = .ok (.aload_n 0, 1) := by decide +kernel
theorem dX8_act_1 : decode cX8_act 1 = .ok (.iconst 0, 1) := by decide +kernel
theorem dX8_act_2 : decode cX8_act 2 = .ok (.putfield 199, 3) := by decide +kernel
theorem dX8_act_5 : decode cX8_act 5 = .ok (.aload_n 0, 1) := by decide +kernel
theorem dX8_act_6 : decode cX8_act 6 = .ok (.iload_n 1, 1) := by decide +kernel
theorem dX8_act_7 : decode cX8_act 7 = .ok (.invokevirtual 229, 3) := by decide +kernel
theorem dX8_act_10 : decode cX8_act 10 = .ok (.ifCond .eq 13, 3) := by decide +kernel
theorem dX8_act_13 : decode cX8_act 13 = .ok (.aload_n 0, 1) := by decide +kernel
theorem dX8_act_14 : decode cX8_act 14 = .ok (.iload_n 2, 1) := by decide +kernel
theorem dX8_act_15 : decode cX8_act 15 = .ok (.iconst 0, 1) := by decide +kernel
theorem dX8_act_16 : decode cX8_act 16 = .ok (.iconst 2, 1) := by decide +kernel
theorem dX8_act_17 : decode cX8_act 17 = .ok (.invokevirtual 218, 3) := by decide +kernel
theorem dX8_act_20 : decode cX8_act 20 = .ok (.ifCond .ne 5, 3) := by decide +kernel
theorem dX8_act_23 : decode cX8_act 23 = .ok (.iconst 0, 1) := by decide +kernel
theorem dX8_act_24 : decode cX8_act 24 = .ok (.ireturn, 1) := by decide +kernel
theorem dX8_act_25 : decode cX8_act 25 = .ok (.iload_n 2, 1) := by decide +kernel
theorem dX8_act_26 : decode cX8_act 26 = .ok (.ifCond .ne 12, 3) := by decide +kernel
theorem dX8_act_29 : decode cX8_act 29 = .ok (.aload_n 0, 1) := by decide +kernel
theorem dX8_act_30 : decode cX8_act 30 = .ok (.iload_n 1, 1) := by decide +kernel
theorem dX8_act_31 : decode cX8_act 31 = .ok (.iload_n 3, 1) := by decide +kernel
theorem dX8_act_32 : decode cX8_act 32 = .ok (.invokevirtual 415, 3) := by decide +kernel
theorem dX8_act_35 : decode cX8_act 35 = .ok (.goto 23, 3) := by decide +kernel
theorem dX8_act_38 : decode cX8_act 38 = .ok (.iload_n 2, 1) := by decide +kernel
theorem dX8_act_39 : decode cX8_act 39 = .ok (.iconst 1, 1) := by decide +kernel
theorem dX8_act_40 : decode cX8_act 40 = .ok (.if_icmp .ne 12, 3) := by decide +kernel
theorem dX8_act_43 : decode cX8_act 43 = .ok (.aload_n 0, 1) := by decide +kernel
theorem dX8_act_44 : decode cX8_act 44 = .ok (.iload_n 1, 1) := by decide +kernel
theorem dX8_act_45 : decode cX8_act 45 = .ok (.iload_n 3, 1) := by decide +kernel
theorem dX8_act_46 : decode cX8_act 46 = .ok (.invokevirtual 424, 3) := by decide +kernel
theorem dX8_act_49 : decode cX8_act 49 = .ok (.goto 9, 3) := by decide +kernel
theorem dX8_act_52 : decode cX8_act 52 = .ok (.aload_n 0, 1) := by decide +kernel
theorem dX8_act_53 : decode cX8_act 53 = .ok (.iload_n 1, 1) := by decide +kernel
theorem dX8_act_54 : decode cX8_act 54 = .ok (.iload_n 3, 1) := by decide +kernel
theorem dX8_act_55 : decode cX8_act 55 = .ok (.invokevirtual 430, 3) := by decide +kernel
theorem dX8_act_58 : decode cX8_act 58 = .ok (.ireturn, 1) := by decide +kernel
theorem dX8_trace_0 : decode cX8_trace 0 = .ok (.aload_n 0, 1) := by decide +kernel
theorem dX8_trace_1 : decode cX8_trace 1 = .ok (.iload_n 1, 1) := by decide +kernel
theorem dX8_trace_2 : decode cX8_trace 2 = .ok (.iconst 0, 1) := by decide +kernel
theorem dX8_trace_3 : decode cX8_trace 3 = .ok (.bipush 19, 2) := by decide +kernel
theorem dX8_trace_5 : decode cX8_trace 5 = .ok (.invokevirtual 218, 3) := by decide +kernel
theorem dX8_trace_8 : decode cX8_trace 8 = .ok (.ifCond .eq 20, 3) := by decide +kernel
theorem dX8_trace_11 : decode cX8_trace 11 = .ok (.iload_n 1, 1) := by decide +kernel
theorem dX8_trace_12 : decode cX8_trace 12 = .ok (.aload_n 0, 1) := by decide +kernel
theorem dX8_trace_13 : decode cX8_trace 13 = .ok (.getfield 199, 3) := by decide +kernel
theorem dX8_trace_16 : decode cX8_trace 16 = .ok (.if_icmp .ge 12, 3) := by decide +kernel
theorem dX8_trace_19 : decode cX8_trace 19 = .ok (.aload_n 0, 1) := by decide +kernel
theorem dX8_trace_20 : decode cX8_trace 20 = .ok (.getfield 202, 3) := by decide +kernel
theorem dX8_trace_23 : decode cX8_trace 23 = .ok (.iload_n 1, 1) := by decide +kernel
theorem dX8_trace_24 : decode cX8_trace 24 = .ok (.iaload, 1) := by decide +kernel
theorem dX8_trace_25 : decode cX8_trace 25 = .ok (.goto 4, 3) := by decide +kernel
theorem dX8_trace_28 : decode cX8_trace 28 = .ok (.iconst (-1), 1) := by decide +kernel
theorem dX8_trace_29 : decode cX8_trace 29 = .ok (.ireturn, 1) := by decide +kernel
theorem dX8_taken_0 : decode cX8_taken 0 = .ok (.aload_n 0, 1) := by decide +kernel
theorem dX8_taken_1 : decode cX8_taken 1 = .ok (.iload_n 2, 1) := by decide +kernel
theorem dX8_taken_2 : decode cX8_taken 2 = .ok (.iconst 0, 1) := by decide +kernel
theorem dX8_taken_3 : decode cX8_taken 3 = .ok (.bipush 6, 2) := by decide +kernel
theorem dX8_taken_5 : decode cX8_taken 5 = .ok (.invokevirtual 218, 3) := by decide +kernel
theorem dX8_taken_8 : decode cX8_taken 8 = .ok (.ifCond .ne 6, 3) := by decide +kernel
theorem dX8_taken_11 : decode cX8_taken 11 = .ok (.bipush (-2), 2) := by decide +kernel
theorem dX8_taken_13 : decode cX8_taken 13 = .ok (.ireturn, 1) := by decide +kernel
theorem dX8_taken_14 : decode cX8_taken 14 = .ok (.aload_n 0, 1) := by decide +kernel
theorem dX8_taken_15 : decode cX8_taken 15 = .ok (.iload_n 1, 1) := by decide +kernel
theorem dX8_taken_16 : decode cX8_taken 16 = .ok (.invokevirtual 229, 3) := by decide +kernel
theorem dX8_taken_19 : decode cX8_taken 19 = .ok (.ifCond .ne 6, 3) := by decide +kernel
theorem dX8_taken_22 : decode cX8_taken 22 = .ok (.bipush (-11), 2) := by decide +kernel
theorem dX8_taken_24 : decode cX8_taken 24 = .ok (.ireturn, 1) := by decide +kernel
theorem dX8_taken_25 : decode cX8_taken 25 = .ok (.aload_n 0, 1) := by decide +kernel
theorem dX8_taken_26 : decode cX8_taken 26 = .ok (.getfield 16, 3) := by decide +kernel
theorem dX8_taken_29 : decode cX8_taken 29 = .ok (.iload_n 1, 1) := by decide +kernel
theorem dX8_taken_30 : decode cX8_taken 30 = .ok (.iaload, 1) := by decide +kernel
theorem dX8_taken_31 : decode cX8_taken 31 = .ok (.istore_n 3, 1) := by decide +kernel
theorem dX8_taken_32 : decode cX8_taken 32 = .ok (.iload_n 2, 1) := by decide +kernel
theorem dX8_taken_33 : decode cX8_taken 33 = .ok (.ifCond .eq 39, 3) := by decide +kernel
theorem dX8_taken_36 : decode cX8_taken 36 = .ok (.iload_n 3, 1) := by decide +kernel
theorem dX8_taken_37 : decode cX8_taken 37 = .ok (.iload_n 2, 1) := by decide +kernel
theorem dX8_taken_38 : decode cX8_taken 38 = .ok (.if_icmp .eq 34, 3) := by decide +kernel
theorem dX8_taken_41 : decode cX8_taken 41 = .ok (.iload_n 2, 1) := by decide +kernel
theorem dX8_taken_42 : decode cX8_taken 42 = .ok (.iconst 1, 1) := by decide +kernel
theorem dX8_taken_43 : decode cX8_taken 43 = .ok (.if_icmp .ne 8, 3) := by decide +kernel
theorem dX8_taken_46 : decode cX8_taken 46 = .ok (.iload_n 3, 1) := by decide +kernel
theorem dX8_taken_47 : decode cX8_taken 47 = .ok (.iconst 4, 1) := by decide +kernel
theorem dX8_taken_48 : decode cX8_taken 48 = .ok (.if_icmp .eq 24, 3) := by decide +kernel
theorem dX8_taken_51 : decode cX8_taken 51 = .ok (.iload_n 2, 1) := by decide +kernel
theorem dX8_taken_52 : decode cX8_taken 52 = .ok (.iconst 2, 1) := by decide +kernel
theorem dX8_taken_53 : decode cX8_taken 53 = .ok (.if_icmp .ne 8, 3) := by decide +kernel
theorem dX8_taken_56 : decode cX8_taken 56 = .ok (.iload_n 3, 1) := by decide +kernel
theorem dX8_taken_57 : decode cX8_taken 57 = .ok (.iconst 5, 1) := by decide +kernel
theorem dX8_taken_58 : decode cX8_taken 58 = .ok (.if_icmp .eq 14, 3) := by decide +kernel
theorem dX8_taken_61 : decode cX8_taken 61 = .ok (.iload_n 2, 1) := by decide +kernel
theorem dX8_taken_62 : decode cX8_taken 62 = .ok (.iconst 3, 1) := by decide +kernel
theorem dX8_taken_63 : decode cX8_taken 63 = .ok (.if_icmp .ne 13, 3) := by decide +kernel
theorem dX8_taken_66 : decode cX8_taken 66 = .ok (.iload_n 3, 1) := by decide +kernel
theorem dX8_taken_67 : decode cX8_taken 67 = .ok (.bipush 6, 2) := by decide +kernel
theorem dX8_taken_69 : decode cX8_taken 69 = .ok (.if_icmp .ne 7, 3) := by decide +kernel
theorem dX8_taken_72 : decode cX8_taken 72 = .ok (.iload_n 3, 1) := by decide +kernel
theorem dX8_taken_73 : decode cX8_taken 73 = .ok (.goto 5, 3) := by decide +kernel
theorem dX8_taken_76 : decode cX8_taken 76 = .ok (.bipush (-12), 2) := by decide +kernel
theorem dX8_taken_78 : decode cX8_taken 78 = .ok (.ireturn, 1) := by decide +kernel
theorem dX8_count_0 : decode cX8_count 0 = .ok (.iload_n 1, 1) := by decide +kernel
theorem dX8_count_1 : decode cX8_count 1 = .ok (.tableswitch 78 0 6 #[43, 48, 53, 58, 63, 68, 73], 43) := by decide +kernel
theorem dX8_count_44 : decode cX8_count 44 = .ok (.aload_n 0, 1) := by decide +kernel
theorem dX8_count_45 : decode cX8_count 45 = .ok (.getfield 7, 3) := by decide +kernel
theorem dX8_count_48 : decode cX8_count 48 = .ok (.ireturn, 1) := by decide +kernel
theorem dX8_count_49 : decode cX8_count 49 = .ok (.aload_n 0, 1) := by decide +kernel
theorem dX8_count_50 : decode cX8_count 50 = .ok (.getfield 32, 3) := by decide +kernel
theorem dX8_count_53 : decode cX8_count 53 = .ok (.ireturn, 1) := by decide +kernel
theorem dX8_count_54 : decode cX8_count 54 = .ok (.aload_n 0, 1) := by decide +kernel
theorem dX8_count_55 : decode cX8_count 55 = .ok (.getfield 111, 3) := by decide +kernel
theorem dX8_count_58 : decode cX8_count 58 = .ok (.ireturn, 1) := by decide +kernel
theorem dX8_count_59 : decode cX8_count 59 = .ok (.aload_n 0, 1) := by decide +kernel
theorem dX8_count_60 : decode cX8_count 60 = .ok (.getfield 123, 3) := by decide +kernel
theorem dX8_count_63 : decode cX8_count 63 = .ok (.ireturn, 1) := by decide +kernel
theorem dX8_count_64 : decode cX8_count 64 = .ok (.aload_n 0, 1) := by decide +kernel
theorem dX8_count_65 : decode cX8_count 65 = .ok (.getfield 126, 3) := by decide +kernel
theorem dX8_count_68 : decode cX8_count 68 = .ok (.ireturn, 1) := by decide +kernel
theorem dX8_count_69 : decode cX8_count 69 = .ok (.aload_n 0, 1) := by decide +kernel
theorem dX8_count_70 : decode cX8_count 70 = .ok (.getfield 38, 3) := by decide +kernel
theorem dX8_count_73 : decode cX8_count 73 = .ok (.ireturn, 1) := by decide +kernel
theorem dX8_count_74 : decode cX8_count 74 = .ok (.aload_n 0, 1) := by decide +kernel
theorem dX8_count_75 : decode cX8_count 75 = .ok (.getfield 199, 3) := by decide +kernel
theorem dX8_count_78 : decode cX8_count 78 = .ok (.ireturn, 1) := by decide +kernel
theorem dX8_count_79 : decode cX8_count 79 = .ok (.bipush (-2), 2) := by decide +kernel
theorem dX8_count_81 : decode cX8_count 81 = .ok (.ireturn, 1) := by decide +kernel
theorem dX8_isTape_0 : decode cX8_isTape 0 = .ok (.aload_n 0, 1) := by decide +kernel
theorem dX8_isTape_1 : decode cX8_isTape 1 = .ok (.iload_n 1, 1) := by decide +kernel
theorem dX8_isTape_2 : decode cX8_isTape 2 = .ok (.iconst 0, 1) := by decide +kernel
theorem dX8_isTape_3 : decode cX8_isTape 3 = .ok (.iconst 5, 1) := by decide +kernel
theorem dX8_isTape_4 : decode cX8_isTape 4 = .ok (.invokevirtual 218, 3) := by decide +kernel
theorem dX8_isTape_7 : decode cX8_isTape 7 = .ok (.ireturn, 1) := by decide +kernel
theorem dX8_tape_0 : decode cX8_tape 0 = .ok (.aload_n 0, 1) := by decide +kernel
theorem dX8_tape_1 : decode cX8_tape 1 = .ok (.iload_n 1, 1) := by decide +kernel
theorem dX8_tape_2 : decode cX8_tape 2 = .ok (.invokevirtual 406, 3) := by decide +kernel
theorem dX8_tape_5 : decode cX8_tape 5 = .ok (.ifCond .ne 5, 3) := by decide +kernel
theorem dX8_tape_8 : decode cX8_tape 8 = .ok (.iconst (-1), 1) := by decide +kernel
theorem dX8_tape_9 : decode cX8_tape 9 = .ok (.ireturn, 1) := by decide +kernel
theorem dX8_tape_10 : decode cX8_tape 10 = .ok (.aload_n 0, 1) := by decide +kernel
theorem dX8_tape_11 : decode cX8_tape 11 = .ok (.iload_n 2, 1) := by decide +kernel
theorem dX8_tape_12 : decode cX8_tape 12 = .ok (.iconst (-1), 1) := by decide +kernel
theorem dX8_tape_13 : decode cX8_tape 13 = .ok (.iconst 4, 1) := by decide +kernel
theorem dX8_tape_14 : decode cX8_tape 14 = .ok (.invokevirtual 218, 3) := by decide +kernel
theorem dX8_tape_17 : decode cX8_tape 17 = .ok (.ifCond .eq 13, 3) := by decide +kernel
theorem dX8_tape_20 : decode cX8_tape 20 = .ok (.iload_n 2, 1) := by decide +kernel
theorem dX8_tape_21 : decode cX8_tape 21 = .ok (.ifCond .lt 12, 3) := by decide +kernel
theorem dX8_tape_24 : decode cX8_tape 24 = .ok (.iload_n 3, 1) := by decide +kernel
theorem dX8_tape_25 : decode cX8_tape 25 = .ok (.bipush 60, 2) := by decide +kernel
theorem dX8_tape_27 : decode cX8_tape 27 = .ok (.if_icmp .le 6, 3) := by decide +kernel
theorem dX8_tape_30 : decode cX8_tape 30 = .ok (.bipush (-2), 2) := by decide +kernel
theorem dX8_tape_32 : decode cX8_tape 32 = .ok (.ireturn, 1) := by decide +kernel
theorem dX8_tape_33 : decode cX8_tape 33 = .ok (.iload_n 2, 1) := by decide +kernel
theorem dX8_tape_34 : decode cX8_tape 34 = .ok (.ifCond .lt 10, 3) := by decide +kernel
theorem dX8_tape_37 : decode cX8_tape 37 = .ok (.iload_n 3, 1) := by decide +kernel
theorem dX8_tape_38 : decode cX8_tape 38 = .ok (.ifCond .ge 6, 3) := by decide +kernel
theorem dX8_tape_41 : decode cX8_tape 41 = .ok (.bipush (-14), 2) := by decide +kernel
theorem dX8_tape_43 : decode cX8_tape 43 = .ok (.ireturn, 1) := by decide +kernel
theorem dX8_tape_44 : decode cX8_tape 44 = .ok (.aload_n 0, 1) := by decide +kernel
theorem dX8_tape_45 : decode cX8_tape 45 = .ok (.getfield 205, 3) := by decide +kernel
theorem dX8_tape_48 : decode cX8_tape 48 = .ok (.iload_n 1, 1) := by decide +kernel
theorem dX8_tape_49 : decode cX8_tape 49 = .ok (.iload_n 2, 1) := by decide +kernel
theorem dX8_tape_50 : decode cX8_tape 50 = .ok (.iastore, 1) := by decide +kernel
theorem dX8_tape_51 : decode cX8_tape 51 = .ok (.aload_n 0, 1) := by decide +kernel
theorem dX8_tape_52 : decode cX8_tape 52 = .ok (.getfield 208, 3) := by decide +kernel
theorem dX8_tape_55 : decode cX8_tape 55 = .ok (.iload_n 1, 1) := by decide +kernel
theorem dX8_tape_56 : decode cX8_tape 56 = .ok (.iload_n 2, 1) := by decide +kernel
theorem dX8_tape_57 : decode cX8_tape 57 = .ok (.ifCond .ge 7, 3) := by decide +kernel
theorem dX8_tape_60 : decode cX8_tape 60 = .ok (.iconst 0, 1) := by decide +kernel
theorem dX8_tape_61 : decode cX8_tape 61 = .ok (.goto 4, 3) := by decide +kernel
theorem dX8_tape_64 : decode cX8_tape 64 = .ok (.iload_n 3, 1) := by decide +kernel
theorem dX8_tape_65 : decode cX8_tape 65 = .ok (.iastore, 1) := by decide +kernel
theorem dX8_tape_66 : decode cX8_tape 66 = .ok (.iconst 0, 1) := by decide +kernel
theorem dX8_tape_67 : decode cX8_tape 67 = .ok (.istore 4, 2) := by decide +kernel
theorem dX8_tape_69 : decode cX8_tape 69 = .ok (.iload 4, 2) := by decide +kernel
theorem dX8_tape_71 : decode cX8_tape 71 = .ok (.bipush 60, 2) := by decide +kernel
theorem dX8_tape_73 : decode cX8_tape 73 = .ok (.if_icmp .ge 22, 3) := by decide +kernel
theorem dX8_tape_76 : decode cX8_tape 76 = .ok (.aload_n 0, 1) := by decide +kernel
theorem dX8_tape_77 : decode cX8_tape 77 = .ok (.getfield 211, 3) := by decide +kernel
theorem dX8_tape_80 : decode cX8_tape 80 = .ok (.bipush 60, 2) := by decide +kernel
theorem dX8_tape_82 : decode cX8_tape 82 = .ok (.iload_n 1, 1) := by decide +kernel
theorem dX8_tape_83 : decode cX8_tape 83 = .ok (.imul, 1) := by decide +kernel
theorem dX8_tape_84 : decode cX8_tape 84 = .ok (.iload 4, 2) := by decide +kernel
theorem dX8_tape_86 : decode cX8_tape 86 = .ok (.iadd, 1) := by decide +kernel
theorem dX8_tape_87 : decode cX8_tape 87 = .ok (.lconst 0, 1) := by decide +kernel
theorem dX8_tape_88 : decode cX8_tape 88 = .ok (.lastore, 1) := by decide +kernel
theorem dX8_tape_89 : decode cX8_tape 89 = .ok (.iinc 4 1, 3) := by decide +kernel
theorem dX8_tape_92 : decode cX8_tape 92 = .ok (.goto (-23), 3) := by decide +kernel
theorem dX8_tape_95 : decode cX8_tape 95 = .ok (.iconst 1, 1) := by decide +kernel
theorem dX8_tape_96 : decode cX8_tape 96 = .ok (.ireturn, 1) := by decide +kernel
theorem dX8_narrow_0 : decode cX8_narrow 0 = .ok (.iload_n 1, 1) := by decide +kernel
theorem dX8_narrow_1 : decode cX8_narrow 1 = .ok (.ifCond .ne 10, 3) := by decide +kernel
theorem dX8_narrow_4 : decode cX8_narrow 4 = .ok (.lload_n 2, 1) := by decide +kernel
theorem dX8_narrow_5 : decode cX8_narrow 5 = .ok (.l2i, 1) := by decide +kernel
theorem dX8_narrow_6 : decode cX8_narrow 6 = .ok (.i2b, 1) := by decide +kernel
theorem dX8_narrow_7 : decode cX8_narrow 7 = .ok (.i2l, 1) := by decide +kernel
theorem dX8_narrow_8 : decode cX8_narrow 8 = .ok (.goto 46, 3) := by decide +kernel
theorem dX8_narrow_11 : decode cX8_narrow 11 = .ok (.iload_n 1, 1) := by decide +kernel
theorem dX8_narrow_12 : decode cX8_narrow 12 = .ok (.iconst 1, 1) := by decide +kernel
theorem dX8_narrow_13 : decode cX8_narrow 13 = .ok (.if_icmp .ne 10, 3) := by decide +kernel
theorem dX8_narrow_16 : decode cX8_narrow 16 = .ok (.lload_n 2, 1) := by decide +kernel
theorem dX8_narrow_17 : decode cX8_narrow 17 = .ok (.l2i, 1) := by decide +kernel
theorem dX8_narrow_18 : decode cX8_narrow 18 = .ok (.i2s, 1) := by decide +kernel
theorem dX8_narrow_19 : decode cX8_narrow 19 = .ok (.i2l, 1) := by decide +kernel
theorem dX8_narrow_20 : decode cX8_narrow 20 = .ok (.goto 34, 3) := by decide +kernel
theorem dX8_narrow_23 : decode cX8_narrow 23 = .ok (.iload_n 1, 1) := by decide +kernel
theorem dX8_narrow_24 : decode cX8_narrow 24 = .ok (.iconst 2, 1) := by decide +kernel
theorem dX8_narrow_25 : decode cX8_narrow 25 = .ok (.if_icmp .ne 9, 3) := by decide +kernel
theorem dX8_narrow_28 : decode cX8_narrow 28 = .ok (.lload_n 2, 1) := by decide +kernel
theorem dX8_narrow_29 : decode cX8_narrow 29 = .ok (.l2i, 1) := by decide +kernel
theorem dX8_narrow_30 : decode cX8_narrow 30 = .ok (.i2l, 1) := by decide +kernel
theorem dX8_narrow_31 : decode cX8_narrow 31 = .ok (.goto 23, 3) := by decide +kernel
theorem dX8_narrow_34 : decode cX8_narrow 34 = .ok (.iload_n 1, 1) := by decide +kernel
theorem dX8_narrow_35 : decode cX8_narrow 35 = .ok (.iconst 4, 1) := by decide +kernel
theorem dX8_narrow_36 : decode cX8_narrow 36 = .ok (.if_icmp .ne 17, 3) := by decide +kernel
theorem dX8_narrow_39 : decode cX8_narrow 39 = .ok (.lload_n 2, 1) := by decide +kernel
theorem dX8_narrow_40 : decode cX8_narrow 40 = .ok (.lconst 0, 1) := by decide +kernel
theorem dX8_narrow_41 : decode cX8_narrow 41 = .ok (.lcmp, 1) := by decide +kernel
theorem dX8_narrow_42 : decode cX8_narrow 42 = .ok (.ifCond .eq 7, 3) := by decide +kernel
theorem dX8_narrow_45 : decode cX8_narrow 45 = .ok (.lconst 1, 1) := by decide +kernel
theorem dX8_narrow_46 : decode cX8_narrow 46 = .ok (.goto 8, 3) := by decide +kernel
theorem dX8_narrow_49 : decode cX8_narrow 49 = .ok (.lconst 0, 1) := by decide +kernel
theorem dX8_narrow_50 : decode cX8_narrow 50 = .ok (.goto 4, 3) := by decide +kernel
theorem dX8_narrow_53 : decode cX8_narrow 53 = .ok (.lload_n 2, 1) := by decide +kernel
theorem dX8_narrow_54 : decode cX8_narrow 54 = .ok (.lreturn, 1) := by decide +kernel
theorem dX8_item_0 : decode cX8_item 0 = .ok (.aload_n 0, 1) := by decide +kernel
theorem dX8_item_1 : decode cX8_item 1 = .ok (.iload_n 1, 1) := by decide +kernel
theorem dX8_item_2 : decode cX8_item 2 = .ok (.invokevirtual 406, 3) := by decide +kernel
theorem dX8_item_5 : decode cX8_item 5 = .ok (.ifCond .ne 5, 3) := by decide +kernel
theorem dX8_item_8 : decode cX8_item 8 = .ok (.iconst (-1), 1) := by decide +kernel
theorem dX8_item_9 : decode cX8_item 9 = .ok (.ireturn, 1) := by decide +kernel
theorem dX8_item_10 : decode cX8_item 10 = .ok (.aload_n 0, 1) := by decide +kernel
theorem dX8_item_11 : decode cX8_item 11 = .ok (.getfield 205, 3) := by decide +kernel
theorem dX8_item_14 : decode cX8_item 14 = .ok (.iload_n 1, 1) := by decide +kernel
theorem dX8_item_15 : decode cX8_item 15 = .ok (.iaload, 1) := by decide +kernel
theorem dX8_item_16 : decode cX8_item 16 = .ok (.ifCond .ge 6, 3) := by decide +kernel
theorem dX8_item_19 : decode cX8_item 19 = .ok (.bipush (-11), 2) := by decide +kernel
theorem dX8_item_21 : decode cX8_item 21 = .ok (.ireturn, 1) := by decide +kernel
theorem dX8_item_22 : decode cX8_item 22 = .ok (.aload_n 0, 1) := by decide +kernel
theorem dX8_item_23 : decode cX8_item 23 = .ok (.iload_n 2, 1) := by decide +kernel
theorem dX8_item_24 : decode cX8_item 24 = .ok (.iconst 0, 1) := by decide +kernel
theorem dX8_item_25 : decode cX8_item 25 = .ok (.aload_n 0, 1) := by decide +kernel
theorem dX8_item_26 : decode cX8_item 26 = .ok (.getfield 208, 3) := by decide +kernel
theorem dX8_item_29 : decode cX8_item 29 = .ok (.iload_n 1, 1) := by decide +kernel
theorem dX8_item_30 : decode cX8_item 30 = .ok (.iaload, 1) := by decide +kernel
theorem dX8_item_31 : decode cX8_item 31 = .ok (.iconst 1, 1) := by decide +kernel
theorem dX8_item_32 : decode cX8_item 32 = .ok (.isub, 1) := by decide +kernel
theorem dX8_item_33 : decode cX8_item 33 = .ok (.invokevirtual 218, 3) := by decide +kernel
theorem dX8_item_36 : decode cX8_item 36 = .ok (.ifCond .ne 6, 3) := by decide +kernel
theorem dX8_item_39 : decode cX8_item 39 = .ok (.bipush (-13), 2) := by decide +kernel
theorem dX8_item_41 : decode cX8_item 41 = .ok (.ireturn, 1) := by decide +kernel
theorem dX8_item_42 : decode cX8_item 42 = .ok (.aload_n 0, 1) := by decide +kernel
theorem dX8_item_43 : decode cX8_item 43 = .ok (.getfield 211, 3) := by decide +kernel
theorem dX8_item_46 : decode cX8_item 46 = .ok (.bipush 60, 2) := by decide +kernel
theorem dX8_item_48 : decode cX8_item 48 = .ok (.iload_n 1, 1) := by decide +kernel
theorem dX8_item_49 : decode cX8_item 49 = .ok (.imul, 1) := by decide +kernel
theorem dX8_item_50 : decode cX8_item 50 = .ok (.iload_n 2, 1) := by decide +kernel
theorem dX8_item_51 : decode cX8_item 51 = .ok (.iadd, 1) := by decide +kernel
theorem dX8_item_52 : decode cX8_item 52 = .ok (.aload_n 0, 1) := by decide +kernel
theorem dX8_item_53 : decode cX8_item 53 = .ok (.aload_n 0, 1) := by decide +kernel
theorem dX8_item_54 : decode cX8_item 54 = .ok (.getfield 205, 3) := by decide +kernel
theorem dX8_item_57 : decode cX8_item 57 = .ok (.iload_n 1, 1) := by decide +kernel
theorem dX8_item_58 : decode cX8_item 58 = .ok (.iaload, 1) := by decide +kernel
theorem dX8_item_59 : decode cX8_item 59 = .ok (.lload_n 3, 1) := by decide +kernel
theorem dX8_item_60 : decode cX8_item 60 = .ok (.invokevirtual 433, 3) := by decide +kernel
theorem dX8_item_63 : decode cX8_item 63 = .ok (.lastore, 1) := by decide +kernel
theorem dX8_item_64 : decode cX8_item 64 = .ok (.iconst 1, 1) := by decide +kernel
theorem dX8_item_65 : decode cX8_item 65 = .ok (.ireturn, 1) := by decide +kernel
theorem dX8_read_0 : decode cX8_read 0 = .ok (.aload_n 0, 1) := by decide +kernel
theorem dX8_read_1 : decode cX8_read 1 = .ok (.iload_n 1, 1) := by decide +kernel
theorem dX8_read_2 : decode cX8_read 2 = .ok (.invokevirtual 406, 3) := by decide +kernel
theorem dX8_read_5 : decode cX8_read 5 = .ok (.ifCond .eq 29, 3) := by decide +kernel
theorem dX8_read_8 : decode cX8_read 8 = .ok (.aload_n 0, 1) := by decide +kernel
theorem dX8_read_9 : decode cX8_read 9 = .ok (.getfield 205, 3) := by decide +kernel
theorem dX8_read_12 : decode cX8_read 12 = .ok (.iload_n 1, 1) := by decide +kernel
theorem dX8_read_13 : decode cX8_read 13 = .ok (.iaload, 1) := by decide +kernel
theorem dX8_read_14 : decode cX8_read 14 = .ok (.ifCond .lt 20, 3) := by decide +kernel
theorem dX8_read_17 : decode cX8_read 17 = .ok (.aload_n 0, 1) := by decide +kernel
theorem dX8_read_18 : decode cX8_read 18 = .ok (.iload_n 2, 1) := by decide +kernel
theorem dX8_read_19 : decode cX8_read 19 = .ok (.iconst 0, 1) := by decide +kernel
theorem dX8_read_20 : decode cX8_read 20 = .ok (.aload_n 0, 1) := by decide +kernel
theorem dX8_read_21 : decode cX8_read 21 = .ok (.getfield 208, 3) := by decide +kernel
theorem dX8_read_24 : decode cX8_read 24 = .ok (.iload_n 1, 1) := by decide +kernel
theorem dX8_read_25 : decode cX8_read 25 = .ok (.iaload, 1) := by decide +kernel
theorem dX8_read_26 : decode cX8_read 26 = .ok (.iconst 1, 1) := by decide +kernel
theorem dX8_read_27 : decode cX8_read 27 = .ok (.isub, 1) := by decide +kernel
theorem dX8_read_28 : decode cX8_read 28 = .ok (.invokevirtual 218, 3) := by decide +kernel
theorem dX8_read_31 : decode cX8_read 31 = .ok (.ifCond .ne 9, 3) := by decide +kernel
theorem dX8_read_34 : decode cX8_read 34 = .ok (.ldc2_w 397, 3) := by decide +kernel
theorem dX8_read_37 : decode cX8_read 37 = .ok (.goto 14, 3) := by decide +kernel
theorem dX8_read_40 : decode cX8_read 40 = .ok (.aload_n 0, 1) := by decide +kernel
theorem dX8_read_41 : decode cX8_read 41 = .ok (.getfield 211, 3) := by decide +kernel
theorem dX8_read_44 : decode cX8_read 44 = .ok (.bipush 60, 2) := by decide +kernel
theorem dX8_read_46 : decode cX8_read 46 = .ok (.iload_n 1, 1) := by decide +kernel
theorem dX8_read_47 : decode cX8_read 47 = .ok (.imul, 1) := by decide +kernel
theorem dX8_read_48 : decode cX8_read 48 = .ok (.iload_n 2, 1) := by decide +kernel
theorem dX8_read_49 : decode cX8_read 49 = .ok (.iadd, 1) := by decide +kernel
theorem dX8_read_50 : decode cX8_read 50 = .ok (.laload, 1) := by decide +kernel
theorem dX8_read_51 : decode cX8_read 51 = .ok (.lreturn, 1) := by decide +kernel
theorem dX8_shift_0 : decode cX8_shift 0 = .ok (.aload_n 0, 1) := by decide +kernel
theorem dX8_shift_1 : decode cX8_shift 1 = .ok (.iload_n 1, 1) := by decide +kernel
theorem dX8_shift_2 : decode cX8_shift 2 = .ok (.invokevirtual 406, 3) := by decide +kernel
theorem dX8_shift_5 : decode cX8_shift 5 = .ok (.ifCond .eq 11, 3) := by decide +kernel
theorem dX8_shift_8 : decode cX8_shift 8 = .ok (.aload_n 0, 1) := by decide +kernel
theorem dX8_shift_9 : decode cX8_shift 9 = .ok (.iload_n 3, 1) := by decide +kernel
theorem dX8_shift_10 : decode cX8_shift 10 = .ok (.invokevirtual 406, 3) := by decide +kernel
theorem dX8_shift_13 : decode cX8_shift 13 = .ok (.ifCond .ne 5, 3) := by decide +kernel
theorem dX8_shift_16 : decode cX8_shift 16 = .ok (.iconst (-1), 1) := by decide +kernel
theorem dX8_shift_17 : decode cX8_shift 17 = .ok (.ireturn, 1) := by decide +kernel
theorem dX8_shift_18 : decode cX8_shift 18 = .ok (.aload_n 0, 1) := by decide +kernel
theorem dX8_shift_19 : decode cX8_shift 19 = .ok (.getfield 205, 3) := by decide +kernel
theorem dX8_shift_22 : decode cX8_shift 22 = .ok (.iload_n 1, 1) := by decide +kernel
theorem dX8_shift_23 : decode cX8_shift 23 = .ok (.iaload, 1) := by decide +kernel
theorem dX8_shift_24 : decode cX8_shift 24 = .ok (.ifCond .lt 12, 3) := by decide +kernel
theorem dX8_shift_27 : decode cX8_shift 27 = .ok (.aload_n 0, 1) := by decide +kernel
theorem dX8_shift_28 : decode cX8_shift 28 = .ok (.getfield 205, 3) := by decide +kernel
theorem dX8_shift_31 : decode cX8_shift 31 = .ok (.iload_n 3, 1) := by decide +kernel
theorem dX8_shift_32 : decode cX8_shift 32 = .ok (.iaload, 1) := by decide +kernel
theorem dX8_shift_33 : decode cX8_shift 33 = .ok (.ifCond .ge 6, 3) := by decide +kernel
theorem dX8_shift_36 : decode cX8_shift 36 = .ok (.bipush (-11), 2) := by decide +kernel
theorem dX8_shift_38 : decode cX8_shift 38 = .ok (.ireturn, 1) := by decide +kernel
theorem dX8_shift_39 : decode cX8_shift 39 = .ok (.aload_n 0, 1) := by decide +kernel
theorem dX8_shift_40 : decode cX8_shift 40 = .ok (.getfield 205, 3) := by decide +kernel
theorem dX8_shift_43 : decode cX8_shift 43 = .ok (.iload_n 1, 1) := by decide +kernel
theorem dX8_shift_44 : decode cX8_shift 44 = .ok (.iaload, 1) := by decide +kernel
theorem dX8_shift_45 : decode cX8_shift 45 = .ok (.aload_n 0, 1) := by decide +kernel
theorem dX8_shift_46 : decode cX8_shift 46 = .ok (.getfield 205, 3) := by decide +kernel
theorem dX8_shift_49 : decode cX8_shift 49 = .ok (.iload_n 3, 1) := by decide +kernel
theorem dX8_shift_50 : decode cX8_shift 50 = .ok (.iaload, 1) := by decide +kernel
theorem dX8_shift_51 : decode cX8_shift 51 = .ok (.if_icmp .eq 6, 3) := by decide +kernel
theorem dX8_shift_54 : decode cX8_shift 54 = .ok (.bipush (-12), 2) := by decide +kernel
theorem dX8_shift_56 : decode cX8_shift 56 = .ok (.ireturn, 1) := by decide +kernel
theorem dX8_shift_57 : decode cX8_shift 57 = .ok (.iload 5, 2) := by decide +kernel
theorem dX8_shift_59 : decode cX8_shift 59 = .ok (.ifCond .lt 39, 3) := by decide +kernel
theorem dX8_shift_62 : decode cX8_shift 62 = .ok (.iload_n 2, 1) := by decide +kernel
theorem dX8_shift_63 : decode cX8_shift 63 = .ok (.ifCond .lt 35, 3) := by decide +kernel
theorem dX8_shift_66 : decode cX8_shift 66 = .ok (.iload 4, 2) := by decide +kernel
theorem dX8_shift_68 : decode cX8_shift 68 = .ok (.ifCond .lt 30, 3) := by decide +kernel
theorem dX8_shift_71 : decode cX8_shift 71 = .ok (.iload_n 2, 1) := by decide +kernel
theorem dX8_shift_72 : decode cX8_shift 72 = .ok (.aload_n 0, 1) := by decide +kernel
theorem dX8_shift_73 : decode cX8_shift 73 = .ok (.getfield 208, 3) := by decide +kernel
theorem dX8_shift_76 : decode cX8_shift 76 = .ok (.iload_n 1, 1) := by decide +kernel
theorem dX8_shift_77 : decode cX8_shift 77 = .ok (.iaload, 1) := by decide +kernel
theorem dX8_shift_78 : decode cX8_shift 78 = .ok (.iload 5, 2) := by decide +kernel
theorem dX8_shift_80 : decode cX8_shift 80 = .ok (.isub, 1) := by decide +kernel
theorem dX8_shift_81 : decode cX8_shift 81 = .ok (.if_icmp .gt 17, 3) := by decide +kernel
theorem dX8_shift_84 : decode cX8_shift 84 = .ok (.iload 4, 2) := by decide +kernel
theorem dX8_shift_86 : decode cX8_shift 86 = .ok (.aload_n 0, 1) := by decide +kernel
theorem dX8_shift_87 : decode cX8_shift 87 = .ok (.getfield 208, 3) := by decide +kernel
theorem dX8_shift_90 : decode cX8_shift 90 = .ok (.iload_n 3, 1) := by decide +kernel
theorem dX8_shift_91 : decode cX8_shift 91 = .ok (.iaload, 1) := by decide +kernel
theorem dX8_shift_92 : decode cX8_shift 92 = .ok (.iload 5, 2) := by decide +kernel
theorem dX8_shift_94 : decode cX8_shift 94 = .ok (.isub, 1) := by decide +kernel
theorem dX8_shift_95 : decode cX8_shift 95 = .ok (.if_icmp .le 6, 3) := by decide +kernel
theorem dX8_shift_98 : decode cX8_shift 98 = .ok (.bipush (-13), 2) := by decide +kernel
theorem dX8_shift_100 : decode cX8_shift 100 = .ok (.ireturn, 1) := by decide +kernel
theorem dX8_shift_101 : decode cX8_shift 101 = .ok (.iconst 0, 1) := by decide +kernel
theorem dX8_shift_102 : decode cX8_shift 102 = .ok (.istore 6, 2) := by decide +kernel
theorem dX8_shift_104 : decode cX8_shift 104 = .ok (.iload 6, 2) := by decide +kernel
theorem dX8_shift_106 : decode cX8_shift 106 = .ok (.iload 5, 2) := by decide +kernel
theorem dX8_shift_108 : decode cX8_shift 108 = .ok (.if_icmp .ge 30, 3) := by decide +kernel
theorem dX8_shift_111 : decode cX8_shift 111 = .ok (.aload_n 0, 1) := by decide +kernel
theorem dX8_shift_112 : decode cX8_shift 112 = .ok (.getfield 215, 3) := by decide +kernel
theorem dX8_shift_115 : decode cX8_shift 115 = .ok (.iload 6, 2) := by decide +kernel
theorem dX8_shift_117 : decode cX8_shift 117 = .ok (.aload_n 0, 1) := by decide +kernel
theorem dX8_shift_118 : decode cX8_shift 118 = .ok (.getfield 211, 3) := by decide +kernel
theorem dX8_shift_121 : decode cX8_shift 121 = .ok (.bipush 60, 2) := by decide +kernel
theorem dX8_shift_123 : decode cX8_shift 123 = .ok (.iload_n 1, 1) := by decide +kernel
theorem dX8_shift_124 : decode cX8_shift 124 = .ok (.imul, 1) := by decide +kernel
theorem dX8_shift_125 : decode cX8_shift 125 = .ok (.iload_n 2, 1) := by decide +kernel
theorem dX8_shift_126 : decode cX8_shift 126 = .ok (.iadd, 1) := by decide +kernel
theorem dX8_shift_127 : decode cX8_shift 127 = .ok (.iload 6, 2) := by decide +kernel
theorem dX8_shift_129 : decode cX8_shift 129 = .ok (.iadd, 1) := by decide +kernel
theorem dX8_shift_130 : decode cX8_shift 130 = .ok (.laload, 1) := by decide +kernel
theorem dX8_shift_131 : decode cX8_shift 131 = .ok (.lastore, 1) := by decide +kernel
theorem dX8_shift_132 : decode cX8_shift 132 = .ok (.iinc 6 1, 3) := by decide +kernel
theorem dX8_shift_135 : decode cX8_shift 135 = .ok (.goto (-31), 3) := by decide +kernel
theorem dX8_shift_138 : decode cX8_shift 138 = .ok (.iconst 0, 1) := by decide +kernel
theorem dX8_shift_139 : decode cX8_shift 139 = .ok (.istore 6, 2) := by decide +kernel
theorem dX8_shift_141 : decode cX8_shift 141 = .ok (.iload 6, 2) := by decide +kernel
theorem dX8_shift_143 : decode cX8_shift 143 = .ok (.iload 5, 2) := by decide +kernel
theorem dX8_shift_145 : decode cX8_shift 145 = .ok (.if_icmp .ge 31, 3) := by decide +kernel
theorem dX8_shift_148 : decode cX8_shift 148 = .ok (.aload_n 0, 1) := by decide +kernel
theorem dX8_shift_149 : decode cX8_shift 149 = .ok (.getfield 211, 3) := by decide +kernel
theorem dX8_shift_152 : decode cX8_shift 152 = .ok (.bipush 60, 2) := by decide +kernel
theorem dX8_shift_154 : decode cX8_shift 154 = .ok (.iload_n 3, 1) := by decide +kernel
theorem dX8_shift_155 : decode cX8_shift 155 = .ok (.imul, 1) := by decide +kernel
theorem dX8_shift_156 : decode cX8_shift 156 = .ok (.iload 4, 2) := by decide +kernel
theorem dX8_shift_158 : decode cX8_shift 158 = .ok (.iadd, 1) := by decide +kernel
theorem dX8_shift_159 : decode cX8_shift 159 = .ok (.iload 6, 2) := by decide +kernel
theorem dX8_shift_161 : decode cX8_shift 161 = .ok (.iadd, 1) := by decide +kernel
theorem dX8_shift_162 : decode cX8_shift 162 = .ok (.aload_n 0, 1) := by decide +kernel
theorem dX8_shift_163 : decode cX8_shift 163 = .ok (.getfield 215, 3) := by decide +kernel
theorem dX8_shift_166 : decode cX8_shift 166 = .ok (.iload 6, 2) := by decide +kernel
theorem dX8_shift_168 : decode cX8_shift 168 = .ok (.laload, 1) := by decide +kernel
theorem dX8_shift_169 : decode cX8_shift 169 = .ok (.lastore, 1) := by decide +kernel
theorem dX8_shift_170 : decode cX8_shift 170 = .ok (.iinc 6 1, 3) := by decide +kernel
theorem dX8_shift_173 : decode cX8_shift 173 = .ok (.goto (-32), 3) := by decide +kernel
theorem dX8_shift_176 : decode cX8_shift 176 = .ok (.iload 5, 2) := by decide +kernel
theorem dX8_shift_178 : decode cX8_shift 178 = .ok (.ireturn, 1) := by decide +kernel
