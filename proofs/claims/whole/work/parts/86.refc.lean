theorem dX12_init_0 : decode cX12_init 0 = .ok (.aload_n 0, 1) := by decide +kernel
theorem dX12_init_1 : decode cX12_init 1 = .ok (.invokespecial 1, 3) := by decide +kernel
theorem dX12_init_4 : decode cX12_init 4 = .ok (.aload_n 0, 1) := by decide +kernel
theorem dX12_init_5 : decode cX12_init 5 = .ok (.bipush 12, 2) := by decide +kernel
theorem dX12_init_7 : decode cX12_init 7 = .ok (.newarray .int, 2) := by decide +kernel
theorem dX12_init_9 : decode cX12_init 9 = .ok (.putfield 7, 3) := by decide +kernel
theorem dX12_init_12 : decode cX12_init 12 = .ok (.aload_n 0, 1) := by decide +kernel
theorem dX12_init_13 : decode cX12_init 13 = .ok (.bipush 12, 2) := by decide +kernel
theorem dX12_init_15 : decode cX12_init 15 = .ok (.newarray .int, 2) := by decide +kernel
theorem dX12_init_17 : decode cX12_init 17 = .ok (.putfield 13, 3) := by decide +kernel
theorem dX12_init_20 : decode cX12_init 20 = .ok (.aload_n 0, 1) := by decide +kernel
theorem dX12_init_21 : decode cX12_init 21 = .ok (.bipush 12, 2) := by decide +kernel
theorem dX12_init_23 : decode cX12_init 23 = .ok (.newarray .int, 2) := by decide +kernel
theorem dX12_init_25 : decode cX12_init 25 = .ok (.putfield 16, 3) := by decide +kernel
theorem dX12_init_28 : decode cX12_init 28 = .ok (.aload_n 0, 1) := by decide +kernel
theorem dX12_init_29 : decode cX12_init 29 = .ok (.bipush 12, 2) := by decide +kernel
theorem dX12_init_31 : decode cX12_init 31 = .ok (.newarray .int, 2) := by decide +kernel
theorem dX12_init_33 : decode cX12_init 33 = .ok (.putfield 19, 3) := by decide +kernel
theorem dX12_init_36 : decode cX12_init 36 = .ok (.aload_n 0, 1) := by decide +kernel
theorem dX12_init_37 : decode cX12_init 37 = .ok (.bipush 60, 2) := by decide +kernel
theorem dX12_init_39 : decode cX12_init 39 = .ok (.newarray .int, 2) := by decide +kernel
theorem dX12_init_41 : decode cX12_init 41 = .ok (.putfield 22, 3) := by decide +kernel
theorem dX12_init_44 : decode cX12_init 44 = .ok (.aload_n 0, 1) := by decide +kernel
theorem dX12_init_45 : decode cX12_init 45 = .ok (.bipush 60, 2) := by decide +kernel
theorem dX12_init_47 : decode cX12_init 47 = .ok (.newarray .int, 2) := by decide +kernel
theorem dX12_init_49 : decode cX12_init 49 = .ok (.putfield 25, 3) := by decide +kernel
theorem dX12_init_52 : decode cX12_init 52 = .ok (.aload_n 0, 1) := by decide +kernel
theorem dX12_init_53 : decode cX12_init 53 = .ok (.bipush 60, 2) := by decide +kernel
theorem dX12_init_55 : decode cX12_init 55 = .ok (.newarray .int, 2) := by decide +kernel
theorem dX12_init_57 : decode cX12_init 57 = .ok (.putfield 28, 3) := by decide +kernel
theorem dX12_init_60 : decode cX12_init 60 = .ok (.aload_n 0, 1) := by decide +kernel
theorem dX12_init_61 : decode cX12_init 61 = .ok (.bipush 60, 2) := by decide +kernel
theorem dX12_init_63 : decode cX12_init 63 = .ok (.newarray .int, 2) := by decide +kernel
theorem dX12_init_65 : decode cX12_init 65 = .ok (.putfield 31, 3) := by decide +kernel
theorem dX12_init_68 : decode cX12_init 68 = .ok (.aload_n 0, 1) := by decide +kernel
theorem dX12_init_69 : decode cX12_init 69 = .ok (.bipush 60, 2) := by decide +kernel
theorem dX12_init_71 : decode cX12_init 71 = .ok (.newarray .int, 2) := by decide +kernel
theorem dX12_init_73 : decode cX12_init 73 = .ok (.putfield 34, 3) := by decide +kernel
theorem dX12_init_76 : decode cX12_init 76 = .ok (.aload_n 0, 1) := by decide +kernel
theorem dX12_init_77 : decode cX12_init 77 = .ok (.bipush 12, 2) := by decide +kernel
theorem dX12_init_79 : decode cX12_init 79 = .ok (.newarray .int, 2) := by decide +kernel
theorem dX12_init_81 : decode cX12_init 81 = .ok (.putfield 37, 3) := by decide +kernel
theorem dX12_init_84 : decode cX12_init 84 = .ok (.aload_n 0, 1) := by decide +kernel
theorem dX12_init_85 : decode cX12_init 85 = .ok (.bipush 72, 2) := by decide +kernel
theorem dX12_init_87 : decode cX12_init 87 = .ok (.newarray .int, 2) := by decide +kernel
theorem dX12_init_89 : decode cX12_init 89 = .ok (.putfield 40, 3) := by decide +kernel
theorem dX12_init_92 : decode cX12_init 92 = .ok (.aload_n 0, 1) := by decide +kernel
theorem dX12_init_93 : decode cX12_init 93 = .ok (.bipush 12, 2) := by decide +kernel
theorem dX12_init_95 : decode cX12_init 95 = .ok (.newarray .int, 2) := by decide +kernel
theorem dX12_init_97 : decode cX12_init 97 = .ok (.putfield 43, 3) := by decide +kernel
theorem dX12_init_100 : decode cX12_init 100 = .ok (.aload_n 0, 1) := by decide +kernel
theorem dX12_init_101 : decode cX12_init 101 = .ok (.sipush 240, 3) := by decide +kernel
theorem dX12_init_104 : decode cX12_init 104 = .ok (.newarray .int, 2) := by decide +kernel
theorem dX12_init_106 : decode cX12_init 106 = .ok (.putfield 46, 3) := by decide +kernel
theorem dX12_init_109 : decode cX12_init 109 = .ok (.aload_n 0, 1) := by decide +kernel
theorem dX12_init_110 : decode cX12_init 110 = .ok (.bipush 10, 2) := by decide +kernel
theorem dX12_init_112 : decode cX12_init 112 = .ok (.newarray .int, 2) := by decide +kernel
theorem dX12_init_114 : decode cX12_init 114 = .ok (.dup, 1) := by decide +kernel
theorem dX12_init_115 : decode cX12_init 115 = .ok (.iconst 0, 1) := by decide +kernel
theorem dX12_init_116 : decode cX12_init 116 = .ok (.iconst 0, 1) := by decide +kernel
theorem dX12_init_117 : decode cX12_init 117 = .ok (.iastore, 1) := by decide +kernel
theorem dX12_init_118 : decode cX12_init 118 = .ok (.dup, 1) := by decide +kernel
theorem dX12_init_119 : decode cX12_init 119 = .ok (.iconst 1, 1) := by decide +kernel
theorem dX12_init_120 : decode cX12_init 120 = .ok (.iconst 5, 1) := by decide +kernel
theorem dX12_init_121 : decode cX12_init 121 = .ok (.iastore, 1) := by decide +kernel
theorem dX12_init_122 : decode cX12_init 122 = .ok (.dup, 1) := by decide +kernel
theorem dX12_init_123 : decode cX12_init 123 = .ok (.iconst 2, 1) := by decide +kernel
theorem dX12_init_124 : decode cX12_init 124 = .ok (.bipush 9, 2) := by decide +kernel
theorem dX12_init_126 : decode cX12_init 126 = .ok (.iastore, 1) := by decide +kernel
theorem dX12_init_127 : decode cX12_init 127 = .ok (.dup, 1) := by decide +kernel
theorem dX12_init_128 : decode cX12_init 128 = .ok (.iconst 3, 1) := by decide +kernel
theorem dX12_init_129 : decode cX12_init 129 = .ok (.bipush 14, 2) := by decide +kernel
theorem dX12_init_131 : decode cX12_init 131 = .ok (.iastore, 1) := by decide +kernel
theorem dX12_init_132 : decode cX12_init 132 = .ok (.dup, 1) := by decide +kernel
theorem dX12_init_133 : decode cX12_init 133 = .ok (.iconst 4, 1) := by decide +kernel
theorem dX12_init_134 : decode cX12_init 134 = .ok (.bipush 18, 2) := by decide +kernel
theorem dX12_init_136 : decode cX12_init 136 = .ok (.iastore, 1) := by decide +kernel
theorem dX12_init_137 : decode cX12_init 137 = .ok (.dup, 1) := by decide +kernel
theorem dX12_init_138 : decode cX12_init 138 = .ok (.iconst 5, 1) := by decide +kernel
theorem dX12_init_139 : decode cX12_init 139 = .ok (.bipush 22, 2) := by decide +kernel
theorem dX12_init_141 : decode cX12_init 141 = .ok (.iastore, 1) := by decide +kernel
theorem dX12_init_142 : decode cX12_init 142 = .ok (.dup, 1) := by decide +kernel
theorem dX12_init_143 : decode cX12_init 143 = .ok (.bipush 6, 2) := by decide +kernel
theorem dX12_init_145 : decode cX12_init 145 = .ok (.bipush 29, 2) := by decide +kernel
theorem dX12_init_147 : decode cX12_init 147 = .ok (.iastore, 1) := by decide +kernel
theorem dX12_init_148 : decode cX12_init 148 = .ok (.dup, 1) := by decide +kernel
theorem dX12_init_149 : decode cX12_init 149 = .ok (.bipush 7, 2) := by decide +kernel
theorem dX12_init_151 : decode cX12_init 151 = .ok (.bipush 33, 2) := by decide +kernel
theorem dX12_init_153 : decode cX12_init 153 = .ok (.iastore, 1) := by decide +kernel
theorem dX12_init_154 : decode cX12_init 154 = .ok (.dup, 1) := by decide +kernel
theorem dX12_init_155 : decode cX12_init 155 = .ok (.bipush 8, 2) := by decide +kernel
theorem dX12_init_157 : decode cX12_init 157 = .ok (.bipush 35, 2) := by decide +kernel
theorem dX12_init_159 : decode cX12_init 159 = .ok (.iastore, 1) := by decide +kernel
theorem dX12_init_160 : decode cX12_init 160 = .ok (.dup, 1) := by decide +kernel
theorem dX12_init_161 : decode cX12_init 161 = .ok (.bipush 9, 2) := by decide +kernel
theorem dX12_init_163 : decode cX12_init 163 = .ok (.bipush 38, 2) := by decide +kernel
theorem dX12_init_165 : decode cX12_init 165 = .ok (.iastore, 1) := by decide +kernel
theorem dX12_init_166 : decode cX12_init 166 = .ok (.putfield 49, 3) := by decide +kernel
theorem dX12_init_169 : decode cX12_init 169 = .ok (.aload_n 0, 1) := by decide +kernel
theorem dX12_init_170 : decode cX12_init 170 = .ok (.bipush 38, 2) := by decide +kernel
theorem dX12_init_172 : decode cX12_init 172 = .ok (.newarray .int, 2) := by decide +kernel
theorem dX12_init_174 : decode cX12_init 174 = .ok (.dup, 1) := by decide +kernel
theorem dX12_init_175 : decode cX12_init 175 = .ok (.iconst 0, 1) := by decide +kernel
theorem dX12_init_176 : decode cX12_init 176 = .ok (.bipush 105, 2) := by decide +kernel
theorem dX12_init_178 : decode cX12_init 178 = .ok (.iastore, 1) := by decide +kernel
theorem dX12_init_179 : decode cX12_init 179 = .ok (.dup, 1) := by decide +kernel
theorem dX12_init_180 : decode cX12_init 180 = .ok (.iconst 1, 1) := by decide +kernel
theorem dX12_init_181 : decode cX12_init 181 = .ok (.bipush 115, 2) := by decide +kernel
theorem dX12_init_183 : decode cX12_init 183 = .ok (.iastore, 1) := by decide +kernel
theorem dX12_init_184 : decode cX12_init 184 = .ok (.dup, 1) := by decide +kernel
theorem dX12_init_185 : decode cX12_init 185 = .ok (.iconst 2, 1) := by decide +kernel
theorem dX12_init_186 : decode cX12_init 186 = .ok (.bipush 115, 2) := by decide +kernel
theorem dX12_init_188 : decode cX12_init 188 = .ok (.iastore, 1) := by decide +kernel
theorem dX12_init_189 : decode cX12_init 189 = .ok (.dup, 1) := by decide +kernel
theorem dX12_init_190 : decode cX12_init 190 = .ok (.iconst 3, 1) := by decide +kernel
theorem dX12_init_191 : decode cX12_init 191 = .ok (.bipush 117, 2) := by decide +kernel
theorem dX12_init_193 : decode cX12_init 193 = .ok (.iastore, 1) := by decide +kernel
theorem dX12_init_194 : decode cX12_init 194 = .ok (.dup, 1) := by decide +kernel
theorem dX12_init_195 : decode cX12_init 195 = .ok (.iconst 4, 1) := by decide +kernel
theorem dX12_init_196 : decode cX12_init 196 = .ok (.bipush 101, 2) := by decide +kernel
theorem dX12_init_198 : decode cX12_init 198 = .ok (.iastore, 1) := by decide +kernel
theorem dX12_init_199 : decode cX12_init 199 = .ok (.dup, 1) := by decide +kernel
theorem dX12_init_200 : decode cX12_init 200 = .ok (.iconst 5, 1) := by decide +kernel
theorem dX12_init_201 : decode cX12_init 201 = .ok (.bipush 108, 2) := by decide +kernel
theorem dX12_init_203 : decode cX12_init 203 = .ok (.iastore, 1) := by decide +kernel
theorem dX12_init_204 : decode cX12_init 204 = .ok (.dup, 1) := by decide +kernel
theorem dX12_init_205 : decode cX12_init 205 = .ok (.bipush 6, 2) := by decide +kernel
theorem dX12_init_207 : decode cX12_init 207 = .ok (.bipush 105, 2) := by decide +kernel
theorem dX12_init_209 : decode cX12_init 209 = .ok (.iastore, 1) := by decide +kernel
theorem dX12_init_210 : decode cX12_init 210 = .ok (.dup, 1) := by decide +kernel
theorem dX12_init_211 : decode cX12_init 211 = .ok (.bipush 7, 2) := by decide +kernel
theorem dX12_init_213 : decode cX12_init 213 = .ok (.bipush 102, 2) := by decide +kernel
theorem dX12_init_215 : decode cX12_init 215 = .ok (.iastore, 1) := by decide +kernel
theorem dX12_init_216 : decode cX12_init 216 = .ok (.dup, 1) := by decide +kernel
theorem dX12_init_217 : decode cX12_init 217 = .ok (.bipush 8, 2) := by decide +kernel
theorem dX12_init_219 : decode cX12_init 219 = .ok (.bipush 101, 2) := by decide +kernel
theorem dX12_init_221 : decode cX12_init 221 = .ok (.iastore, 1) := by decide +kernel
theorem dX12_init_222 : decode cX12_init 222 = .ok (.dup, 1) := by decide +kernel
theorem dX12_init_223 : decode cX12_init 223 = .ok (.bipush 9, 2) := by decide +kernel
theorem dX12_init_225 : decode cX12_init 225 = .ok (.bipush 112, 2) := by decide +kernel
theorem dX12_init_227 : decode cX12_init 227 = .ok (.iastore, 1) := by decide +kernel
theorem dX12_init_228 : decode cX12_init 228 = .ok (.dup, 1) := by decide +kernel
theorem dX12_init_229 : decode cX12_init 229 = .ok (.bipush 10, 2) := by decide +kernel
theorem dX12_init_231 : decode cX12_init 231 = .ok (.bipush 114, 2) := by decide +kernel
theorem dX12_init_233 : decode cX12_init 233 = .ok (.iastore, 1) := by decide +kernel
theorem dX12_init_234 : decode cX12_init 234 = .ok (.dup, 1) := by decide +kernel
theorem dX12_init_235 : decode cX12_init 235 = .ok (.bipush 11, 2) := by decide +kernel
theorem dX12_init_237 : decode cX12_init 237 = .ok (.bipush 105, 2) := by decide +kernel
theorem dX12_init_239 : decode cX12_init 239 = .ok (.iastore, 1) := by decide +kernel
theorem dX12_init_240 : decode cX12_init 240 = .ok (.dup, 1) := by decide +kernel
theorem dX12_init_241 : decode cX12_init 241 = .ok (.bipush 12, 2) := by decide +kernel
theorem dX12_init_243 : decode cX12_init 243 = .ok (.bipush 99, 2) := by decide +kernel
theorem dX12_init_245 : decode cX12_init 245 = .ok (.iastore, 1) := by decide +kernel
theorem dX12_init_246 : decode cX12_init 246 = .ok (.dup, 1) := by decide +kernel
theorem dX12_init_247 : decode cX12_init 247 = .ok (.bipush 13, 2) := by decide +kernel
theorem dX12_init_249 : decode cX12_init 249 = .ok (.bipush 101, 2) := by decide +kernel
theorem dX12_init_251 : decode cX12_init 251 = .ok (.iastore, 1) := by decide +kernel
theorem dX12_init_252 : decode cX12_init 252 = .ok (.dup, 1) := by decide +kernel
theorem dX12_init_253 : decode cX12_init 253 = .ok (.bipush 14, 2) := by decide +kernel
theorem dX12_init_255 : decode cX12_init 255 = .ok (.bipush 114, 2) := by decide +kernel
theorem dX12_init_257 : decode cX12_init 257 = .ok (.iastore, 1) := by decide +kernel
theorem dX12_init_258 : decode cX12_init 258 = .ok (.dup, 1) := by decide +kernel
theorem dX12_init_259 : decode cX12_init 259 = .ok (.bipush 15, 2) := by decide +kernel
theorem dX12_init_261 : decode cX12_init 261 = .ok (.bipush 97, 2) := by decide +kernel
theorem dX12_init_263 : decode cX12_init 263 = .ok (.iastore, 1) := by decide +kernel
theorem dX12_init_264 : decode cX12_init 264 = .ok (.dup, 1) := by decide +kernel
theorem dX12_init_265 : decode cX12_init 265 = .ok (.bipush 16, 2) := by decide +kernel
theorem dX12_init_267 : decode cX12_init 267 = .ok (.bipush 110, 2) := by decide +kernel
theorem dX12_init_269 : decode cX12_init 269 = .ok (.iastore, 1) := by decide +kernel
theorem dX12_init_270 : decode cX12_init 270 = .ok (.dup, 1) := by decide +kernel
theorem dX12_init_271 : decode cX12_init 271 = .ok (.bipush 17, 2) := by decide +kernel
theorem dX12_init_273 : decode cX12_init 273 = .ok (.bipush 107, 2) := by decide +kernel
theorem dX12_init_275 : decode cX12_init 275 = .ok (.iastore, 1) := by decide +kernel
theorem dX12_init_276 : decode cX12_init 276 = .ok (.dup, 1) := by decide +kernel
theorem dX12_init_277 : decode cX12_init 277 = .ok (.bipush 18, 2) := by decide +kernel
theorem dX12_init_279 : decode cX12_init 279 = .ok (.bipush 100, 2) := by decide +kernel
theorem dX12_init_281 : decode cX12_init 281 = .ok (.iastore, 1) := by decide +kernel
theorem dX12_init_282 : decode cX12_init 282 = .ok (.dup, 1) := by decide +kernel
theorem dX12_init_283 : decode cX12_init 283 = .ok (.bipush 19, 2) := by decide +kernel
theorem dX12_init_285 : decode cX12_init 285 = .ok (.bipush 117, 2) := by decide +kernel
theorem dX12_init_287 : decode cX12_init 287 = .ok (.iastore, 1) := by decide +kernel
theorem dX12_init_288 : decode cX12_init 288 = .ok (.dup, 1) := by decide +kernel
theorem dX12_init_289 : decode cX12_init 289 = .ok (.bipush 20, 2) := by decide +kernel
theorem dX12_init_291 : decode cX12_init 291 = .ok (.bipush 116, 2) := by decide +kernel
theorem dX12_init_293 : decode cX12_init 293 = .ok (.iastore, 1) := by decide +kernel
theorem dX12_init_294 : decode cX12_init 294 = .ok (.dup, 1) := by decide +kernel
theorem dX12_init_295 : decode cX12_init 295 = .ok (.bipush 21, 2) := by decide +kernel
theorem dX12_init_297 : decode cX12_init 297 = .ok (.bipush 121, 2) := by decide +kernel
theorem dX12_init_299 : decode cX12_init 299 = .ok (.iastore, 1) := by decide +kernel
theorem dX12_init_300 : decode cX12_init 300 = .ok (.dup, 1) := by decide +kernel
theorem dX12_init_301 : decode cX12_init 301 = .ok (.bipush 22, 2) := by decide +kernel
theorem dX12_init_303 : decode cX12_init 303 = .ok (.bipush 99, 2) := by decide +kernel
theorem dX12_init_305 : decode cX12_init 305 = .ok (.iastore, 1) := by decide +kernel
theorem dX12_init_306 : decode cX12_init 306 = .ok (.dup, 1) := by decide +kernel
theorem dX12_init_307 : decode cX12_init 307 = .ok (.bipush 23, 2) := by decide +kernel
theorem dX12_init_309 : decode cX12_init 309 = .ok (.bipush 108, 2) := by decide +kernel
theorem dX12_init_311 : decode cX12_init 311 = .ok (.iastore, 1) := by decide +kernel
theorem dX12_init_312 : decode cX12_init 312 = .ok (.dup, 1) := by decide +kernel
theorem dX12_init_313 : decode cX12_init 313 = .ok (.bipush 24, 2) := by decide +kernel
theorem dX12_init_315 : decode cX12_init 315 = .ok (.bipush 105, 2) := by decide +kernel
theorem dX12_init_317 : decode cX12_init 317 = .ok (.iastore, 1) := by decide +kernel
theorem dX12_init_318 : decode cX12_init 318 = .ok (.dup, 1) := by decide +kernel
theorem dX12_init_319 : decode cX12_init 319 = .ok (.bipush 25, 2) := by decide +kernel
theorem dX12_init_321 : decode cX12_init 321 = .ok (.bipush 109, 2) := by decide +kernel
theorem dX12_init_323 : decode cX12_init 323 = .ok (.iastore, 1) := by decide +kernel
theorem dX12_init_324 : decode cX12_init 324 = .ok (.dup, 1) := by decide +kernel
theorem dX12_init_325 : decode cX12_init 325 = .ok (.bipush 26, 2) := by decide +kernel
theorem dX12_init_327 : decode cX12_init 327 = .ok (.bipush 97, 2) := by decide +kernel
theorem dX12_init_329 : decode cX12_init 329 = .ok (.iastore, 1) := by decide +kernel
theorem dX12_init_330 : decode cX12_init 330 = .ok (.dup, 1) := by decide +kernel
theorem dX12_init_331 : decode cX12_init 331 = .ok (.bipush 27, 2) := by decide +kernel
theorem dX12_init_333 : decode cX12_init 333 = .ok (.bipush 116, 2) := by decide +kernel
theorem dX12_init_335 : decode cX12_init 335 = .ok (.iastore, 1) := by decide +kernel
theorem dX12_init_336 : decode cX12_init 336 = .ok (.dup, 1) := by decide +kernel
theorem dX12_init_337 : decode cX12_init 337 = .ok (.bipush 28, 2) := by decide +kernel
theorem dX12_init_339 : decode cX12_init 339 = .ok (.bipush 101, 2) := by decide +kernel
theorem dX12_init_341 : decode cX12_init 341 = .ok (.iastore, 1) := by decide +kernel
theorem dX12_init_342 : decode cX12_init 342 = .ok (.dup, 1) := by decide +kernel
theorem dX12_init_343 : decode cX12_init 343 = .ok (.bipush 29, 2) := by decide +kernel
theorem dX12_init_345 : decode cX12_init 345 = .ok (.bipush 102, 2) := by decide +kernel
theorem dX12_init_347 : decode cX12_init 347 = .ok (.iastore, 1) := by decide +kernel
theorem dX12_init_348 : decode cX12_init 348 = .ok (.dup, 1) := by decide +kernel
theorem dX12_init_349 : decode cX12_init 349 = .ok (.bipush 30, 2) := by decide +kernel
theorem dX12_init_351 : decode cX12_init 351 = .ok (.bipush 114, 2) := by decide +kernel
theorem dX12_init_353 : decode cX12_init 353 = .ok (.iastore, 1) := by decide +kernel
theorem dX12_init_354 : decode cX12_init 354 = .ok (.dup, 1) := by decide +kernel
theorem dX12_init_355 : decode cX12_init 355 = .ok (.bipush 31, 2) := by decide +kernel
theorem dX12_init_357 : decode cX12_init 357 = .ok (.bipush 111, 2) := by decide +kernel
theorem dX12_init_359 : decode cX12_init 359 = .ok (.iastore, 1) := by decide +kernel
theorem dX12_init_360 : decode cX12_init 360 = .ok (.dup, 1) := by decide +kernel
theorem dX12_init_361 : decode cX12_init 361 = .ok (.bipush 32, 2) := by decide +kernel
theorem dX12_init_363 : decode cX12_init 363 = .ok (.bipush 109, 2) := by decide +kernel
theorem dX12_init_365 : decode cX12_init 365 = .ok (.iastore, 1) := by decide +kernel
theorem dX12_init_366 : decode cX12_init 366 = .ok (.dup, 1) := by decide +kernel
theorem dX12_init_367 : decode cX12_init 367 = .ok (.bipush 33, 2) := by decide +kernel
theorem dX12_init_369 : decode cX12_init 369 = .ok (.bipush 105, 2) := by decide +kernel
theorem dX12_init_371 : decode cX12_init 371 = .ok (.iastore, 1) := by decide +kernel
theorem dX12_init_372 : decode cX12_init 372 = .ok (.dup, 1) := by decide +kernel
theorem dX12_init_373 : decode cX12_init 373 = .ok (.bipush 34, 2) := by decide +kernel
theorem dX12_init_375 : decode cX12_init 375 = .ok (.bipush 102, 2) := by decide +kernel
theorem dX12_init_377 : decode cX12_init 377 = .ok (.iastore, 1) := by decide +kernel
theorem dX12_init_378 : decode cX12_init 378 = .ok (.dup, 1) := by decide +kernel
theorem dX12_init_379 : decode cX12_init 379 = .ok (.bipush 35, 2) := by decide +kernel
theorem dX12_init_381 : decode cX12_init 381 = .ok (.bipush 97, 2) := by decide +kernel
theorem dX12_init_383 : decode cX12_init 383 = .ok (.iastore, 1) := by decide +kernel
theorem dX12_init_384 : decode cX12_init 384 = .ok (.dup, 1) := by decide +kernel
theorem dX12_init_385 : decode cX12_init 385 = .ok (.bipush 36, 2) := by decide +kernel
theorem dX12_init_387 : decode cX12_init 387 = .ok (.bipush 110, 2) := by decide +kernel
theorem dX12_init_389 : decode cX12_init 389 = .ok (.iastore, 1) := by decide +kernel
theorem dX12_init_390 : decode cX12_init 390 = .ok (.dup, 1) := by decide +kernel
theorem dX12_init_391 : decode cX12_init 391 = .ok (.bipush 37, 2) := by decide +kernel
theorem dX12_init_393 : decode cX12_init 393 = .ok (.bipush 100, 2) := by decide +kernel
theorem dX12_init_395 : decode cX12_init 395 = .ok (.iastore, 1) := by decide +kernel
theorem dX12_init_396 : decode cX12_init 396 = .ok (.putfield 52, 3) := by decide +kernel
theorem dX12_init_399 : decode cX12_init 399 = .ok (.aload_n 0, 1) := by decide +kernel
theorem dX12_init_400 : decode cX12_init 400 = .ok (.bipush 12, 2) := by decide +kernel
theorem dX12_init_402 : decode cX12_init 402 = .ok (.newarray .int, 2) := by decide +kernel
theorem dX12_init_404 : decode cX12_init 404 = .ok (.putfield 55, 3) := by decide +kernel
theorem dX12_init_407 : decode cX12_init 407 = .ok (.aload_n 0, 1) := by decide +kernel
theorem dX12_init_408 : decode cX12_init 408 = .ok (.bipush 12, 2) := by decide +kernel
theorem dX12_init_410 : decode cX12_init 410 = .ok (.newarray .int, 2) := by decide +kernel
theorem dX12_init_412 : decode cX12_init 412 = .ok (.putfield 58, 3) := by decide +kernel
theorem dX12_init_415 : decode cX12_init 415 = .ok (.aload_n 0, 1) := by decide +kernel
theorem dX12_init_416 : decode cX12_init 416 = .ok (.bipush 12, 2) := by decide +kernel
theorem dX12_init_418 : decode cX12_init 418 = .ok (.newarray .int, 2) := by decide +kernel
theorem dX12_init_420 : decode cX12_init 420 = .ok (.putfield 61, 3) := by decide +kernel
theorem dX12_init_423 : decode cX12_init 423 = .ok (.aload_n 0, 1) := by decide +kernel
theorem dX12_init_424 : decode cX12_init 424 = .ok (.bipush 12, 2) := by decide +kernel
theorem dX12_init_426 : decode cX12_init 426 = .ok (.newarray .int, 2) := by decide +kernel
theorem dX12_init_428 : decode cX12_init 428 = .ok (.putfield 64, 3) := by decide +kernel
theorem dX12_init_431 : decode cX12_init 431 = .ok (.aload_n 0, 1) := by decide +kernel
theorem dX12_init_432 : decode cX12_init 432 = .ok (.bipush 12, 2) := by decide +kernel
theorem dX12_init_434 : decode cX12_init 434 = .ok (.newarray .int, 2) := by decide +kernel
theorem dX12_init_436 : decode cX12_init 436 = .ok (.putfield 67, 3) := by decide +kernel
theorem dX12_init_439 : decode cX12_init 439 = .ok (.aload_n 0, 1) := by decide +kernel
theorem dX12_init_440 : decode cX12_init 440 = .ok (.bipush 108, 2) := by decide +kernel
theorem dX12_init_442 : decode cX12_init 442 = .ok (.newarray .int, 2) := by decide +kernel
theorem dX12_init_444 : decode cX12_init 444 = .ok (.putfield 70, 3) := by decide +kernel
theorem dX12_init_447 : decode cX12_init 447 = .ok (.aload_n 0, 1) := by decide +kernel
theorem dX12_init_448 : decode cX12_init 448 = .ok (.bipush 12, 2) := by decide +kernel
theorem dX12_init_450 : decode cX12_init 450 = .ok (.newarray .int, 2) := by decide +kernel
theorem dX12_init_452 : decode cX12_init 452 = .ok (.putfield 73, 3) := by decide +kernel
theorem dX12_init_455 : decode cX12_init 455 = .ok (.aload_n 0, 1) := by decide +kernel
theorem dX12_init_456 : decode cX12_init 456 = .ok (.bipush 12, 2) := by decide +kernel
theorem dX12_init_458 : decode cX12_init 458 = .ok (.newarray .int, 2) := by decide +kernel
theorem dX12_init_460 : decode cX12_init 460 = .ok (.putfield 76, 3) := by decide +kernel
theorem dX12_init_463 : decode cX12_init 463 = .ok (.aload_n 0, 1) := by decide +kernel
theorem dX12_init_464 : decode cX12_init 464 = .ok (.bipush 12, 2) := by decide +kernel
theorem dX12_init_466 : decode cX12_init 466 = .ok (.newarray .int, 2) := by decide +kernel
theorem dX12_init_468 : decode cX12_init 468 = .ok (.putfield 79, 3) := by decide +kernel
theorem dX12_init_471 : decode cX12_init 471 = .ok (.aload_n 0, 1) := by decide +kernel
theorem dX12_init_472 : decode cX12_init 472 = .ok (.bipush 12, 2) := by decide +kernel
theorem dX12_init_474 : decode cX12_init 474 = .ok (.newarray .int, 2) := by decide +kernel
theorem dX12_init_476 : decode cX12_init 476 = .ok (.putfield 82, 3) := by decide +kernel
theorem dX12_init_479 : decode cX12_init 479 = .ok (.aload_n 0, 1) := by decide +kernel
theorem dX12_init_480 : decode cX12_init 480 = .ok (.bipush 12, 2) := by decide +kernel
theorem dX12_init_482 : decode cX12_init 482 = .ok (.newarray .int, 2) := by decide +kernel
theorem dX12_init_484 : decode cX12_init 484 = .ok (.putfield 85, 3) := by decide +kernel
theorem dX12_init_487 : decode cX12_init 487 = .ok (.aload_n 0, 1) := by decide +kernel
theorem dX12_init_488 : decode cX12_init 488 = .ok (.bipush 108, 2) := by decide +kernel
theorem dX12_init_490 : decode cX12_init 490 = .ok (.newarray .int, 2) := by decide +kernel
theorem dX12_init_492 : decode cX12_init 492 = .ok (.putfield 88, 3) := by decide +kernel
theorem dX12_init_495 : decode cX12_init 495 = .ok (.aload_n 0, 1) := by decide +kernel
theorem dX12_init_496 : decode cX12_init 496 = .ok (.bipush 16, 2) := by decide +kernel
theorem dX12_init_498 : decode cX12_init 498 = .ok (.newarray .int, 2) := by decide +kernel
theorem dX12_init_500 : decode cX12_init 500 = .ok (.dup, 1) := by decide +kernel
theorem dX12_init_501 : decode cX12_init 501 = .ok (.iconst 0, 1) := by decide +kernel
theorem dX12_init_502 : decode cX12_init 502 = .ok (.iconst 0, 1) := by decide +kernel
theorem dX12_init_503 : decode cX12_init 503 = .ok (.iastore, 1) := by decide +kernel
theorem dX12_init_504 : decode cX12_init 504 = .ok (.dup, 1) := by decide +kernel
theorem dX12_init_505 : decode cX12_init 505 = .ok (.iconst 1, 1) := by decide +kernel
theorem dX12_init_506 : decode cX12_init 506 = .ok (.bipush 50, 2) := by decide +kernel
theorem dX12_init_508 : decode cX12_init 508 = .ok (.iastore, 1) := by decide +kernel
theorem dX12_init_509 : decode cX12_init 509 = .ok (.dup, 1) := by decide +kernel
theorem dX12_init_510 : decode cX12_init 510 = .ok (.iconst 2, 1) := by decide +kernel
theorem dX12_init_511 : decode cX12_init 511 = .ok (.bipush 50, 2) := by decide +kernel
theorem dX12_init_513 : decode cX12_init 513 = .ok (.iastore, 1) := by decide +kernel
theorem dX12_init_514 : decode cX12_init 514 = .ok (.dup, 1) := by decide +kernel
theorem dX12_init_515 : decode cX12_init 515 = .ok (.iconst 3, 1) := by decide +kernel
theorem dX12_init_516 : decode cX12_init 516 = .ok (.bipush 50, 2) := by decide +kernel
theorem dX12_init_518 : decode cX12_init 518 = .ok (.iastore, 1) := by decide +kernel
theorem dX12_init_519 : decode cX12_init 519 = .ok (.dup, 1) := by decide +kernel
theorem dX12_init_520 : decode cX12_init 520 = .ok (.iconst 4, 1) := by decide +kernel
theorem dX12_init_521 : decode cX12_init 521 = .ok (.bipush 50, 2) := by decide +kernel
theorem dX12_init_523 : decode cX12_init 523 = .ok (.iastore, 1) := by decide +kernel
theorem dX12_init_524 : decode cX12_init 524 = .ok (.dup, 1) := by decide +kernel
theorem dX12_init_525 : decode cX12_init 525 = .ok (.iconst 5, 1) := by decide +kernel
theorem dX12_init_526 : decode cX12_init 526 = .ok (.iconst 0, 1) := by decide +kernel
theorem dX12_init_527 : decode cX12_init 527 = .ok (.iastore, 1) := by decide +kernel
theorem dX12_init_528 : decode cX12_init 528 = .ok (.dup, 1) := by decide +kernel
theorem dX12_init_529 : decode cX12_init 529 = .ok (.bipush 6, 2) := by decide +kernel
theorem dX12_init_531 : decode cX12_init 531 = .ok (.bipush 50, 2) := by decide +kernel
theorem dX12_init_533 : decode cX12_init 533 = .ok (.iastore, 1) := by decide +kernel
theorem dX12_init_534 : decode cX12_init 534 = .ok (.dup, 1) := by decide +kernel
theorem dX12_init_535 : decode cX12_init 535 = .ok (.bipush 7, 2) := by decide +kernel
theorem dX12_init_537 : decode cX12_init 537 = .ok (.bipush 50, 2) := by decide +kernel
theorem dX12_init_539 : decode cX12_init 539 = .ok (.iastore, 1) := by decide +kernel
theorem dX12_init_540 : decode cX12_init 540 = .ok (.dup, 1) := by decide +kernel
theorem dX12_init_541 : decode cX12_init 541 = .ok (.bipush 8, 2) := by decide +kernel
theorem dX12_init_543 : decode cX12_init 543 = .ok (.bipush 50, 2) := by decide +kernel
theorem dX12_init_545 : decode cX12_init 545 = .ok (.iastore, 1) := by decide +kernel
theorem dX12_init_546 : decode cX12_init 546 = .ok (.dup, 1) := by decide +kernel
theorem dX12_init_547 : decode cX12_init 547 = .ok (.bipush 9, 2) := by decide +kernel
theorem dX12_init_549 : decode cX12_init 549 = .ok (.bipush 50, 2) := by decide +kernel
theorem dX12_init_551 : decode cX12_init 551 = .ok (.iastore, 1) := by decide +kernel
theorem dX12_init_552 : decode cX12_init 552 = .ok (.dup, 1) := by decide +kernel
theorem dX12_init_553 : decode cX12_init 553 = .ok (.bipush 10, 2) := by decide +kernel
theorem dX12_init_555 : decode cX12_init 555 = .ok (.iconst 0, 1) := by decide +kernel
theorem dX12_init_556 : decode cX12_init 556 = .ok (.iastore, 1) := by decide +kernel
theorem dX12_init_557 : decode cX12_init 557 = .ok (.dup, 1) := by decide +kernel
theorem dX12_init_558 : decode cX12_init 558 = .ok (.bipush 11, 2) := by decide +kernel
theorem dX12_init_560 : decode cX12_init 560 = .ok (.bipush 50, 2) := by decide +kernel
theorem dX12_init_562 : decode cX12_init 562 = .ok (.iastore, 1) := by decide +kernel
theorem dX12_init_563 : decode cX12_init 563 = .ok (.dup, 1) := by decide +kernel
theorem dX12_init_564 : decode cX12_init 564 = .ok (.bipush 12, 2) := by decide +kernel
theorem dX12_init_566 : decode cX12_init 566 = .ok (.bipush 50, 2) := by decide +kernel
theorem dX12_init_568 : decode cX12_init 568 = .ok (.iastore, 1) := by decide +kernel
theorem dX12_init_569 : decode cX12_init 569 = .ok (.dup, 1) := by decide +kernel
theorem dX12_init_570 : decode cX12_init 570 = .ok (.bipush 13, 2) := by decide +kernel
theorem dX12_init_572 : decode cX12_init 572 = .ok (.bipush 50, 2) := by decide +kernel
theorem dX12_init_574 : decode cX12_init 574 = .ok (.iastore, 1) := by decide +kernel
theorem dX12_init_575 : decode cX12_init 575 = .ok (.dup, 1) := by decide +kernel
theorem dX12_init_576 : decode cX12_init 576 = .ok (.bipush 14, 2) := by decide +kernel
theorem dX12_init_578 : decode cX12_init 578 = .ok (.bipush 50, 2) := by decide +kernel
theorem dX12_init_580 : decode cX12_init 580 = .ok (.iastore, 1) := by decide +kernel
theorem dX12_init_581 : decode cX12_init 581 = .ok (.dup, 1) := by decide +kernel
theorem dX12_init_582 : decode cX12_init 582 = .ok (.bipush 15, 2) := by decide +kernel
theorem dX12_init_584 : decode cX12_init 584 = .ok (.iconst 0, 1) := by decide +kernel
theorem dX12_init_585 : decode cX12_init 585 = .ok (.iastore, 1) := by decide +kernel
theorem dX12_init_586 : decode cX12_init 586 = .ok (.putfield 91, 3) := by decide +kernel
theorem dX12_init_589 : decode cX12_init 589 = .ok (.aload_n 0, 1) := by decide +kernel
theorem dX12_init_590 : decode cX12_init 590 = .ok (.bipush 36, 2) := by decide +kernel
theorem dX12_init_592 : decode cX12_init 592 = .ok (.newarray .int, 2) := by decide +kernel
theorem dX12_init_594 : decode cX12_init 594 = .ok (.putfield 94, 3) := by decide +kernel
theorem dX12_init_597 : decode cX12_init 597 = .ok (.aload_n 0, 1) := by decide +kernel
theorem dX12_init_598 : decode cX12_init 598 = .ok (.bipush 36, 2) := by decide +kernel
theorem dX12_init_600 : decode cX12_init 600 = .ok (.newarray .int, 2) := by decide +kernel
theorem dX12_init_602 : decode cX12_init 602 = .ok (.putfield 97, 3) := by decide +kernel
theorem dX12_init_605 : decode cX12_init 605 = .ok (.aload_n 0, 1) := by decide +kernel
theorem dX12_init_606 : decode cX12_init 606 = .ok (.bipush 36, 2) := by decide +kernel
theorem dX12_init_608 : decode cX12_init 608 = .ok (.newarray .int, 2) := by decide +kernel
theorem dX12_init_610 : decode cX12_init 610 = .ok (.putfield 100, 3) := by decide +kernel
theorem dX12_init_613 : decode cX12_init 613 = .ok (.aload_n 0, 1) := by decide +kernel
theorem dX12_init_614 : decode cX12_init 614 = .ok (.bipush 36, 2) := by decide +kernel
theorem dX12_init_616 : decode cX12_init 616 = .ok (.newarray .int, 2) := by decide +kernel
theorem dX12_init_618 : decode cX12_init 618 = .ok (.putfield 103, 3) := by decide +kernel
theorem dX12_init_621 : decode cX12_init 621 = .ok (.aload_n 0, 1) := by decide +kernel
theorem dX12_init_622 : decode cX12_init 622 = .ok (.bipush 36, 2) := by decide +kernel
theorem dX12_init_624 : decode cX12_init 624 = .ok (.newarray .int, 2) := by decide +kernel
theorem dX12_init_626 : decode cX12_init 626 = .ok (.putfield 106, 3) := by decide +kernel
theorem dX12_init_629 : decode cX12_init 629 = .ok (.aload_n 0, 1) := by decide +kernel
theorem dX12_init_630 : decode cX12_init 630 = .ok (.bipush 36, 2) := by decide +kernel
theorem dX12_init_632 : decode cX12_init 632 = .ok (.newarray .int, 2) := by decide +kernel
theorem dX12_init_634 : decode cX12_init 634 = .ok (.putfield 109, 3) := by decide +kernel
theorem dX12_init_637 : decode cX12_init 637 = .ok (.aload_n 0, 1) := by decide +kernel
theorem dX12_init_638 : decode cX12_init 638 = .ok (.bipush 36, 2) := by decide +kernel
theorem dX12_init_640 : decode cX12_init 640 = .ok (.newarray .int, 2) := by decide +kernel
theorem dX12_init_642 : decode cX12_init 642 = .ok (.putfield 112, 3) := by decide +kernel
theorem dX12_init_645 : decode cX12_init 645 = .ok (.aload_n 0, 1) := by decide +kernel
theorem dX12_init_646 : decode cX12_init 646 = .ok (.bipush 36, 2) := by decide +kernel
theorem dX12_init_648 : decode cX12_init 648 = .ok (.newarray .int, 2) := by decide +kernel
theorem dX12_init_650 : decode cX12_init 650 = .ok (.putfield 115, 3) := by decide +kernel
theorem dX12_init_653 : decode cX12_init 653 = .ok (.aload_n 0, 1) := by decide +kernel
theorem dX12_init_654 : decode cX12_init 654 = .ok (.bipush 36, 2) := by decide +kernel
theorem dX12_init_656 : decode cX12_init 656 = .ok (.newarray .int, 2) := by decide +kernel
theorem dX12_init_658 : decode cX12_init 658 = .ok (.putfield 118, 3) := by decide +kernel
theorem dX12_init_661 : decode cX12_init 661 = .ok (.aload_n 0, 1) := by decide +kernel
theorem dX12_init_662 : decode cX12_init 662 = .ok (.bipush 36, 2) := by decide +kernel
theorem dX12_init_664 : decode cX12_init 664 = .ok (.newarray .int, 2) := by decide +kernel
theorem dX12_init_666 : decode cX12_init 666 = .ok (.putfield 121, 3) := by decide +kernel
theorem dX12_init_669 : decode cX12_init 669 = .ok (.aload_n 0, 1) := by decide +kernel
theorem dX12_init_670 : decode cX12_init 670 = .ok (.sipush 432, 3) := by decide +kernel
theorem dX12_init_673 : decode cX12_init 673 = .ok (.newarray .boolean, 2) := by decide +kernel
theorem dX12_init_675 : decode cX12_init 675 = .ok (.putfield 124, 3) := by decide +kernel
theorem dX12_init_678 : decode cX12_init 678 = .ok (.aload_n 0, 1) := by decide +kernel
theorem dX12_init_679 : decode cX12_init 679 = .ok (.bipush 36, 2) := by decide +kernel
theorem dX12_init_681 : decode cX12_init 681 = .ok (.newarray .int, 2) := by decide +kernel
theorem dX12_init_683 : decode cX12_init 683 = .ok (.putfield 128, 3) := by decide +kernel
theorem dX12_init_686 : decode cX12_init 686 = .ok (.aload_n 0, 1) := by decide +kernel
theorem dX12_init_687 : decode cX12_init 687 = .ok (.bipush 36, 2) := by decide +kernel
theorem dX12_init_689 : decode cX12_init 689 = .ok (.newarray .int, 2) := by decide +kernel
theorem dX12_init_691 : decode cX12_init 691 = .ok (.putfield 131, 3) := by decide +kernel
theorem dX12_init_694 : decode cX12_init 694 = .ok (.aload_n 0, 1) := by decide +kernel
theorem dX12_init_695 : decode cX12_init 695 = .ok (.bipush 36, 2) := by decide +kernel
theorem dX12_init_697 : decode cX12_init 697 = .ok (.newarray .int, 2) := by decide +kernel
theorem dX12_init_699 : decode cX12_init 699 = .ok (.putfield 134, 3) := by decide +kernel
theorem dX12_init_702 : decode cX12_init 702 = .ok (.aload_n 0, 1) := by decide +kernel
theorem dX12_init_703 : decode cX12_init 703 = .ok (.bipush 36, 2) := by decide +kernel
theorem dX12_init_705 : decode cX12_init 705 = .ok (.newarray .boolean, 2) := by decide +kernel
theorem dX12_init_707 : decode cX12_init 707 = .ok (.putfield 137, 3) := by decide +kernel
theorem dX12_init_710 : decode cX12_init 710 = .ok (.aload_n 0, 1) := by decide +kernel
theorem dX12_init_711 : decode cX12_init 711 = .ok (.bipush 36, 2) := by decide +kernel
theorem dX12_init_713 : decode cX12_init 713 = .ok (.newarray .boolean, 2) := by decide +kernel
theorem dX12_init_715 : decode cX12_init 715 = .ok (.putfield 140, 3) := by decide +kernel
theorem dX12_init_718 : decode cX12_init 718 = .ok (.aload_n 0, 1) := by decide +kernel
theorem dX12_init_719 : decode cX12_init 719 = .ok (.bipush 12, 2) := by decide +kernel
theorem dX12_init_721 : decode cX12_init 721 = .ok (.newarray .int, 2) := by decide +kernel
theorem dX12_init_723 : decode cX12_init 723 = .ok (.putfield 143, 3) := by decide +kernel
theorem dX12_init_726 : decode cX12_init 726 = .ok (.aload_n 0, 1) := by decide +kernel
theorem dX12_init_727 : decode cX12_init 727 = .ok (.bipush 12, 2) := by decide +kernel
theorem dX12_init_729 : decode cX12_init 729 = .ok (.newarray .int, 2) := by decide +kernel
theorem dX12_init_731 : decode cX12_init 731 = .ok (.putfield 146, 3) := by decide +kernel
theorem dX12_init_734 : decode cX12_init 734 = .ok (.aload_n 0, 1) := by decide +kernel
theorem dX12_init_735 : decode cX12_init 735 = .ok (.bipush 12, 2) := by decide +kernel
theorem dX12_init_737 : decode cX12_init 737 = .ok (.newarray .int, 2) := by decide +kernel
theorem dX12_init_739 : decode cX12_init 739 = .ok (.putfield 149, 3) := by decide +kernel
theorem dX12_init_742 : decode cX12_init 742 = .ok (.aload_n 0, 1) := by decide +kernel
theorem dX12_init_743 : decode cX12_init 743 = .ok (.bipush 12, 2) := by decide +kernel
theorem dX12_init_745 : decode cX12_init 745 = .ok (.newarray .int, 2) := by decide +kernel
theorem dX12_init_747 : decode cX12_init 747 = .ok (.putfield 152, 3) := by decide +kernel
theorem dX12_init_750 : decode cX12_init 750 = .ok (.aload_n 0, 1) := by decide +kernel
theorem dX12_init_751 : decode cX12_init 751 = .ok (.bipush 12, 2) := by decide +kernel
theorem dX12_init_753 : decode cX12_init 753 = .ok (.newarray .int, 2) := by decide +kernel
theorem dX12_init_755 : decode cX12_init 755 = .ok (.putfield 155, 3) := by decide +kernel
theorem dX12_init_758 : decode cX12_init 758 = .ok (.aload_n 0, 1) := by decide +kernel
theorem dX12_init_759 : decode cX12_init 759 = .ok (.bipush 12, 2) := by decide +kernel
theorem dX12_init_761 : decode cX12_init 761 = .ok (.newarray .int, 2) := by decide +kernel
theorem dX12_init_763 : decode cX12_init 763 = .ok (.putfield 158, 3) := by decide +kernel
theorem dX12_init_766 : decode cX12_init 766 = .ok (.aload_n 0, 1) := by decide +kernel
theorem dX12_init_767 : decode cX12_init 767 = .ok (.iconst 4, 1) := by decide +kernel
theorem dX12_init_768 : decode cX12_init 768 = .ok (.newarray .int, 2) := by decide +kernel
theorem dX12_init_770 : decode cX12_init 770 = .ok (.putfield 161, 3) := by decide +kernel
theorem dX12_init_773 : decode cX12_init 773 = .ok (.aload_n 0, 1) := by decide +kernel
theorem dX12_init_774 : decode cX12_init 774 = .ok (.sipush 1369, 3) := by decide +kernel
theorem dX12_init_777 : decode cX12_init 777 = .ok (.newarray .long, 2) := by decide +kernel
theorem dX12_init_779 : decode cX12_init 779 = .ok (.putfield 164, 3) := by decide +kernel
theorem dX12_init_782 : decode cX12_init 782 = .ok (.aload_n 0, 1) := by decide +kernel
theorem dX12_init_783 : decode cX12_init 783 = .ok (.iconst 4, 1) := by decide +kernel
theorem dX12_init_784 : decode cX12_init 784 = .ok (.newarray .int, 2) := by decide +kernel
theorem dX12_init_786 : decode cX12_init 786 = .ok (.dup, 1) := by decide +kernel
theorem dX12_init_787 : decode cX12_init 787 = .ok (.iconst 0, 1) := by decide +kernel
theorem dX12_init_788 : decode cX12_init 788 = .ok (.bipush (-4), 2) := by decide +kernel
theorem dX12_init_790 : decode cX12_init 790 = .ok (.iastore, 1) := by decide +kernel
theorem dX12_init_791 : decode cX12_init 791 = .ok (.dup, 1) := by decide +kernel
theorem dX12_init_792 : decode cX12_init 792 = .ok (.iconst 1, 1) := by decide +kernel
theorem dX12_init_793 : decode cX12_init 793 = .ok (.bipush (-4), 2) := by decide +kernel
theorem dX12_init_795 : decode cX12_init 795 = .ok (.iastore, 1) := by decide +kernel
theorem dX12_init_796 : decode cX12_init 796 = .ok (.dup, 1) := by decide +kernel
theorem dX12_init_797 : decode cX12_init 797 = .ok (.iconst 2, 1) := by decide +kernel
theorem dX12_init_798 : decode cX12_init 798 = .ok (.bipush (-4), 2) := by decide +kernel
theorem dX12_init_800 : decode cX12_init 800 = .ok (.iastore, 1) := by decide +kernel
theorem dX12_init_801 : decode cX12_init 801 = .ok (.dup, 1) := by decide +kernel
theorem dX12_init_802 : decode cX12_init 802 = .ok (.iconst 3, 1) := by decide +kernel
theorem dX12_init_803 : decode cX12_init 803 = .ok (.bipush (-4), 2) := by decide +kernel
theorem dX12_init_805 : decode cX12_init 805 = .ok (.iastore, 1) := by decide +kernel
theorem dX12_init_806 : decode cX12_init 806 = .ok (.putfield 168, 3) := by decide +kernel
theorem dX12_init_809 : decode cX12_init 809 = .ok (.aload_n 0, 1) := by decide +kernel
theorem dX12_init_810 : decode cX12_init 810 = .ok (.iconst 4, 1) := by decide +kernel
theorem dX12_init_811 : decode cX12_init 811 = .ok (.newarray .int, 2) := by decide +kernel
theorem dX12_init_813 : decode cX12_init 813 = .ok (.putfield 171, 3) := by decide +kernel
theorem dX12_init_816 : decode cX12_init 816 = .ok (.aload_n 0, 1) := by decide +kernel
theorem dX12_init_817 : decode cX12_init 817 = .ok (.sipush 240, 3) := by decide +kernel
theorem dX12_init_820 : decode cX12_init 820 = .ok (.newarray .int, 2) := by decide +kernel
theorem dX12_init_822 : decode cX12_init 822 = .ok (.putfield 174, 3) := by decide +kernel
theorem dX12_init_825 : decode cX12_init 825 = .ok (.return_, 1) := by decide +kernel
abbrev im_X12 : vv_M := (cX12_init, 1, RX12, none, ik_rm 1 55 3749)
theorem hj7 : RX12 ≠ RJ7 := by decide +kernel
section RCC
variable {x : vv_E} {b : Nat} {post : Nat → ii_G → Prop}
set_option maxHeartbeats 4000000 in
theorem ic_0 (kk : ii_V x b im_X12 55 3749 post 68 [some (.ref (b + 0))] [] 8 288 9 (ii_O 0 12 [.int 0, .int 0, .ref (b + 1), .ref (b + 2), .ref (b + 3), .ref (b + 4), .int 0, .ref (b + 5), .ref (b + 6), .ref (b + 7), .ref (b + 8), .null, .int 0, .null, .null, .null, .null, .int 0, .int 0, .int 0, .int 0, .int 0, .int 0, .int 0, .int 0, .null, .null, .int 0, .null, .null, .null, .null, .null, .null, .int 0, .null, .null, .null, .null, .null, .null, .int 0, .int 0, .null, .int 0, .null, .null, .null, .null, .null, .null, .null, .null, .null, .null, .null, .null, .null, .null, .null, .null, .null, .int 0, .null, .null, .null, .null, .null, .null, .null, .null, .null, .null] (vc x b vv_TR h0R))) : ii_V x b im_X12 55 3749 post 0 [some (.ref (b + 0))] [] 0 0 1 (ii_O 0 12 [.int 0, .int 0, .null, .null, .null, .null, .int 0, .null, .null, .null, .null, .null, .int 0, .null, .null, .null, .null, .int 0, .int 0, .int 0, .int 0, .int 0, .int 0, .int 0, .int 0, .null, .null, .int 0, .null, .null, .null, .null, .null, .null, .int 0, .null, .null, .null, .null, .null, .null, .int 0, .int 0, .null, .int 0, .null, .null, .null, .null, .null, .null, .null, .null, .null, .null, .null, .null, .null, .null, .null, .null, .null, .int 0, .null, .null, .null, .null, .null, .null, .null, .null, .null, .null] (vc x b vv_TR h0R)) := by
  refine ir_aload_n (q := 1) (v := b + 0) dX12_init_0 rfl rfl ?_
  refine ir_obj (q := 4) (by decide +kernel) iw_0 iw_1 ⟨Nat.le_of_ble_eq_true rfl, Nat.le_of_ble_eq_true rfl⟩ dX12_init_1 rfl ?_
  refine ir_aload_n (q := 5) (v := b + 0) dX12_init_4 rfl rfl ?_
  refine ir_bipush (q := 7) (v := 12) dX12_init_5 rfl (by decide) ?_
  refine ir_newaE (q := 9) (ty := .int) 0 (N := 12) ((ii_O_ne (by decide)).trans rfl) rfl rfl (fun cA => rfl) (fun U cA h => h) iw_2 (by decide) (by decide) (by decide) ⟨Nat.le_of_ble_eq_true rfl, Nat.le_of_ble_eq_true rfl⟩ dX12_init_7 rfl ?_
  refine ir_putO (q := 12) (k := 0) (N := 73) (j := 2) (C := RX12) (Tf := TX12) (ty := .array .int) tyX12 (by decide) rfl (by decide) inX12 tyX12_ok nmX12 (by decide +kernel) rfl rfl rfl rfl (Nat.le_of_ble_eq_true rfl) rfl dX12_init_9 rfl hj7 ?_
  refine ir_aload_n (q := 13) (v := b + 0) dX12_init_12 rfl rfl ?_
  refine ir_bipush (q := 15) (v := 12) dX12_init_13 rfl (by decide) ?_
  refine ir_newaE (q := 17) (ty := .int) 0 (N := 12) ((ii_O_ne (by decide)).trans rfl) rfl rfl (fun cA => rfl) (fun U cA h => h) iw_2 (by decide) (by decide) (by decide) ⟨Nat.le_of_ble_eq_true rfl, Nat.le_of_ble_eq_true rfl⟩ dX12_init_15 rfl ?_
  refine ir_putO (q := 20) (k := 0) (N := 73) (j := 3) (C := RX12) (Tf := TX12) (ty := .array .int) tyX12 (by decide) rfl (by decide) inX12 tyX12_ok nmX12 (by decide +kernel) rfl rfl rfl rfl (Nat.le_of_ble_eq_true rfl) rfl dX12_init_17 rfl hj7 ?_
  refine ir_aload_n (q := 21) (v := b + 0) dX12_init_20 rfl rfl ?_
  refine ir_bipush (q := 23) (v := 12) dX12_init_21 rfl (by decide) ?_
  refine ir_newaE (q := 25) (ty := .int) 0 (N := 12) ((ii_O_ne (by decide)).trans rfl) rfl rfl (fun cA => rfl) (fun U cA h => h) iw_2 (by decide) (by decide) (by decide) ⟨Nat.le_of_ble_eq_true rfl, Nat.le_of_ble_eq_true rfl⟩ dX12_init_23 rfl ?_
  refine ir_putO (q := 28) (k := 0) (N := 73) (j := 4) (C := RX12) (Tf := TX12) (ty := .array .int) tyX12 (by decide) rfl (by decide) inX12 tyX12_ok nmX12 (by decide +kernel) rfl rfl rfl rfl (Nat.le_of_ble_eq_true rfl) rfl dX12_init_25 rfl hj7 ?_
  refine ir_aload_n (q := 29) (v := b + 0) dX12_init_28 rfl rfl ?_
  refine ir_bipush (q := 31) (v := 12) dX12_init_29 rfl (by decide) ?_
  refine ir_newaE (q := 33) (ty := .int) 0 (N := 12) ((ii_O_ne (by decide)).trans rfl) rfl rfl (fun cA => rfl) (fun U cA h => h) iw_2 (by decide) (by decide) (by decide) ⟨Nat.le_of_ble_eq_true rfl, Nat.le_of_ble_eq_true rfl⟩ dX12_init_31 rfl ?_
  refine ir_putO (q := 36) (k := 0) (N := 73) (j := 5) (C := RX12) (Tf := TX12) (ty := .array .int) tyX12 (by decide) rfl (by decide) inX12 tyX12_ok nmX12 (by decide +kernel) rfl rfl rfl rfl (Nat.le_of_ble_eq_true rfl) rfl dX12_init_33 rfl hj7 ?_
  refine ir_aload_n (q := 37) (v := b + 0) dX12_init_36 rfl rfl ?_
  refine ir_bipush (q := 39) (v := 60) dX12_init_37 rfl (by decide) ?_
  refine ir_newaE (q := 41) (ty := .int) 0 (N := 60) ((ii_O_ne (by decide)).trans rfl) rfl rfl (fun cA => rfl) (fun U cA h => h) iw_2 (by decide) (by decide) (by decide) ⟨Nat.le_of_ble_eq_true rfl, Nat.le_of_ble_eq_true rfl⟩ dX12_init_39 rfl ?_
  refine ir_putO (q := 44) (k := 0) (N := 73) (j := 7) (C := RX12) (Tf := TX12) (ty := .array .int) tyX12 (by decide) rfl (by decide) inX12 tyX12_ok nmX12 (by decide +kernel) rfl rfl rfl rfl (Nat.le_of_ble_eq_true rfl) rfl dX12_init_41 rfl hj7 ?_
  refine ir_aload_n (q := 45) (v := b + 0) dX12_init_44 rfl rfl ?_
  refine ir_bipush (q := 47) (v := 60) dX12_init_45 rfl (by decide) ?_
  refine ir_newaE (q := 49) (ty := .int) 0 (N := 60) ((ii_O_ne (by decide)).trans rfl) rfl rfl (fun cA => rfl) (fun U cA h => h) iw_2 (by decide) (by decide) (by decide) ⟨Nat.le_of_ble_eq_true rfl, Nat.le_of_ble_eq_true rfl⟩ dX12_init_47 rfl ?_
  refine ir_putO (q := 52) (k := 0) (N := 73) (j := 8) (C := RX12) (Tf := TX12) (ty := .array .int) tyX12 (by decide) rfl (by decide) inX12 tyX12_ok nmX12 (by decide +kernel) rfl rfl rfl rfl (Nat.le_of_ble_eq_true rfl) rfl dX12_init_49 rfl hj7 ?_
  refine ir_aload_n (q := 53) (v := b + 0) dX12_init_52 rfl rfl ?_
  refine ir_bipush (q := 55) (v := 60) dX12_init_53 rfl (by decide) ?_
  refine ir_newaE (q := 57) (ty := .int) 0 (N := 60) ((ii_O_ne (by decide)).trans rfl) rfl rfl (fun cA => rfl) (fun U cA h => h) iw_2 (by decide) (by decide) (by decide) ⟨Nat.le_of_ble_eq_true rfl, Nat.le_of_ble_eq_true rfl⟩ dX12_init_55 rfl ?_
  refine ir_putO (q := 60) (k := 0) (N := 73) (j := 9) (C := RX12) (Tf := TX12) (ty := .array .int) tyX12 (by decide) rfl (by decide) inX12 tyX12_ok nmX12 (by decide +kernel) rfl rfl rfl rfl (Nat.le_of_ble_eq_true rfl) rfl dX12_init_57 rfl hj7 ?_
  refine ir_aload_n (q := 61) (v := b + 0) dX12_init_60 rfl rfl ?_
  refine ir_bipush (q := 63) (v := 60) dX12_init_61 rfl (by decide) ?_
  refine ir_newaE (q := 65) (ty := .int) 0 (N := 60) ((ii_O_ne (by decide)).trans rfl) rfl rfl (fun cA => rfl) (fun U cA h => h) iw_2 (by decide) (by decide) (by decide) ⟨Nat.le_of_ble_eq_true rfl, Nat.le_of_ble_eq_true rfl⟩ dX12_init_63 rfl ?_
  refine ir_putO (q := 68) (k := 0) (N := 73) (j := 10) (C := RX12) (Tf := TX12) (ty := .array .int) tyX12 (by decide) rfl (by decide) inX12 tyX12_ok nmX12 (by decide +kernel) rfl rfl rfl rfl (Nat.le_of_ble_eq_true rfl) rfl dX12_init_65 rfl hj7 ?_
  exact kk
set_option maxHeartbeats 4000000 in
theorem ic_1 (kk : ii_V x b im_X12 55 3749 post 169 [some (.ref (b + 0))] [] 14 694 15 (ii_O 0 12 [.int 0, .int 0, .ref (b + 1), .ref (b + 2), .ref (b + 3), .ref (b + 4), .int 0, .ref (b + 5), .ref (b + 6), .ref (b + 7), .ref (b + 8), .ref (b + 9), .int 0, .ref (b + 10), .ref (b + 11), .ref (b + 12), .ref (b + 13), .int 0, .int 0, .int 0, .int 0, .int 0, .int 0, .int 0, .int 0, .ref (b + 14), .null, .int 0, .null, .null, .null, .null, .null, .null, .int 0, .null, .null, .null, .null, .null, .null, .int 0, .int 0, .null, .int 0, .null, .null, .null, .null, .null, .null, .null, .null, .null, .null, .null, .null, .null, .null, .null, .null, .null, .int 0, .null, .null, .null, .null, .null, .null, .null, .null, .null, .null] (vc x b vv_TR h0R))) : ii_V x b im_X12 55 3749 post 68 [some (.ref (b + 0))] [] 8 288 9 (ii_O 0 12 [.int 0, .int 0, .ref (b + 1), .ref (b + 2), .ref (b + 3), .ref (b + 4), .int 0, .ref (b + 5), .ref (b + 6), .ref (b + 7), .ref (b + 8), .null, .int 0, .null, .null, .null, .null, .int 0, .int 0, .int 0, .int 0, .int 0, .int 0, .int 0, .int 0, .null, .null, .int 0, .null, .null, .null, .null, .null, .null, .int 0, .null, .null, .null, .null, .null, .null, .int 0, .int 0, .null, .int 0, .null, .null, .null, .null, .null, .null, .null, .null, .null, .null, .null, .null, .null, .null, .null, .null, .null, .int 0, .null, .null, .null, .null, .null, .null, .null, .null, .null, .null] (vc x b vv_TR h0R)) := by
  refine ir_aload_n (q := 69) (v := b + 0) dX12_init_68 rfl rfl ?_
  refine ir_bipush (q := 71) (v := 60) dX12_init_69 rfl (by decide) ?_
  refine ir_newaE (q := 73) (ty := .int) 0 (N := 60) ((ii_O_ne (by decide)).trans rfl) rfl rfl (fun cA => rfl) (fun U cA h => h) iw_2 (by decide) (by decide) (by decide) ⟨Nat.le_of_ble_eq_true rfl, Nat.le_of_ble_eq_true rfl⟩ dX12_init_71 rfl ?_
  refine ir_putO (q := 76) (k := 0) (N := 73) (j := 11) (C := RX12) (Tf := TX12) (ty := .array .int) tyX12 (by decide) rfl (by decide) inX12 tyX12_ok nmX12 (by decide +kernel) rfl rfl rfl rfl (Nat.le_of_ble_eq_true rfl) rfl dX12_init_73 rfl hj7 ?_
  refine ir_aload_n (q := 77) (v := b + 0) dX12_init_76 rfl rfl ?_
  refine ir_bipush (q := 79) (v := 12) dX12_init_77 rfl (by decide) ?_
  refine ir_newaE (q := 81) (ty := .int) 0 (N := 12) ((ii_O_ne (by decide)).trans rfl) rfl rfl (fun cA => rfl) (fun U cA h => h) iw_2 (by decide) (by decide) (by decide) ⟨Nat.le_of_ble_eq_true rfl, Nat.le_of_ble_eq_true rfl⟩ dX12_init_79 rfl ?_
  refine ir_putO (q := 84) (k := 0) (N := 73) (j := 13) (C := RX12) (Tf := TX12) (ty := .array .int) tyX12 (by decide) rfl (by decide) inX12 tyX12_ok nmX12 (by decide +kernel) rfl rfl rfl rfl (Nat.le_of_ble_eq_true rfl) rfl dX12_init_81 rfl hj7 ?_
  refine ir_aload_n (q := 85) (v := b + 0) dX12_init_84 rfl rfl ?_
  refine ir_bipush (q := 87) (v := 72) dX12_init_85 rfl (by decide) ?_
  refine ir_newaE (q := 89) (ty := .int) 0 (N := 72) ((ii_O_ne (by decide)).trans rfl) rfl rfl (fun cA => rfl) (fun U cA h => h) iw_2 (by decide) (by decide) (by decide) ⟨Nat.le_of_ble_eq_true rfl, Nat.le_of_ble_eq_true rfl⟩ dX12_init_87 rfl ?_
  refine ir_putO (q := 92) (k := 0) (N := 73) (j := 14) (C := RX12) (Tf := TX12) (ty := .array .int) tyX12 (by decide) rfl (by decide) inX12 tyX12_ok nmX12 (by decide +kernel) rfl rfl rfl rfl (Nat.le_of_ble_eq_true rfl) rfl dX12_init_89 rfl hj7 ?_
  refine ir_aload_n (q := 93) (v := b + 0) dX12_init_92 rfl rfl ?_
  refine ir_bipush (q := 95) (v := 12) dX12_init_93 rfl (by decide) ?_
  refine ir_newaE (q := 97) (ty := .int) 0 (N := 12) ((ii_O_ne (by decide)).trans rfl) rfl rfl (fun cA => rfl) (fun U cA h => h) iw_2 (by decide) (by decide) (by decide) ⟨Nat.le_of_ble_eq_true rfl, Nat.le_of_ble_eq_true rfl⟩ dX12_init_95 rfl ?_
  refine ir_putO (q := 100) (k := 0) (N := 73) (j := 15) (C := RX12) (Tf := TX12) (ty := .array .int) tyX12 (by decide) rfl (by decide) inX12 tyX12_ok nmX12 (by decide +kernel) rfl rfl rfl rfl (Nat.le_of_ble_eq_true rfl) rfl dX12_init_97 rfl hj7 ?_
  refine ir_aload_n (q := 101) (v := b + 0) dX12_init_100 rfl rfl ?_
  refine ir_sipush (q := 104) (v := 240) dX12_init_101 rfl (by decide) ?_
  refine ir_newaE (q := 106) (ty := .int) 0 (N := 240) ((ii_O_ne (by decide)).trans rfl) rfl rfl (fun cA => rfl) (fun U cA h => h) iw_2 (by decide) (by decide) (by decide) ⟨Nat.le_of_ble_eq_true rfl, Nat.le_of_ble_eq_true rfl⟩ dX12_init_104 rfl ?_
  refine ir_putO (q := 109) (k := 0) (N := 73) (j := 16) (C := RX12) (Tf := TX12) (ty := .array .int) tyX12 (by decide) rfl (by decide) inX12 tyX12_ok nmX12 (by decide +kernel) rfl rfl rfl rfl (Nat.le_of_ble_eq_true rfl) rfl dX12_init_106 rfl hj7 ?_
  refine ir_aload_n (q := 110) (v := b + 0) dX12_init_109 rfl rfl ?_
  refine ir_bipush (q := 112) (v := 10) dX12_init_110 rfl (by decide) ?_
  refine ir_newaL (q := 114) (N := 10) cf_ends iw_2 (by decide) (by decide) (by decide) ⟨Nat.le_of_ble_eq_true rfl, Nat.le_of_ble_eq_true rfl⟩ dX12_init_112 rfl ?_
  refine ir_dup (q := 115) dX12_init_114 rfl rfl ?_
  refine ir_iconst (q := 116) (v := 0) dX12_init_115 rfl (by decide) ?_
  refine ir_iconst (q := 117) (v := 0) dX12_init_116 rfl (by decide) ?_
  refine ir_iasL (q := 118) (k := 14) (N := 10) (m := 0) (L := cf_ends) (by decide) rfl (by decide) (by decide) rfl dX12_init_117 rfl ?_
  refine ir_dup (q := 119) dX12_init_118 rfl rfl ?_
  refine ir_iconst (q := 120) (v := 1) dX12_init_119 rfl (by decide) ?_
  refine ir_iconst (q := 121) (v := 5) dX12_init_120 rfl (by decide) ?_
  refine ir_iasL (q := 122) (k := 14) (N := 10) (m := 1) (L := cf_ends) (by decide) rfl (by decide) (by decide) rfl dX12_init_121 rfl ?_
  refine ir_dup (q := 123) dX12_init_122 rfl rfl ?_
  refine ir_iconst (q := 124) (v := 2) dX12_init_123 rfl (by decide) ?_
  refine ir_bipush (q := 126) (v := 9) dX12_init_124 rfl (by decide) ?_
  refine ir_iasL (q := 127) (k := 14) (N := 10) (m := 2) (L := cf_ends) (by decide) rfl (by decide) (by decide) rfl dX12_init_126 rfl ?_
  refine ir_dup (q := 128) dX12_init_127 rfl rfl ?_
  refine ir_iconst (q := 129) (v := 3) dX12_init_128 rfl (by decide) ?_
  refine ir_bipush (q := 131) (v := 14) dX12_init_129 rfl (by decide) ?_
  refine ir_iasL (q := 132) (k := 14) (N := 10) (m := 3) (L := cf_ends) (by decide) rfl (by decide) (by decide) rfl dX12_init_131 rfl ?_
  refine ir_dup (q := 133) dX12_init_132 rfl rfl ?_
  refine ir_iconst (q := 134) (v := 4) dX12_init_133 rfl (by decide) ?_
  refine ir_bipush (q := 136) (v := 18) dX12_init_134 rfl (by decide) ?_
  refine ir_iasL (q := 137) (k := 14) (N := 10) (m := 4) (L := cf_ends) (by decide) rfl (by decide) (by decide) rfl dX12_init_136 rfl ?_
  refine ir_dup (q := 138) dX12_init_137 rfl rfl ?_
  refine ir_iconst (q := 139) (v := 5) dX12_init_138 rfl (by decide) ?_
  refine ir_bipush (q := 141) (v := 22) dX12_init_139 rfl (by decide) ?_
  refine ir_iasL (q := 142) (k := 14) (N := 10) (m := 5) (L := cf_ends) (by decide) rfl (by decide) (by decide) rfl dX12_init_141 rfl ?_
  refine ir_dup (q := 143) dX12_init_142 rfl rfl ?_
  refine ir_bipush (q := 145) (v := 6) dX12_init_143 rfl (by decide) ?_
  refine ir_bipush (q := 147) (v := 29) dX12_init_145 rfl (by decide) ?_
  refine ir_iasL (q := 148) (k := 14) (N := 10) (m := 6) (L := cf_ends) (by decide) rfl (by decide) (by decide) rfl dX12_init_147 rfl ?_
  refine ir_dup (q := 149) dX12_init_148 rfl rfl ?_
  refine ir_bipush (q := 151) (v := 7) dX12_init_149 rfl (by decide) ?_
  refine ir_bipush (q := 153) (v := 33) dX12_init_151 rfl (by decide) ?_
  refine ir_iasL (q := 154) (k := 14) (N := 10) (m := 7) (L := cf_ends) (by decide) rfl (by decide) (by decide) rfl dX12_init_153 rfl ?_
  refine ir_dup (q := 155) dX12_init_154 rfl rfl ?_
  refine ir_bipush (q := 157) (v := 8) dX12_init_155 rfl (by decide) ?_
  refine ir_bipush (q := 159) (v := 35) dX12_init_157 rfl (by decide) ?_
  refine ir_iasL (q := 160) (k := 14) (N := 10) (m := 8) (L := cf_ends) (by decide) rfl (by decide) (by decide) rfl dX12_init_159 rfl ?_
  refine ir_dup (q := 161) dX12_init_160 rfl rfl ?_
  refine ir_bipush (q := 163) (v := 9) dX12_init_161 rfl (by decide) ?_
  refine ir_bipush (q := 165) (v := 38) dX12_init_163 rfl (by decide) ?_
  refine ir_iasL (q := 166) (k := 14) (N := 10) (m := 9) (L := cf_ends) (by decide) rfl (by decide) (by decide) rfl dX12_init_165 rfl ?_
  rw [ii_up_id (g := ii_O 0 12 _ _) (show ii_O 0 12 _ _ 14 = la x 10 cf_ends 10 from (ii_O_ne (by decide)).trans rfl)]
  refine ir_putO (q := 169) (k := 0) (N := 73) (j := 25) (C := RX12) (Tf := TX12) (ty := .array .int) tyX12 (by decide) rfl (by decide) inX12 tyX12_ok nmX12 (by decide +kernel) rfl rfl rfl rfl (Nat.le_of_ble_eq_true rfl) rfl dX12_init_166 rfl hj7 ?_
  exact kk
set_option maxHeartbeats 4000000 in
theorem ic_2 (kk : ii_V x b im_X12 55 3749 post 399 [some (.ref (b + 0))] [] 15 732 16 (ii_O 0 12 [.int 0, .int 0, .ref (b + 1), .ref (b + 2), .ref (b + 3), .ref (b + 4), .int 0, .ref (b + 5), .ref (b + 6), .ref (b + 7), .ref (b + 8), .ref (b + 9), .int 0, .ref (b + 10), .ref (b + 11), .ref (b + 12), .ref (b + 13), .int 0, .int 0, .int 0, .int 0, .int 0, .int 0, .int 0, .int 0, .ref (b + 14), .ref (b + 15), .int 0, .null, .null, .null, .null, .null, .null, .int 0, .null, .null, .null, .null, .null, .null, .int 0, .int 0, .null, .int 0, .null, .null, .null, .null, .null, .null, .null, .null, .null, .null, .null, .null, .null, .null, .null, .null, .null, .int 0, .null, .null, .null, .null, .null, .null, .null, .null, .null, .null] (vc x b vv_TR h0R))) : ii_V x b im_X12 55 3749 post 169 [some (.ref (b + 0))] [] 14 694 15 (ii_O 0 12 [.int 0, .int 0, .ref (b + 1), .ref (b + 2), .ref (b + 3), .ref (b + 4), .int 0, .ref (b + 5), .ref (b + 6), .ref (b + 7), .ref (b + 8), .ref (b + 9), .int 0, .ref (b + 10), .ref (b + 11), .ref (b + 12), .ref (b + 13), .int 0, .int 0, .int 0, .int 0, .int 0, .int 0, .int 0, .int 0, .ref (b + 14), .null, .int 0, .null, .null, .null, .null, .null, .null, .int 0, .null, .null, .null, .null, .null, .null, .int 0, .int 0, .null, .int 0, .null, .null, .null, .null, .null, .null, .null, .null, .null, .null, .null, .null, .null, .null, .null, .null, .null, .int 0, .null, .null, .null, .null, .null, .null, .null, .null, .null, .null] (vc x b vv_TR h0R)) := by
  refine ir_aload_n (q := 170) (v := b + 0) dX12_init_169 rfl rfl ?_
  refine ir_bipush (q := 172) (v := 38) dX12_init_170 rfl (by decide) ?_
  refine ir_newaL (q := 174) (N := 38) cf_lets iw_2 (by decide) (by decide) (by decide) ⟨Nat.le_of_ble_eq_true rfl, Nat.le_of_ble_eq_true rfl⟩ dX12_init_172 rfl ?_
  refine ir_dup (q := 175) dX12_init_174 rfl rfl ?_
  refine ir_iconst (q := 176) (v := 0) dX12_init_175 rfl (by decide) ?_
  refine ir_bipush (q := 178) (v := 105) dX12_init_176 rfl (by decide) ?_
  refine ir_iasL (q := 179) (k := 15) (N := 38) (m := 0) (L := cf_lets) (by decide) rfl (by decide) (by decide) rfl dX12_init_178 rfl ?_
  refine ir_dup (q := 180) dX12_init_179 rfl rfl ?_
  refine ir_iconst (q := 181) (v := 1) dX12_init_180 rfl (by decide) ?_
  refine ir_bipush (q := 183) (v := 115) dX12_init_181 rfl (by decide) ?_
  refine ir_iasL (q := 184) (k := 15) (N := 38) (m := 1) (L := cf_lets) (by decide) rfl (by decide) (by decide) rfl dX12_init_183 rfl ?_
  refine ir_dup (q := 185) dX12_init_184 rfl rfl ?_
  refine ir_iconst (q := 186) (v := 2) dX12_init_185 rfl (by decide) ?_
  refine ir_bipush (q := 188) (v := 115) dX12_init_186 rfl (by decide) ?_
  refine ir_iasL (q := 189) (k := 15) (N := 38) (m := 2) (L := cf_lets) (by decide) rfl (by decide) (by decide) rfl dX12_init_188 rfl ?_
  refine ir_dup (q := 190) dX12_init_189 rfl rfl ?_
  refine ir_iconst (q := 191) (v := 3) dX12_init_190 rfl (by decide) ?_
  refine ir_bipush (q := 193) (v := 117) dX12_init_191 rfl (by decide) ?_
  refine ir_iasL (q := 194) (k := 15) (N := 38) (m := 3) (L := cf_lets) (by decide) rfl (by decide) (by decide) rfl dX12_init_193 rfl ?_
  refine ir_dup (q := 195) dX12_init_194 rfl rfl ?_
  refine ir_iconst (q := 196) (v := 4) dX12_init_195 rfl (by decide) ?_
  refine ir_bipush (q := 198) (v := 101) dX12_init_196 rfl (by decide) ?_
  refine ir_iasL (q := 199) (k := 15) (N := 38) (m := 4) (L := cf_lets) (by decide) rfl (by decide) (by decide) rfl dX12_init_198 rfl ?_
  refine ir_dup (q := 200) dX12_init_199 rfl rfl ?_
  refine ir_iconst (q := 201) (v := 5) dX12_init_200 rfl (by decide) ?_
  refine ir_bipush (q := 203) (v := 108) dX12_init_201 rfl (by decide) ?_
  refine ir_iasL (q := 204) (k := 15) (N := 38) (m := 5) (L := cf_lets) (by decide) rfl (by decide) (by decide) rfl dX12_init_203 rfl ?_
  refine ir_dup (q := 205) dX12_init_204 rfl rfl ?_
  refine ir_bipush (q := 207) (v := 6) dX12_init_205 rfl (by decide) ?_
  refine ir_bipush (q := 209) (v := 105) dX12_init_207 rfl (by decide) ?_
  refine ir_iasL (q := 210) (k := 15) (N := 38) (m := 6) (L := cf_lets) (by decide) rfl (by decide) (by decide) rfl dX12_init_209 rfl ?_
  refine ir_dup (q := 211) dX12_init_210 rfl rfl ?_
  refine ir_bipush (q := 213) (v := 7) dX12_init_211 rfl (by decide) ?_
  refine ir_bipush (q := 215) (v := 102) dX12_init_213 rfl (by decide) ?_
  refine ir_iasL (q := 216) (k := 15) (N := 38) (m := 7) (L := cf_lets) (by decide) rfl (by decide) (by decide) rfl dX12_init_215 rfl ?_
  refine ir_dup (q := 217) dX12_init_216 rfl rfl ?_
  refine ir_bipush (q := 219) (v := 8) dX12_init_217 rfl (by decide) ?_
  refine ir_bipush (q := 221) (v := 101) dX12_init_219 rfl (by decide) ?_
  refine ir_iasL (q := 222) (k := 15) (N := 38) (m := 8) (L := cf_lets) (by decide) rfl (by decide) (by decide) rfl dX12_init_221 rfl ?_
  refine ir_dup (q := 223) dX12_init_222 rfl rfl ?_
  refine ir_bipush (q := 225) (v := 9) dX12_init_223 rfl (by decide) ?_
  refine ir_bipush (q := 227) (v := 112) dX12_init_225 rfl (by decide) ?_
  refine ir_iasL (q := 228) (k := 15) (N := 38) (m := 9) (L := cf_lets) (by decide) rfl (by decide) (by decide) rfl dX12_init_227 rfl ?_
  refine ir_dup (q := 229) dX12_init_228 rfl rfl ?_
  refine ir_bipush (q := 231) (v := 10) dX12_init_229 rfl (by decide) ?_
  refine ir_bipush (q := 233) (v := 114) dX12_init_231 rfl (by decide) ?_
  refine ir_iasL (q := 234) (k := 15) (N := 38) (m := 10) (L := cf_lets) (by decide) rfl (by decide) (by decide) rfl dX12_init_233 rfl ?_
  refine ir_dup (q := 235) dX12_init_234 rfl rfl ?_
  refine ir_bipush (q := 237) (v := 11) dX12_init_235 rfl (by decide) ?_
  refine ir_bipush (q := 239) (v := 105) dX12_init_237 rfl (by decide) ?_
  refine ir_iasL (q := 240) (k := 15) (N := 38) (m := 11) (L := cf_lets) (by decide) rfl (by decide) (by decide) rfl dX12_init_239 rfl ?_
  refine ir_dup (q := 241) dX12_init_240 rfl rfl ?_
  refine ir_bipush (q := 243) (v := 12) dX12_init_241 rfl (by decide) ?_
  refine ir_bipush (q := 245) (v := 99) dX12_init_243 rfl (by decide) ?_
  refine ir_iasL (q := 246) (k := 15) (N := 38) (m := 12) (L := cf_lets) (by decide) rfl (by decide) (by decide) rfl dX12_init_245 rfl ?_
  refine ir_dup (q := 247) dX12_init_246 rfl rfl ?_
  refine ir_bipush (q := 249) (v := 13) dX12_init_247 rfl (by decide) ?_
  refine ir_bipush (q := 251) (v := 101) dX12_init_249 rfl (by decide) ?_
  refine ir_iasL (q := 252) (k := 15) (N := 38) (m := 13) (L := cf_lets) (by decide) rfl (by decide) (by decide) rfl dX12_init_251 rfl ?_
  refine ir_dup (q := 253) dX12_init_252 rfl rfl ?_
  refine ir_bipush (q := 255) (v := 14) dX12_init_253 rfl (by decide) ?_
  refine ir_bipush (q := 257) (v := 114) dX12_init_255 rfl (by decide) ?_
  refine ir_iasL (q := 258) (k := 15) (N := 38) (m := 14) (L := cf_lets) (by decide) rfl (by decide) (by decide) rfl dX12_init_257 rfl ?_
  refine ir_dup (q := 259) dX12_init_258 rfl rfl ?_
  refine ir_bipush (q := 261) (v := 15) dX12_init_259 rfl (by decide) ?_
  refine ir_bipush (q := 263) (v := 97) dX12_init_261 rfl (by decide) ?_
  refine ir_iasL (q := 264) (k := 15) (N := 38) (m := 15) (L := cf_lets) (by decide) rfl (by decide) (by decide) rfl dX12_init_263 rfl ?_
  refine ir_dup (q := 265) dX12_init_264 rfl rfl ?_
  refine ir_bipush (q := 267) (v := 16) dX12_init_265 rfl (by decide) ?_
  refine ir_bipush (q := 269) (v := 110) dX12_init_267 rfl (by decide) ?_
  refine ir_iasL (q := 270) (k := 15) (N := 38) (m := 16) (L := cf_lets) (by decide) rfl (by decide) (by decide) rfl dX12_init_269 rfl ?_
  refine ir_dup (q := 271) dX12_init_270 rfl rfl ?_
  refine ir_bipush (q := 273) (v := 17) dX12_init_271 rfl (by decide) ?_
  refine ir_bipush (q := 275) (v := 107) dX12_init_273 rfl (by decide) ?_
  refine ir_iasL (q := 276) (k := 15) (N := 38) (m := 17) (L := cf_lets) (by decide) rfl (by decide) (by decide) rfl dX12_init_275 rfl ?_
  refine ir_dup (q := 277) dX12_init_276 rfl rfl ?_
  refine ir_bipush (q := 279) (v := 18) dX12_init_277 rfl (by decide) ?_
  refine ir_bipush (q := 281) (v := 100) dX12_init_279 rfl (by decide) ?_
  refine ir_iasL (q := 282) (k := 15) (N := 38) (m := 18) (L := cf_lets) (by decide) rfl (by decide) (by decide) rfl dX12_init_281 rfl ?_
  refine ir_dup (q := 283) dX12_init_282 rfl rfl ?_
  refine ir_bipush (q := 285) (v := 19) dX12_init_283 rfl (by decide) ?_
  refine ir_bipush (q := 287) (v := 117) dX12_init_285 rfl (by decide) ?_
  refine ir_iasL (q := 288) (k := 15) (N := 38) (m := 19) (L := cf_lets) (by decide) rfl (by decide) (by decide) rfl dX12_init_287 rfl ?_
  refine ir_dup (q := 289) dX12_init_288 rfl rfl ?_
  refine ir_bipush (q := 291) (v := 20) dX12_init_289 rfl (by decide) ?_
  refine ir_bipush (q := 293) (v := 116) dX12_init_291 rfl (by decide) ?_
  refine ir_iasL (q := 294) (k := 15) (N := 38) (m := 20) (L := cf_lets) (by decide) rfl (by decide) (by decide) rfl dX12_init_293 rfl ?_
  refine ir_dup (q := 295) dX12_init_294 rfl rfl ?_
  refine ir_bipush (q := 297) (v := 21) dX12_init_295 rfl (by decide) ?_
  refine ir_bipush (q := 299) (v := 121) dX12_init_297 rfl (by decide) ?_
  refine ir_iasL (q := 300) (k := 15) (N := 38) (m := 21) (L := cf_lets) (by decide) rfl (by decide) (by decide) rfl dX12_init_299 rfl ?_
  refine ir_dup (q := 301) dX12_init_300 rfl rfl ?_
  refine ir_bipush (q := 303) (v := 22) dX12_init_301 rfl (by decide) ?_
  refine ir_bipush (q := 305) (v := 99) dX12_init_303 rfl (by decide) ?_
  refine ir_iasL (q := 306) (k := 15) (N := 38) (m := 22) (L := cf_lets) (by decide) rfl (by decide) (by decide) rfl dX12_init_305 rfl ?_
  refine ir_dup (q := 307) dX12_init_306 rfl rfl ?_
  refine ir_bipush (q := 309) (v := 23) dX12_init_307 rfl (by decide) ?_
  refine ir_bipush (q := 311) (v := 108) dX12_init_309 rfl (by decide) ?_
  refine ir_iasL (q := 312) (k := 15) (N := 38) (m := 23) (L := cf_lets) (by decide) rfl (by decide) (by decide) rfl dX12_init_311 rfl ?_
  refine ir_dup (q := 313) dX12_init_312 rfl rfl ?_
  refine ir_bipush (q := 315) (v := 24) dX12_init_313 rfl (by decide) ?_
  refine ir_bipush (q := 317) (v := 105) dX12_init_315 rfl (by decide) ?_
  refine ir_iasL (q := 318) (k := 15) (N := 38) (m := 24) (L := cf_lets) (by decide) rfl (by decide) (by decide) rfl dX12_init_317 rfl ?_
  refine ir_dup (q := 319) dX12_init_318 rfl rfl ?_
  refine ir_bipush (q := 321) (v := 25) dX12_init_319 rfl (by decide) ?_
  refine ir_bipush (q := 323) (v := 109) dX12_init_321 rfl (by decide) ?_
  refine ir_iasL (q := 324) (k := 15) (N := 38) (m := 25) (L := cf_lets) (by decide) rfl (by decide) (by decide) rfl dX12_init_323 rfl ?_
  refine ir_dup (q := 325) dX12_init_324 rfl rfl ?_
  refine ir_bipush (q := 327) (v := 26) dX12_init_325 rfl (by decide) ?_
  refine ir_bipush (q := 329) (v := 97) dX12_init_327 rfl (by decide) ?_
  refine ir_iasL (q := 330) (k := 15) (N := 38) (m := 26) (L := cf_lets) (by decide) rfl (by decide) (by decide) rfl dX12_init_329 rfl ?_
  refine ir_dup (q := 331) dX12_init_330 rfl rfl ?_
  refine ir_bipush (q := 333) (v := 27) dX12_init_331 rfl (by decide) ?_
  refine ir_bipush (q := 335) (v := 116) dX12_init_333 rfl (by decide) ?_
  refine ir_iasL (q := 336) (k := 15) (N := 38) (m := 27) (L := cf_lets) (by decide) rfl (by decide) (by decide) rfl dX12_init_335 rfl ?_
  refine ir_dup (q := 337) dX12_init_336 rfl rfl ?_
  refine ir_bipush (q := 339) (v := 28) dX12_init_337 rfl (by decide) ?_
  refine ir_bipush (q := 341) (v := 101) dX12_init_339 rfl (by decide) ?_
  refine ir_iasL (q := 342) (k := 15) (N := 38) (m := 28) (L := cf_lets) (by decide) rfl (by decide) (by decide) rfl dX12_init_341 rfl ?_
  refine ir_dup (q := 343) dX12_init_342 rfl rfl ?_
  refine ir_bipush (q := 345) (v := 29) dX12_init_343 rfl (by decide) ?_
  refine ir_bipush (q := 347) (v := 102) dX12_init_345 rfl (by decide) ?_
  refine ir_iasL (q := 348) (k := 15) (N := 38) (m := 29) (L := cf_lets) (by decide) rfl (by decide) (by decide) rfl dX12_init_347 rfl ?_
  refine ir_dup (q := 349) dX12_init_348 rfl rfl ?_
  refine ir_bipush (q := 351) (v := 30) dX12_init_349 rfl (by decide) ?_
  refine ir_bipush (q := 353) (v := 114) dX12_init_351 rfl (by decide) ?_
  refine ir_iasL (q := 354) (k := 15) (N := 38) (m := 30) (L := cf_lets) (by decide) rfl (by decide) (by decide) rfl dX12_init_353 rfl ?_
  refine ir_dup (q := 355) dX12_init_354 rfl rfl ?_
  refine ir_bipush (q := 357) (v := 31) dX12_init_355 rfl (by decide) ?_
  refine ir_bipush (q := 359) (v := 111) dX12_init_357 rfl (by decide) ?_
  refine ir_iasL (q := 360) (k := 15) (N := 38) (m := 31) (L := cf_lets) (by decide) rfl (by decide) (by decide) rfl dX12_init_359 rfl ?_
  refine ir_dup (q := 361) dX12_init_360 rfl rfl ?_
  refine ir_bipush (q := 363) (v := 32) dX12_init_361 rfl (by decide) ?_
  refine ir_bipush (q := 365) (v := 109) dX12_init_363 rfl (by decide) ?_
  refine ir_iasL (q := 366) (k := 15) (N := 38) (m := 32) (L := cf_lets) (by decide) rfl (by decide) (by decide) rfl dX12_init_365 rfl ?_
  refine ir_dup (q := 367) dX12_init_366 rfl rfl ?_
  refine ir_bipush (q := 369) (v := 33) dX12_init_367 rfl (by decide) ?_
  refine ir_bipush (q := 371) (v := 105) dX12_init_369 rfl (by decide) ?_
  refine ir_iasL (q := 372) (k := 15) (N := 38) (m := 33) (L := cf_lets) (by decide) rfl (by decide) (by decide) rfl dX12_init_371 rfl ?_
  refine ir_dup (q := 373) dX12_init_372 rfl rfl ?_
  refine ir_bipush (q := 375) (v := 34) dX12_init_373 rfl (by decide) ?_
  refine ir_bipush (q := 377) (v := 102) dX12_init_375 rfl (by decide) ?_
  refine ir_iasL (q := 378) (k := 15) (N := 38) (m := 34) (L := cf_lets) (by decide) rfl (by decide) (by decide) rfl dX12_init_377 rfl ?_
  refine ir_dup (q := 379) dX12_init_378 rfl rfl ?_
  refine ir_bipush (q := 381) (v := 35) dX12_init_379 rfl (by decide) ?_
  refine ir_bipush (q := 383) (v := 97) dX12_init_381 rfl (by decide) ?_
  refine ir_iasL (q := 384) (k := 15) (N := 38) (m := 35) (L := cf_lets) (by decide) rfl (by decide) (by decide) rfl dX12_init_383 rfl ?_
  refine ir_dup (q := 385) dX12_init_384 rfl rfl ?_
  refine ir_bipush (q := 387) (v := 36) dX12_init_385 rfl (by decide) ?_
  refine ir_bipush (q := 389) (v := 110) dX12_init_387 rfl (by decide) ?_
  refine ir_iasL (q := 390) (k := 15) (N := 38) (m := 36) (L := cf_lets) (by decide) rfl (by decide) (by decide) rfl dX12_init_389 rfl ?_
  refine ir_dup (q := 391) dX12_init_390 rfl rfl ?_
  refine ir_bipush (q := 393) (v := 37) dX12_init_391 rfl (by decide) ?_
  refine ir_bipush (q := 395) (v := 100) dX12_init_393 rfl (by decide) ?_
  refine ir_iasL (q := 396) (k := 15) (N := 38) (m := 37) (L := cf_lets) (by decide) rfl (by decide) (by decide) rfl dX12_init_395 rfl ?_
  rw [ii_up_id (g := ii_O 0 12 _ _) (show ii_O 0 12 _ _ 15 = la x 38 cf_lets 38 from (ii_O_ne (by decide)).trans rfl)]
  refine ir_putO (q := 399) (k := 0) (N := 73) (j := 26) (C := RX12) (Tf := TX12) (ty := .array .int) tyX12 (by decide) rfl (by decide) inX12 tyX12_ok nmX12 (by decide +kernel) rfl rfl rfl rfl (Nat.le_of_ble_eq_true rfl) rfl dX12_init_396 rfl hj7 ?_
  exact kk
set_option maxHeartbeats 4000000 in
theorem ic_3 (kk : ii_V x b im_X12 55 3749 post 407 [some (.ref (b + 0))] [] 16 744 17 (ii_O 0 12 [.int 0, .int 0, .ref (b + 1), .ref (b + 2), .ref (b + 3), .ref (b + 4), .int 0, .ref (b + 5), .ref (b + 6), .ref (b + 7), .ref (b + 8), .ref (b + 9), .int 0, .ref (b + 10), .ref (b + 11), .ref (b + 12), .ref (b + 13), .int 0, .int 0, .int 0, .int 0, .int 0, .int 0, .int 0, .int 0, .ref (b + 14), .ref (b + 15), .int 0, .ref (b + 16), .null, .null, .null, .null, .null, .int 0, .null, .null, .null, .null, .null, .null, .int 0, .int 0, .null, .int 0, .null, .null, .null, .null, .null, .null, .null, .null, .null, .null, .null, .null, .null, .null, .null, .null, .null, .int 0, .null, .null, .null, .null, .null, .null, .null, .null, .null, .null] (vc x b vv_TR h0R))) : ii_V x b im_X12 55 3749 post 399 [some (.ref (b + 0))] [] 15 732 16 (ii_O 0 12 [.int 0, .int 0, .ref (b + 1), .ref (b + 2), .ref (b + 3), .ref (b + 4), .int 0, .ref (b + 5), .ref (b + 6), .ref (b + 7), .ref (b + 8), .ref (b + 9), .int 0, .ref (b + 10), .ref (b + 11), .ref (b + 12), .ref (b + 13), .int 0, .int 0, .int 0, .int 0, .int 0, .int 0, .int 0, .int 0, .ref (b + 14), .ref (b + 15), .int 0, .null, .null, .null, .null, .null, .null, .int 0, .null, .null, .null, .null, .null, .null, .int 0, .int 0, .null, .int 0, .null, .null, .null, .null, .null, .null, .null, .null, .null, .null, .null, .null, .null, .null, .null, .null, .null, .int 0, .null, .null, .null, .null, .null, .null, .null, .null, .null, .null] (vc x b vv_TR h0R)) := by
  refine ir_aload_n (q := 400) (v := b + 0) dX12_init_399 rfl rfl ?_
  refine ir_bipush (q := 402) (v := 12) dX12_init_400 rfl (by decide) ?_
  refine ir_newaE (q := 404) (ty := .int) 0 (N := 12) ((ii_O_ne (by decide)).trans rfl) rfl rfl (fun cA => rfl) (fun U cA h => h) iw_2 (by decide) (by decide) (by decide) ⟨Nat.le_of_ble_eq_true rfl, Nat.le_of_ble_eq_true rfl⟩ dX12_init_402 rfl ?_
  refine ir_putO (q := 407) (k := 0) (N := 73) (j := 28) (C := RX12) (Tf := TX12) (ty := .array .int) tyX12 (by decide) rfl (by decide) inX12 tyX12_ok nmX12 (by decide +kernel) rfl rfl rfl rfl (Nat.le_of_ble_eq_true rfl) rfl dX12_init_404 rfl hj7 ?_
  exact kk
set_option maxHeartbeats 4000000 in
theorem ic_4 (kk : ii_V x b im_X12 55 3749 post 471 [some (.ref (b + 0))] [] 24 936 25 (ii_O 0 12 [.int 0, .int 0, .ref (b + 1), .ref (b + 2), .ref (b + 3), .ref (b + 4), .int 0, .ref (b + 5), .ref (b + 6), .ref (b + 7), .ref (b + 8), .ref (b + 9), .int 0, .ref (b + 10), .ref (b + 11), .ref (b + 12), .ref (b + 13), .int 0, .int 0, .int 0, .int 0, .int 0, .int 0, .int 0, .int 0, .ref (b + 14), .ref (b + 15), .int 0, .ref (b + 16), .ref (b + 17), .ref (b + 18), .ref (b + 19), .ref (b + 20), .ref (b + 21), .int 0, .ref (b + 22), .ref (b + 23), .ref (b + 24), .null, .null, .null, .int 0, .int 0, .null, .int 0, .null, .null, .null, .null, .null, .null, .null, .null, .null, .null, .null, .null, .null, .null, .null, .null, .null, .int 0, .null, .null, .null, .null, .null, .null, .null, .null, .null, .null] (vc x b vv_TR h0R))) : ii_V x b im_X12 55 3749 post 407 [some (.ref (b + 0))] [] 16 744 17 (ii_O 0 12 [.int 0, .int 0, .ref (b + 1), .ref (b + 2), .ref (b + 3), .ref (b + 4), .int 0, .ref (b + 5), .ref (b + 6), .ref (b + 7), .ref (b + 8), .ref (b + 9), .int 0, .ref (b + 10), .ref (b + 11), .ref (b + 12), .ref (b + 13), .int 0, .int 0, .int 0, .int 0, .int 0, .int 0, .int 0, .int 0, .ref (b + 14), .ref (b + 15), .int 0, .ref (b + 16), .null, .null, .null, .null, .null, .int 0, .null, .null, .null, .null, .null, .null, .int 0, .int 0, .null, .int 0, .null, .null, .null, .null, .null, .null, .null, .null, .null, .null, .null, .null, .null, .null, .null, .null, .null, .int 0, .null, .null, .null, .null, .null, .null, .null, .null, .null, .null] (vc x b vv_TR h0R)) := by
  refine ir_aload_n (q := 408) (v := b + 0) dX12_init_407 rfl rfl ?_
  refine ir_bipush (q := 410) (v := 12) dX12_init_408 rfl (by decide) ?_
  refine ir_newaE (q := 412) (ty := .int) 0 (N := 12) ((ii_O_ne (by decide)).trans rfl) rfl rfl (fun cA => rfl) (fun U cA h => h) iw_2 (by decide) (by decide) (by decide) ⟨Nat.le_of_ble_eq_true rfl, Nat.le_of_ble_eq_true rfl⟩ dX12_init_410 rfl ?_
  refine ir_putO (q := 415) (k := 0) (N := 73) (j := 29) (C := RX12) (Tf := TX12) (ty := .array .int) tyX12 (by decide) rfl (by decide) inX12 tyX12_ok nmX12 (by decide +kernel) rfl rfl rfl rfl (Nat.le_of_ble_eq_true rfl) rfl dX12_init_412 rfl hj7 ?_
  refine ir_aload_n (q := 416) (v := b + 0) dX12_init_415 rfl rfl ?_
  refine ir_bipush (q := 418) (v := 12) dX12_init_416 rfl (by decide) ?_
  refine ir_newaE (q := 420) (ty := .int) 0 (N := 12) ((ii_O_ne (by decide)).trans rfl) rfl rfl (fun cA => rfl) (fun U cA h => h) iw_2 (by decide) (by decide) (by decide) ⟨Nat.le_of_ble_eq_true rfl, Nat.le_of_ble_eq_true rfl⟩ dX12_init_418 rfl ?_
  refine ir_putO (q := 423) (k := 0) (N := 73) (j := 30) (C := RX12) (Tf := TX12) (ty := .array .int) tyX12 (by decide) rfl (by decide) inX12 tyX12_ok nmX12 (by decide +kernel) rfl rfl rfl rfl (Nat.le_of_ble_eq_true rfl) rfl dX12_init_420 rfl hj7 ?_
  refine ir_aload_n (q := 424) (v := b + 0) dX12_init_423 rfl rfl ?_
  refine ir_bipush (q := 426) (v := 12) dX12_init_424 rfl (by decide) ?_
  refine ir_newaE (q := 428) (ty := .int) 0 (N := 12) ((ii_O_ne (by decide)).trans rfl) rfl rfl (fun cA => rfl) (fun U cA h => h) iw_2 (by decide) (by decide) (by decide) ⟨Nat.le_of_ble_eq_true rfl, Nat.le_of_ble_eq_true rfl⟩ dX12_init_426 rfl ?_
  refine ir_putO (q := 431) (k := 0) (N := 73) (j := 31) (C := RX12) (Tf := TX12) (ty := .array .int) tyX12 (by decide) rfl (by decide) inX12 tyX12_ok nmX12 (by decide +kernel) rfl rfl rfl rfl (Nat.le_of_ble_eq_true rfl) rfl dX12_init_428 rfl hj7 ?_
  refine ir_aload_n (q := 432) (v := b + 0) dX12_init_431 rfl rfl ?_
  refine ir_bipush (q := 434) (v := 12) dX12_init_432 rfl (by decide) ?_
  refine ir_newaE (q := 436) (ty := .int) 0 (N := 12) ((ii_O_ne (by decide)).trans rfl) rfl rfl (fun cA => rfl) (fun U cA h => h) iw_2 (by decide) (by decide) (by decide) ⟨Nat.le_of_ble_eq_true rfl, Nat.le_of_ble_eq_true rfl⟩ dX12_init_434 rfl ?_
  refine ir_putO (q := 439) (k := 0) (N := 73) (j := 32) (C := RX12) (Tf := TX12) (ty := .array .int) tyX12 (by decide) rfl (by decide) inX12 tyX12_ok nmX12 (by decide +kernel) rfl rfl rfl rfl (Nat.le_of_ble_eq_true rfl) rfl dX12_init_436 rfl hj7 ?_
  refine ir_aload_n (q := 440) (v := b + 0) dX12_init_439 rfl rfl ?_
  refine ir_bipush (q := 442) (v := 108) dX12_init_440 rfl (by decide) ?_
  refine ir_newaE (q := 444) (ty := .int) 0 (N := 108) ((ii_O_ne (by decide)).trans rfl) rfl rfl (fun cA => rfl) (fun U cA h => h) iw_2 (by decide) (by decide) (by decide) ⟨Nat.le_of_ble_eq_true rfl, Nat.le_of_ble_eq_true rfl⟩ dX12_init_442 rfl ?_
  refine ir_putO (q := 447) (k := 0) (N := 73) (j := 33) (C := RX12) (Tf := TX12) (ty := .array .int) tyX12 (by decide) rfl (by decide) inX12 tyX12_ok nmX12 (by decide +kernel) rfl rfl rfl rfl (Nat.le_of_ble_eq_true rfl) rfl dX12_init_444 rfl hj7 ?_
  refine ir_aload_n (q := 448) (v := b + 0) dX12_init_447 rfl rfl ?_
  refine ir_bipush (q := 450) (v := 12) dX12_init_448 rfl (by decide) ?_
  refine ir_newaE (q := 452) (ty := .int) 0 (N := 12) ((ii_O_ne (by decide)).trans rfl) rfl rfl (fun cA => rfl) (fun U cA h => h) iw_2 (by decide) (by decide) (by decide) ⟨Nat.le_of_ble_eq_true rfl, Nat.le_of_ble_eq_true rfl⟩ dX12_init_450 rfl ?_
  refine ir_putO (q := 455) (k := 0) (N := 73) (j := 35) (C := RX12) (Tf := TX12) (ty := .array .int) tyX12 (by decide) rfl (by decide) inX12 tyX12_ok nmX12 (by decide +kernel) rfl rfl rfl rfl (Nat.le_of_ble_eq_true rfl) rfl dX12_init_452 rfl hj7 ?_
  refine ir_aload_n (q := 456) (v := b + 0) dX12_init_455 rfl rfl ?_
  refine ir_bipush (q := 458) (v := 12) dX12_init_456 rfl (by decide) ?_
  refine ir_newaE (q := 460) (ty := .int) 0 (N := 12) ((ii_O_ne (by decide)).trans rfl) rfl rfl (fun cA => rfl) (fun U cA h => h) iw_2 (by decide) (by decide) (by decide) ⟨Nat.le_of_ble_eq_true rfl, Nat.le_of_ble_eq_true rfl⟩ dX12_init_458 rfl ?_
  refine ir_putO (q := 463) (k := 0) (N := 73) (j := 36) (C := RX12) (Tf := TX12) (ty := .array .int) tyX12 (by decide) rfl (by decide) inX12 tyX12_ok nmX12 (by decide +kernel) rfl rfl rfl rfl (Nat.le_of_ble_eq_true rfl) rfl dX12_init_460 rfl hj7 ?_
  refine ir_aload_n (q := 464) (v := b + 0) dX12_init_463 rfl rfl ?_
  refine ir_bipush (q := 466) (v := 12) dX12_init_464 rfl (by decide) ?_
  refine ir_newaE (q := 468) (ty := .int) 0 (N := 12) ((ii_O_ne (by decide)).trans rfl) rfl rfl (fun cA => rfl) (fun U cA h => h) iw_2 (by decide) (by decide) (by decide) ⟨Nat.le_of_ble_eq_true rfl, Nat.le_of_ble_eq_true rfl⟩ dX12_init_466 rfl ?_
  refine ir_putO (q := 471) (k := 0) (N := 73) (j := 37) (C := RX12) (Tf := TX12) (ty := .array .int) tyX12 (by decide) rfl (by decide) inX12 tyX12_ok nmX12 (by decide +kernel) rfl rfl rfl rfl (Nat.le_of_ble_eq_true rfl) rfl dX12_init_468 rfl hj7 ?_
  exact kk
set_option maxHeartbeats 4000000 in
theorem ic_5 (kk : ii_V x b im_X12 55 3749 post 589 [some (.ref (b + 0))] [] 28 1084 29 (ii_O 0 12 [.int 0, .int 0, .ref (b + 1), .ref (b + 2), .ref (b + 3), .ref (b + 4), .int 0, .ref (b + 5), .ref (b + 6), .ref (b + 7), .ref (b + 8), .ref (b + 9), .int 0, .ref (b + 10), .ref (b + 11), .ref (b + 12), .ref (b + 13), .int 0, .int 0, .int 0, .int 0, .int 0, .int 0, .int 0, .int 0, .ref (b + 14), .ref (b + 15), .int 0, .ref (b + 16), .ref (b + 17), .ref (b + 18), .ref (b + 19), .ref (b + 20), .ref (b + 21), .int 0, .ref (b + 22), .ref (b + 23), .ref (b + 24), .ref (b + 25), .ref (b + 26), .ref (b + 27), .int 0, .int 0, .ref (b + 28), .int 0, .null, .null, .null, .null, .null, .null, .null, .null, .null, .null, .null, .null, .null, .null, .null, .null, .null, .int 0, .null, .null, .null, .null, .null, .null, .null, .null, .null, .null] (vc x b vv_TR h0R))) : ii_V x b im_X12 55 3749 post 471 [some (.ref (b + 0))] [] 24 936 25 (ii_O 0 12 [.int 0, .int 0, .ref (b + 1), .ref (b + 2), .ref (b + 3), .ref (b + 4), .int 0, .ref (b + 5), .ref (b + 6), .ref (b + 7), .ref (b + 8), .ref (b + 9), .int 0, .ref (b + 10), .ref (b + 11), .ref (b + 12), .ref (b + 13), .int 0, .int 0, .int 0, .int 0, .int 0, .int 0, .int 0, .int 0, .ref (b + 14), .ref (b + 15), .int 0, .ref (b + 16), .ref (b + 17), .ref (b + 18), .ref (b + 19), .ref (b + 20), .ref (b + 21), .int 0, .ref (b + 22), .ref (b + 23), .ref (b + 24), .null, .null, .null, .int 0, .int 0, .null, .int 0, .null, .null, .null, .null, .null, .null, .null, .null, .null, .null, .null, .null, .null, .null, .null, .null, .null, .int 0, .null, .null, .null, .null, .null, .null, .null, .null, .null, .null] (vc x b vv_TR h0R)) := by
  refine ir_aload_n (q := 472) (v := b + 0) dX12_init_471 rfl rfl ?_
  refine ir_bipush (q := 474) (v := 12) dX12_init_472 rfl (by decide) ?_
  refine ir_newaE (q := 476) (ty := .int) 0 (N := 12) ((ii_O_ne (by decide)).trans rfl) rfl rfl (fun cA => rfl) (fun U cA h => h) iw_2 (by decide) (by decide) (by decide) ⟨Nat.le_of_ble_eq_true rfl, Nat.le_of_ble_eq_true rfl⟩ dX12_init_474 rfl ?_
  refine ir_putO (q := 479) (k := 0) (N := 73) (j := 38) (C := RX12) (Tf := TX12) (ty := .array .int) tyX12 (by decide) rfl (by decide) inX12 tyX12_ok nmX12 (by decide +kernel) rfl rfl rfl rfl (Nat.le_of_ble_eq_true rfl) rfl dX12_init_476 rfl hj7 ?_
  refine ir_aload_n (q := 480) (v := b + 0) dX12_init_479 rfl rfl ?_
  refine ir_bipush (q := 482) (v := 12) dX12_init_480 rfl (by decide) ?_
  refine ir_newaE (q := 484) (ty := .int) 0 (N := 12) ((ii_O_ne (by decide)).trans rfl) rfl rfl (fun cA => rfl) (fun U cA h => h) iw_2 (by decide) (by decide) (by decide) ⟨Nat.le_of_ble_eq_true rfl, Nat.le_of_ble_eq_true rfl⟩ dX12_init_482 rfl ?_
  refine ir_putO (q := 487) (k := 0) (N := 73) (j := 39) (C := RX12) (Tf := TX12) (ty := .array .int) tyX12 (by decide) rfl (by decide) inX12 tyX12_ok nmX12 (by decide +kernel) rfl rfl rfl rfl (Nat.le_of_ble_eq_true rfl) rfl dX12_init_484 rfl hj7 ?_
  refine ir_aload_n (q := 488) (v := b + 0) dX12_init_487 rfl rfl ?_
  refine ir_bipush (q := 490) (v := 108) dX12_init_488 rfl (by decide) ?_
  refine ir_newaE (q := 492) (ty := .int) 0 (N := 108) ((ii_O_ne (by decide)).trans rfl) rfl rfl (fun cA => rfl) (fun U cA h => h) iw_2 (by decide) (by decide) (by decide) ⟨Nat.le_of_ble_eq_true rfl, Nat.le_of_ble_eq_true rfl⟩ dX12_init_490 rfl ?_
  refine ir_putO (q := 495) (k := 0) (N := 73) (j := 40) (C := RX12) (Tf := TX12) (ty := .array .int) tyX12 (by decide) rfl (by decide) inX12 tyX12_ok nmX12 (by decide +kernel) rfl rfl rfl rfl (Nat.le_of_ble_eq_true rfl) rfl dX12_init_492 rfl hj7 ?_
  refine ir_aload_n (q := 496) (v := b + 0) dX12_init_495 rfl rfl ?_
  refine ir_bipush (q := 498) (v := 16) dX12_init_496 rfl (by decide) ?_
  refine ir_newaL (q := 500) (N := 16) cf_road iw_2 (by decide) (by decide) (by decide) ⟨Nat.le_of_ble_eq_true rfl, Nat.le_of_ble_eq_true rfl⟩ dX12_init_498 rfl ?_
  refine ir_dup (q := 501) dX12_init_500 rfl rfl ?_
  refine ir_iconst (q := 502) (v := 0) dX12_init_501 rfl (by decide) ?_
  refine ir_iconst (q := 503) (v := 0) dX12_init_502 rfl (by decide) ?_
  refine ir_iasL (q := 504) (k := 28) (N := 16) (m := 0) (L := cf_road) (by decide) rfl (by decide) (by decide) rfl dX12_init_503 rfl ?_
  refine ir_dup (q := 505) dX12_init_504 rfl rfl ?_
  refine ir_iconst (q := 506) (v := 1) dX12_init_505 rfl (by decide) ?_
  refine ir_bipush (q := 508) (v := 50) dX12_init_506 rfl (by decide) ?_
  refine ir_iasL (q := 509) (k := 28) (N := 16) (m := 1) (L := cf_road) (by decide) rfl (by decide) (by decide) rfl dX12_init_508 rfl ?_
  refine ir_dup (q := 510) dX12_init_509 rfl rfl ?_
  refine ir_iconst (q := 511) (v := 2) dX12_init_510 rfl (by decide) ?_
  refine ir_bipush (q := 513) (v := 50) dX12_init_511 rfl (by decide) ?_
  refine ir_iasL (q := 514) (k := 28) (N := 16) (m := 2) (L := cf_road) (by decide) rfl (by decide) (by decide) rfl dX12_init_513 rfl ?_
  refine ir_dup (q := 515) dX12_init_514 rfl rfl ?_
  refine ir_iconst (q := 516) (v := 3) dX12_init_515 rfl (by decide) ?_
  refine ir_bipush (q := 518) (v := 50) dX12_init_516 rfl (by decide) ?_
  refine ir_iasL (q := 519) (k := 28) (N := 16) (m := 3) (L := cf_road) (by decide) rfl (by decide) (by decide) rfl dX12_init_518 rfl ?_
  refine ir_dup (q := 520) dX12_init_519 rfl rfl ?_
  refine ir_iconst (q := 521) (v := 4) dX12_init_520 rfl (by decide) ?_
  refine ir_bipush (q := 523) (v := 50) dX12_init_521 rfl (by decide) ?_
  refine ir_iasL (q := 524) (k := 28) (N := 16) (m := 4) (L := cf_road) (by decide) rfl (by decide) (by decide) rfl dX12_init_523 rfl ?_
  refine ir_dup (q := 525) dX12_init_524 rfl rfl ?_
  refine ir_iconst (q := 526) (v := 5) dX12_init_525 rfl (by decide) ?_
  refine ir_iconst (q := 527) (v := 0) dX12_init_526 rfl (by decide) ?_
  refine ir_iasL (q := 528) (k := 28) (N := 16) (m := 5) (L := cf_road) (by decide) rfl (by decide) (by decide) rfl dX12_init_527 rfl ?_
  refine ir_dup (q := 529) dX12_init_528 rfl rfl ?_
  refine ir_bipush (q := 531) (v := 6) dX12_init_529 rfl (by decide) ?_
  refine ir_bipush (q := 533) (v := 50) dX12_init_531 rfl (by decide) ?_
  refine ir_iasL (q := 534) (k := 28) (N := 16) (m := 6) (L := cf_road) (by decide) rfl (by decide) (by decide) rfl dX12_init_533 rfl ?_
  refine ir_dup (q := 535) dX12_init_534 rfl rfl ?_
  refine ir_bipush (q := 537) (v := 7) dX12_init_535 rfl (by decide) ?_
  refine ir_bipush (q := 539) (v := 50) dX12_init_537 rfl (by decide) ?_
  refine ir_iasL (q := 540) (k := 28) (N := 16) (m := 7) (L := cf_road) (by decide) rfl (by decide) (by decide) rfl dX12_init_539 rfl ?_
  refine ir_dup (q := 541) dX12_init_540 rfl rfl ?_
  refine ir_bipush (q := 543) (v := 8) dX12_init_541 rfl (by decide) ?_
  refine ir_bipush (q := 545) (v := 50) dX12_init_543 rfl (by decide) ?_
  refine ir_iasL (q := 546) (k := 28) (N := 16) (m := 8) (L := cf_road) (by decide) rfl (by decide) (by decide) rfl dX12_init_545 rfl ?_
  refine ir_dup (q := 547) dX12_init_546 rfl rfl ?_
  refine ir_bipush (q := 549) (v := 9) dX12_init_547 rfl (by decide) ?_
  refine ir_bipush (q := 551) (v := 50) dX12_init_549 rfl (by decide) ?_
  refine ir_iasL (q := 552) (k := 28) (N := 16) (m := 9) (L := cf_road) (by decide) rfl (by decide) (by decide) rfl dX12_init_551 rfl ?_
  refine ir_dup (q := 553) dX12_init_552 rfl rfl ?_
  refine ir_bipush (q := 555) (v := 10) dX12_init_553 rfl (by decide) ?_
  refine ir_iconst (q := 556) (v := 0) dX12_init_555 rfl (by decide) ?_
  refine ir_iasL (q := 557) (k := 28) (N := 16) (m := 10) (L := cf_road) (by decide) rfl (by decide) (by decide) rfl dX12_init_556 rfl ?_
  refine ir_dup (q := 558) dX12_init_557 rfl rfl ?_
  refine ir_bipush (q := 560) (v := 11) dX12_init_558 rfl (by decide) ?_
  refine ir_bipush (q := 562) (v := 50) dX12_init_560 rfl (by decide) ?_
  refine ir_iasL (q := 563) (k := 28) (N := 16) (m := 11) (L := cf_road) (by decide) rfl (by decide) (by decide) rfl dX12_init_562 rfl ?_
  refine ir_dup (q := 564) dX12_init_563 rfl rfl ?_
  refine ir_bipush (q := 566) (v := 12) dX12_init_564 rfl (by decide) ?_
  refine ir_bipush (q := 568) (v := 50) dX12_init_566 rfl (by decide) ?_
  refine ir_iasL (q := 569) (k := 28) (N := 16) (m := 12) (L := cf_road) (by decide) rfl (by decide) (by decide) rfl dX12_init_568 rfl ?_
  refine ir_dup (q := 570) dX12_init_569 rfl rfl ?_
  refine ir_bipush (q := 572) (v := 13) dX12_init_570 rfl (by decide) ?_
  refine ir_bipush (q := 574) (v := 50) dX12_init_572 rfl (by decide) ?_
  refine ir_iasL (q := 575) (k := 28) (N := 16) (m := 13) (L := cf_road) (by decide) rfl (by decide) (by decide) rfl dX12_init_574 rfl ?_
  refine ir_dup (q := 576) dX12_init_575 rfl rfl ?_
  refine ir_bipush (q := 578) (v := 14) dX12_init_576 rfl (by decide) ?_
  refine ir_bipush (q := 580) (v := 50) dX12_init_578 rfl (by decide) ?_
  refine ir_iasL (q := 581) (k := 28) (N := 16) (m := 14) (L := cf_road) (by decide) rfl (by decide) (by decide) rfl dX12_init_580 rfl ?_
  refine ir_dup (q := 582) dX12_init_581 rfl rfl ?_
  refine ir_bipush (q := 584) (v := 15) dX12_init_582 rfl (by decide) ?_
  refine ir_iconst (q := 585) (v := 0) dX12_init_584 rfl (by decide) ?_
  refine ir_iasL (q := 586) (k := 28) (N := 16) (m := 15) (L := cf_road) (by decide) rfl (by decide) (by decide) rfl dX12_init_585 rfl ?_
  rw [ii_up_id (g := ii_O 0 12 _ _) (show ii_O 0 12 _ _ 28 = la x 16 cf_road 16 from (ii_O_ne (by decide)).trans rfl)]
  refine ir_putO (q := 589) (k := 0) (N := 73) (j := 43) (C := RX12) (Tf := TX12) (ty := .array .int) tyX12 (by decide) rfl (by decide) inX12 tyX12_ok nmX12 (by decide +kernel) rfl rfl rfl rfl (Nat.le_of_ble_eq_true rfl) rfl dX12_init_586 rfl hj7 ?_
  exact kk
set_option maxHeartbeats 4000000 in
theorem ic_6 (kk : ii_V x b im_X12 55 3749 post 621 [some (.ref (b + 0))] [] 32 1228 33 (ii_O 0 12 [.int 0, .int 0, .ref (b + 1), .ref (b + 2), .ref (b + 3), .ref (b + 4), .int 0, .ref (b + 5), .ref (b + 6), .ref (b + 7), .ref (b + 8), .ref (b + 9), .int 0, .ref (b + 10), .ref (b + 11), .ref (b + 12), .ref (b + 13), .int 0, .int 0, .int 0, .int 0, .int 0, .int 0, .int 0, .int 0, .ref (b + 14), .ref (b + 15), .int 0, .ref (b + 16), .ref (b + 17), .ref (b + 18), .ref (b + 19), .ref (b + 20), .ref (b + 21), .int 0, .ref (b + 22), .ref (b + 23), .ref (b + 24), .ref (b + 25), .ref (b + 26), .ref (b + 27), .int 0, .int 0, .ref (b + 28), .int 0, .ref (b + 29), .ref (b + 30), .ref (b + 31), .ref (b + 32), .null, .null, .null, .null, .null, .null, .null, .null, .null, .null, .null, .null, .null, .int 0, .null, .null, .null, .null, .null, .null, .null, .null, .null, .null] (vc x b vv_TR h0R))) : ii_V x b im_X12 55 3749 post 589 [some (.ref (b + 0))] [] 28 1084 29 (ii_O 0 12 [.int 0, .int 0, .ref (b + 1), .ref (b + 2), .ref (b + 3), .ref (b + 4), .int 0, .ref (b + 5), .ref (b + 6), .ref (b + 7), .ref (b + 8), .ref (b + 9), .int 0, .ref (b + 10), .ref (b + 11), .ref (b + 12), .ref (b + 13), .int 0, .int 0, .int 0, .int 0, .int 0, .int 0, .int 0, .int 0, .ref (b + 14), .ref (b + 15), .int 0, .ref (b + 16), .ref (b + 17), .ref (b + 18), .ref (b + 19), .ref (b + 20), .ref (b + 21), .int 0, .ref (b + 22), .ref (b + 23), .ref (b + 24), .ref (b + 25), .ref (b + 26), .ref (b + 27), .int 0, .int 0, .ref (b + 28), .int 0, .null, .null, .null, .null, .null, .null, .null, .null, .null, .null, .null, .null, .null, .null, .null, .null, .null, .int 0, .null, .null, .null, .null, .null, .null, .null, .null, .null, .null] (vc x b vv_TR h0R)) := by
  refine ir_aload_n (q := 590) (v := b + 0) dX12_init_589 rfl rfl ?_
  refine ir_bipush (q := 592) (v := 36) dX12_init_590 rfl (by decide) ?_
  refine ir_newaE (q := 594) (ty := .int) 0 (N := 36) ((ii_O_ne (by decide)).trans rfl) rfl rfl (fun cA => rfl) (fun U cA h => h) iw_2 (by decide) (by decide) (by decide) ⟨Nat.le_of_ble_eq_true rfl, Nat.le_of_ble_eq_true rfl⟩ dX12_init_592 rfl ?_
  refine ir_putO (q := 597) (k := 0) (N := 73) (j := 45) (C := RX12) (Tf := TX12) (ty := .array .int) tyX12 (by decide) rfl (by decide) inX12 tyX12_ok nmX12 (by decide +kernel) rfl rfl rfl rfl (Nat.le_of_ble_eq_true rfl) rfl dX12_init_594 rfl hj7 ?_
  refine ir_aload_n (q := 598) (v := b + 0) dX12_init_597 rfl rfl ?_
  refine ir_bipush (q := 600) (v := 36) dX12_init_598 rfl (by decide) ?_
  refine ir_newaE (q := 602) (ty := .int) 0 (N := 36) ((ii_O_ne (by decide)).trans rfl) rfl rfl (fun cA => rfl) (fun U cA h => h) iw_2 (by decide) (by decide) (by decide) ⟨Nat.le_of_ble_eq_true rfl, Nat.le_of_ble_eq_true rfl⟩ dX12_init_600 rfl ?_
  refine ir_putO (q := 605) (k := 0) (N := 73) (j := 46) (C := RX12) (Tf := TX12) (ty := .array .int) tyX12 (by decide) rfl (by decide) inX12 tyX12_ok nmX12 (by decide +kernel) rfl rfl rfl rfl (Nat.le_of_ble_eq_true rfl) rfl dX12_init_602 rfl hj7 ?_
  refine ir_aload_n (q := 606) (v := b + 0) dX12_init_605 rfl rfl ?_
  refine ir_bipush (q := 608) (v := 36) dX12_init_606 rfl (by decide) ?_
  refine ir_newaE (q := 610) (ty := .int) 0 (N := 36) ((ii_O_ne (by decide)).trans rfl) rfl rfl (fun cA => rfl) (fun U cA h => h) iw_2 (by decide) (by decide) (by decide) ⟨Nat.le_of_ble_eq_true rfl, Nat.le_of_ble_eq_true rfl⟩ dX12_init_608 rfl ?_
  refine ir_putO (q := 613) (k := 0) (N := 73) (j := 47) (C := RX12) (Tf := TX12) (ty := .array .int) tyX12 (by decide) rfl (by decide) inX12 tyX12_ok nmX12 (by decide +kernel) rfl rfl rfl rfl (Nat.le_of_ble_eq_true rfl) rfl dX12_init_610 rfl hj7 ?_
  refine ir_aload_n (q := 614) (v := b + 0) dX12_init_613 rfl rfl ?_
  refine ir_bipush (q := 616) (v := 36) dX12_init_614 rfl (by decide) ?_
  refine ir_newaE (q := 618) (ty := .int) 0 (N := 36) ((ii_O_ne (by decide)).trans rfl) rfl rfl (fun cA => rfl) (fun U cA h => h) iw_2 (by decide) (by decide) (by decide) ⟨Nat.le_of_ble_eq_true rfl, Nat.le_of_ble_eq_true rfl⟩ dX12_init_616 rfl ?_
  refine ir_putO (q := 621) (k := 0) (N := 73) (j := 48) (C := RX12) (Tf := TX12) (ty := .array .int) tyX12 (by decide) rfl (by decide) inX12 tyX12_ok nmX12 (by decide +kernel) rfl rfl rfl rfl (Nat.le_of_ble_eq_true rfl) rfl dX12_init_618 rfl hj7 ?_
  exact kk
set_option maxHeartbeats 4000000 in
theorem ic_7 (kk : ii_V x b im_X12 55 3749 post 686 [some (.ref (b + 0))] [] 40 1912 41 (ii_O 0 12 [.int 0, .int 0, .ref (b + 1), .ref (b + 2), .ref (b + 3), .ref (b + 4), .int 0, .ref (b + 5), .ref (b + 6), .ref (b + 7), .ref (b + 8), .ref (b + 9), .int 0, .ref (b + 10), .ref (b + 11), .ref (b + 12), .ref (b + 13), .int 0, .int 0, .int 0, .int 0, .int 0, .int 0, .int 0, .int 0, .ref (b + 14), .ref (b + 15), .int 0, .ref (b + 16), .ref (b + 17), .ref (b + 18), .ref (b + 19), .ref (b + 20), .ref (b + 21), .int 0, .ref (b + 22), .ref (b + 23), .ref (b + 24), .ref (b + 25), .ref (b + 26), .ref (b + 27), .int 0, .int 0, .ref (b + 28), .int 0, .ref (b + 29), .ref (b + 30), .ref (b + 31), .ref (b + 32), .ref (b + 33), .ref (b + 34), .ref (b + 35), .ref (b + 36), .ref (b + 37), .ref (b + 38), .ref (b + 39), .ref (b + 40), .null, .null, .null, .null, .null, .int 0, .null, .null, .null, .null, .null, .null, .null, .null, .null, .null] (vc x b vv_TR h0R))) : ii_V x b im_X12 55 3749 post 621 [some (.ref (b + 0))] [] 32 1228 33 (ii_O 0 12 [.int 0, .int 0, .ref (b + 1), .ref (b + 2), .ref (b + 3), .ref (b + 4), .int 0, .ref (b + 5), .ref (b + 6), .ref (b + 7), .ref (b + 8), .ref (b + 9), .int 0, .ref (b + 10), .ref (b + 11), .ref (b + 12), .ref (b + 13), .int 0, .int 0, .int 0, .int 0, .int 0, .int 0, .int 0, .int 0, .ref (b + 14), .ref (b + 15), .int 0, .ref (b + 16), .ref (b + 17), .ref (b + 18), .ref (b + 19), .ref (b + 20), .ref (b + 21), .int 0, .ref (b + 22), .ref (b + 23), .ref (b + 24), .ref (b + 25), .ref (b + 26), .ref (b + 27), .int 0, .int 0, .ref (b + 28), .int 0, .ref (b + 29), .ref (b + 30), .ref (b + 31), .ref (b + 32), .null, .null, .null, .null, .null, .null, .null, .null, .null, .null, .null, .null, .null, .int 0, .null, .null, .null, .null, .null, .null, .null, .null, .null, .null] (vc x b vv_TR h0R)) := by
  refine ir_aload_n (q := 622) (v := b + 0) dX12_init_621 rfl rfl ?_
  refine ir_bipush (q := 624) (v := 36) dX12_init_622 rfl (by decide) ?_
  refine ir_newaE (q := 626) (ty := .int) 0 (N := 36) ((ii_O_ne (by decide)).trans rfl) rfl rfl (fun cA => rfl) (fun U cA h => h) iw_2 (by decide) (by decide) (by decide) ⟨Nat.le_of_ble_eq_true rfl, Nat.le_of_ble_eq_true rfl⟩ dX12_init_624 rfl ?_
  refine ir_putO (q := 629) (k := 0) (N := 73) (j := 49) (C := RX12) (Tf := TX12) (ty := .array .int) tyX12 (by decide) rfl (by decide) inX12 tyX12_ok nmX12 (by decide +kernel) rfl rfl rfl rfl (Nat.le_of_ble_eq_true rfl) rfl dX12_init_626 rfl hj7 ?_
  refine ir_aload_n (q := 630) (v := b + 0) dX12_init_629 rfl rfl ?_
  refine ir_bipush (q := 632) (v := 36) dX12_init_630 rfl (by decide) ?_
  refine ir_newaE (q := 634) (ty := .int) 0 (N := 36) ((ii_O_ne (by decide)).trans rfl) rfl rfl (fun cA => rfl) (fun U cA h => h) iw_2 (by decide) (by decide) (by decide) ⟨Nat.le_of_ble_eq_true rfl, Nat.le_of_ble_eq_true rfl⟩ dX12_init_632 rfl ?_
  refine ir_putO (q := 637) (k := 0) (N := 73) (j := 50) (C := RX12) (Tf := TX12) (ty := .array .int) tyX12 (by decide) rfl (by decide) inX12 tyX12_ok nmX12 (by decide +kernel) rfl rfl rfl rfl (Nat.le_of_ble_eq_true rfl) rfl dX12_init_634 rfl hj7 ?_
  refine ir_aload_n (q := 638) (v := b + 0) dX12_init_637 rfl rfl ?_
  refine ir_bipush (q := 640) (v := 36) dX12_init_638 rfl (by decide) ?_
  refine ir_newaE (q := 642) (ty := .int) 0 (N := 36) ((ii_O_ne (by decide)).trans rfl) rfl rfl (fun cA => rfl) (fun U cA h => h) iw_2 (by decide) (by decide) (by decide) ⟨Nat.le_of_ble_eq_true rfl, Nat.le_of_ble_eq_true rfl⟩ dX12_init_640 rfl ?_
  refine ir_putO (q := 645) (k := 0) (N := 73) (j := 51) (C := RX12) (Tf := TX12) (ty := .array .int) tyX12 (by decide) rfl (by decide) inX12 tyX12_ok nmX12 (by decide +kernel) rfl rfl rfl rfl (Nat.le_of_ble_eq_true rfl) rfl dX12_init_642 rfl hj7 ?_
  refine ir_aload_n (q := 646) (v := b + 0) dX12_init_645 rfl rfl ?_
  refine ir_bipush (q := 648) (v := 36) dX12_init_646 rfl (by decide) ?_
  refine ir_newaE (q := 650) (ty := .int) 0 (N := 36) ((ii_O_ne (by decide)).trans rfl) rfl rfl (fun cA => rfl) (fun U cA h => h) iw_2 (by decide) (by decide) (by decide) ⟨Nat.le_of_ble_eq_true rfl, Nat.le_of_ble_eq_true rfl⟩ dX12_init_648 rfl ?_
  refine ir_putO (q := 653) (k := 0) (N := 73) (j := 52) (C := RX12) (Tf := TX12) (ty := .array .int) tyX12 (by decide) rfl (by decide) inX12 tyX12_ok nmX12 (by decide +kernel) rfl rfl rfl rfl (Nat.le_of_ble_eq_true rfl) rfl dX12_init_650 rfl hj7 ?_
  refine ir_aload_n (q := 654) (v := b + 0) dX12_init_653 rfl rfl ?_
  refine ir_bipush (q := 656) (v := 36) dX12_init_654 rfl (by decide) ?_
  refine ir_newaE (q := 658) (ty := .int) 0 (N := 36) ((ii_O_ne (by decide)).trans rfl) rfl rfl (fun cA => rfl) (fun U cA h => h) iw_2 (by decide) (by decide) (by decide) ⟨Nat.le_of_ble_eq_true rfl, Nat.le_of_ble_eq_true rfl⟩ dX12_init_656 rfl ?_
  refine ir_putO (q := 661) (k := 0) (N := 73) (j := 53) (C := RX12) (Tf := TX12) (ty := .array .int) tyX12 (by decide) rfl (by decide) inX12 tyX12_ok nmX12 (by decide +kernel) rfl rfl rfl rfl (Nat.le_of_ble_eq_true rfl) rfl dX12_init_658 rfl hj7 ?_
  refine ir_aload_n (q := 662) (v := b + 0) dX12_init_661 rfl rfl ?_
  refine ir_bipush (q := 664) (v := 36) dX12_init_662 rfl (by decide) ?_
  refine ir_newaE (q := 666) (ty := .int) 0 (N := 36) ((ii_O_ne (by decide)).trans rfl) rfl rfl (fun cA => rfl) (fun U cA h => h) iw_2 (by decide) (by decide) (by decide) ⟨Nat.le_of_ble_eq_true rfl, Nat.le_of_ble_eq_true rfl⟩ dX12_init_664 rfl ?_
  refine ir_putO (q := 669) (k := 0) (N := 73) (j := 54) (C := RX12) (Tf := TX12) (ty := .array .int) tyX12 (by decide) rfl (by decide) inX12 tyX12_ok nmX12 (by decide +kernel) rfl rfl rfl rfl (Nat.le_of_ble_eq_true rfl) rfl dX12_init_666 rfl hj7 ?_
  refine ir_aload_n (q := 670) (v := b + 0) dX12_init_669 rfl rfl ?_
  refine ir_sipush (q := 673) (v := 432) dX12_init_670 rfl (by decide) ?_
  refine ir_newaE (q := 675) (ty := .boolean) 3 (N := 432) ((ii_O_ne (by decide)).trans rfl) rfl rfl (fun cA => rfl) (fun U cA h => h) iw_5 (by decide) (by decide) (by decide) ⟨Nat.le_of_ble_eq_true rfl, Nat.le_of_ble_eq_true rfl⟩ dX12_init_673 rfl ?_
  refine ir_putO (q := 678) (k := 0) (N := 73) (j := 55) (C := RX12) (Tf := TX12) (ty := .array .boolean) tyX12 (by decide) rfl (by decide) inX12 tyX12_ok nmX12 (by decide +kernel) rfl rfl rfl rfl (Nat.le_of_ble_eq_true rfl) rfl dX12_init_675 rfl hj7 ?_
  refine ir_aload_n (q := 679) (v := b + 0) dX12_init_678 rfl rfl ?_
  refine ir_bipush (q := 681) (v := 36) dX12_init_679 rfl (by decide) ?_
  refine ir_newaE (q := 683) (ty := .int) 0 (N := 36) ((ii_O_ne (by decide)).trans rfl) rfl rfl (fun cA => rfl) (fun U cA h => h) iw_2 (by decide) (by decide) (by decide) ⟨Nat.le_of_ble_eq_true rfl, Nat.le_of_ble_eq_true rfl⟩ dX12_init_681 rfl ?_
  refine ir_putO (q := 686) (k := 0) (N := 73) (j := 56) (C := RX12) (Tf := TX12) (ty := .array .int) tyX12 (by decide) rfl (by decide) inX12 tyX12_ok nmX12 (by decide +kernel) rfl rfl rfl rfl (Nat.le_of_ble_eq_true rfl) rfl dX12_init_683 rfl hj7 ?_
  exact kk
set_option maxHeartbeats 4000000 in
theorem ic_8 (kk : ii_V x b im_X12 55 3749 post 750 [some (.ref (b + 0))] [] 48 2104 49 (ii_O 0 12 [.int 0, .int 0, .ref (b + 1), .ref (b + 2), .ref (b + 3), .ref (b + 4), .int 0, .ref (b + 5), .ref (b + 6), .ref (b + 7), .ref (b + 8), .ref (b + 9), .int 0, .ref (b + 10), .ref (b + 11), .ref (b + 12), .ref (b + 13), .int 0, .int 0, .int 0, .int 0, .int 0, .int 0, .int 0, .int 0, .ref (b + 14), .ref (b + 15), .int 0, .ref (b + 16), .ref (b + 17), .ref (b + 18), .ref (b + 19), .ref (b + 20), .ref (b + 21), .int 0, .ref (b + 22), .ref (b + 23), .ref (b + 24), .ref (b + 25), .ref (b + 26), .ref (b + 27), .int 0, .int 0, .ref (b + 28), .int 0, .ref (b + 29), .ref (b + 30), .ref (b + 31), .ref (b + 32), .ref (b + 33), .ref (b + 34), .ref (b + 35), .ref (b + 36), .ref (b + 37), .ref (b + 38), .ref (b + 39), .ref (b + 40), .ref (b + 41), .ref (b + 42), .ref (b + 43), .ref (b + 44), .ref (b + 45), .int 0, .ref (b + 46), .ref (b + 47), .ref (b + 48), .null, .null, .null, .null, .null, .null, .null] (vc x b vv_TR h0R))) : ii_V x b im_X12 55 3749 post 686 [some (.ref (b + 0))] [] 40 1912 41 (ii_O 0 12 [.int 0, .int 0, .ref (b + 1), .ref (b + 2), .ref (b + 3), .ref (b + 4), .int 0, .ref (b + 5), .ref (b + 6), .ref (b + 7), .ref (b + 8), .ref (b + 9), .int 0, .ref (b + 10), .ref (b + 11), .ref (b + 12), .ref (b + 13), .int 0, .int 0, .int 0, .int 0, .int 0, .int 0, .int 0, .int 0, .ref (b + 14), .ref (b + 15), .int 0, .ref (b + 16), .ref (b + 17), .ref (b + 18), .ref (b + 19), .ref (b + 20), .ref (b + 21), .int 0, .ref (b + 22), .ref (b + 23), .ref (b + 24), .ref (b + 25), .ref (b + 26), .ref (b + 27), .int 0, .int 0, .ref (b + 28), .int 0, .ref (b + 29), .ref (b + 30), .ref (b + 31), .ref (b + 32), .ref (b + 33), .ref (b + 34), .ref (b + 35), .ref (b + 36), .ref (b + 37), .ref (b + 38), .ref (b + 39), .ref (b + 40), .null, .null, .null, .null, .null, .int 0, .null, .null, .null, .null, .null, .null, .null, .null, .null, .null] (vc x b vv_TR h0R)) := by
  refine ir_aload_n (q := 687) (v := b + 0) dX12_init_686 rfl rfl ?_
  refine ir_bipush (q := 689) (v := 36) dX12_init_687 rfl (by decide) ?_
  refine ir_newaE (q := 691) (ty := .int) 0 (N := 36) ((ii_O_ne (by decide)).trans rfl) rfl rfl (fun cA => rfl) (fun U cA h => h) iw_2 (by decide) (by decide) (by decide) ⟨Nat.le_of_ble_eq_true rfl, Nat.le_of_ble_eq_true rfl⟩ dX12_init_689 rfl ?_
  refine ir_putO (q := 694) (k := 0) (N := 73) (j := 57) (C := RX12) (Tf := TX12) (ty := .array .int) tyX12 (by decide) rfl (by decide) inX12 tyX12_ok nmX12 (by decide +kernel) rfl rfl rfl rfl (Nat.le_of_ble_eq_true rfl) rfl dX12_init_691 rfl hj7 ?_
  refine ir_aload_n (q := 695) (v := b + 0) dX12_init_694 rfl rfl ?_
  refine ir_bipush (q := 697) (v := 36) dX12_init_695 rfl (by decide) ?_
  refine ir_newaE (q := 699) (ty := .int) 0 (N := 36) ((ii_O_ne (by decide)).trans rfl) rfl rfl (fun cA => rfl) (fun U cA h => h) iw_2 (by decide) (by decide) (by decide) ⟨Nat.le_of_ble_eq_true rfl, Nat.le_of_ble_eq_true rfl⟩ dX12_init_697 rfl ?_
  refine ir_putO (q := 702) (k := 0) (N := 73) (j := 58) (C := RX12) (Tf := TX12) (ty := .array .int) tyX12 (by decide) rfl (by decide) inX12 tyX12_ok nmX12 (by decide +kernel) rfl rfl rfl rfl (Nat.le_of_ble_eq_true rfl) rfl dX12_init_699 rfl hj7 ?_
  refine ir_aload_n (q := 703) (v := b + 0) dX12_init_702 rfl rfl ?_
  refine ir_bipush (q := 705) (v := 36) dX12_init_703 rfl (by decide) ?_
  refine ir_newaE (q := 707) (ty := .boolean) 3 (N := 36) ((ii_O_ne (by decide)).trans rfl) rfl rfl (fun cA => rfl) (fun U cA h => h) iw_5 (by decide) (by decide) (by decide) ⟨Nat.le_of_ble_eq_true rfl, Nat.le_of_ble_eq_true rfl⟩ dX12_init_705 rfl ?_
  refine ir_putO (q := 710) (k := 0) (N := 73) (j := 59) (C := RX12) (Tf := TX12) (ty := .array .boolean) tyX12 (by decide) rfl (by decide) inX12 tyX12_ok nmX12 (by decide +kernel) rfl rfl rfl rfl (Nat.le_of_ble_eq_true rfl) rfl dX12_init_707 rfl hj7 ?_
  refine ir_aload_n (q := 711) (v := b + 0) dX12_init_710 rfl rfl ?_
  refine ir_bipush (q := 713) (v := 36) dX12_init_711 rfl (by decide) ?_
  refine ir_newaE (q := 715) (ty := .boolean) 3 (N := 36) ((ii_O_ne (by decide)).trans rfl) rfl rfl (fun cA => rfl) (fun U cA h => h) iw_5 (by decide) (by decide) (by decide) ⟨Nat.le_of_ble_eq_true rfl, Nat.le_of_ble_eq_true rfl⟩ dX12_init_713 rfl ?_
  refine ir_putO (q := 718) (k := 0) (N := 73) (j := 60) (C := RX12) (Tf := TX12) (ty := .array .boolean) tyX12 (by decide) rfl (by decide) inX12 tyX12_ok nmX12 (by decide +kernel) rfl rfl rfl rfl (Nat.le_of_ble_eq_true rfl) rfl dX12_init_715 rfl hj7 ?_
  refine ir_aload_n (q := 719) (v := b + 0) dX12_init_718 rfl rfl ?_
  refine ir_bipush (q := 721) (v := 12) dX12_init_719 rfl (by decide) ?_
  refine ir_newaE (q := 723) (ty := .int) 0 (N := 12) ((ii_O_ne (by decide)).trans rfl) rfl rfl (fun cA => rfl) (fun U cA h => h) iw_2 (by decide) (by decide) (by decide) ⟨Nat.le_of_ble_eq_true rfl, Nat.le_of_ble_eq_true rfl⟩ dX12_init_721 rfl ?_
  refine ir_putO (q := 726) (k := 0) (N := 73) (j := 61) (C := RX12) (Tf := TX12) (ty := .array .int) tyX12 (by decide) rfl (by decide) inX12 tyX12_ok nmX12 (by decide +kernel) rfl rfl rfl rfl (Nat.le_of_ble_eq_true rfl) rfl dX12_init_723 rfl hj7 ?_
  refine ir_aload_n (q := 727) (v := b + 0) dX12_init_726 rfl rfl ?_
  refine ir_bipush (q := 729) (v := 12) dX12_init_727 rfl (by decide) ?_
  refine ir_newaE (q := 731) (ty := .int) 0 (N := 12) ((ii_O_ne (by decide)).trans rfl) rfl rfl (fun cA => rfl) (fun U cA h => h) iw_2 (by decide) (by decide) (by decide) ⟨Nat.le_of_ble_eq_true rfl, Nat.le_of_ble_eq_true rfl⟩ dX12_init_729 rfl ?_
  refine ir_putO (q := 734) (k := 0) (N := 73) (j := 63) (C := RX12) (Tf := TX12) (ty := .array .int) tyX12 (by decide) rfl (by decide) inX12 tyX12_ok nmX12 (by decide +kernel) rfl rfl rfl rfl (Nat.le_of_ble_eq_true rfl) rfl dX12_init_731 rfl hj7 ?_
  refine ir_aload_n (q := 735) (v := b + 0) dX12_init_734 rfl rfl ?_
  refine ir_bipush (q := 737) (v := 12) dX12_init_735 rfl (by decide) ?_
  refine ir_newaE (q := 739) (ty := .int) 0 (N := 12) ((ii_O_ne (by decide)).trans rfl) rfl rfl (fun cA => rfl) (fun U cA h => h) iw_2 (by decide) (by decide) (by decide) ⟨Nat.le_of_ble_eq_true rfl, Nat.le_of_ble_eq_true rfl⟩ dX12_init_737 rfl ?_
  refine ir_putO (q := 742) (k := 0) (N := 73) (j := 64) (C := RX12) (Tf := TX12) (ty := .array .int) tyX12 (by decide) rfl (by decide) inX12 tyX12_ok nmX12 (by decide +kernel) rfl rfl rfl rfl (Nat.le_of_ble_eq_true rfl) rfl dX12_init_739 rfl hj7 ?_
  refine ir_aload_n (q := 743) (v := b + 0) dX12_init_742 rfl rfl ?_
  refine ir_bipush (q := 745) (v := 12) dX12_init_743 rfl (by decide) ?_
  refine ir_newaE (q := 747) (ty := .int) 0 (N := 12) ((ii_O_ne (by decide)).trans rfl) rfl rfl (fun cA => rfl) (fun U cA h => h) iw_2 (by decide) (by decide) (by decide) ⟨Nat.le_of_ble_eq_true rfl, Nat.le_of_ble_eq_true rfl⟩ dX12_init_745 rfl ?_
  refine ir_putO (q := 750) (k := 0) (N := 73) (j := 65) (C := RX12) (Tf := TX12) (ty := .array .int) tyX12 (by decide) rfl (by decide) inX12 tyX12_ok nmX12 (by decide +kernel) rfl rfl rfl rfl (Nat.le_of_ble_eq_true rfl) rfl dX12_init_747 rfl hj7 ?_
  exact kk
set_option maxHeartbeats 4000000 in
theorem ic_9 (kk : ii_V x b im_X12 55 3749 post 809 [some (.ref (b + 0))] [] 53 3505 54 (ii_O 0 12 [.int 0, .int 0, .ref (b + 1), .ref (b + 2), .ref (b + 3), .ref (b + 4), .int 0, .ref (b + 5), .ref (b + 6), .ref (b + 7), .ref (b + 8), .ref (b + 9), .int 0, .ref (b + 10), .ref (b + 11), .ref (b + 12), .ref (b + 13), .int 0, .int 0, .int 0, .int 0, .int 0, .int 0, .int 0, .int 0, .ref (b + 14), .ref (b + 15), .int 0, .ref (b + 16), .ref (b + 17), .ref (b + 18), .ref (b + 19), .ref (b + 20), .ref (b + 21), .int 0, .ref (b + 22), .ref (b + 23), .ref (b + 24), .ref (b + 25), .ref (b + 26), .ref (b + 27), .int 0, .int 0, .ref (b + 28), .int 0, .ref (b + 29), .ref (b + 30), .ref (b + 31), .ref (b + 32), .ref (b + 33), .ref (b + 34), .ref (b + 35), .ref (b + 36), .ref (b + 37), .ref (b + 38), .ref (b + 39), .ref (b + 40), .ref (b + 41), .ref (b + 42), .ref (b + 43), .ref (b + 44), .ref (b + 45), .int 0, .ref (b + 46), .ref (b + 47), .ref (b + 48), .ref (b + 49), .ref (b + 50), .ref (b + 51), .ref (b + 52), .ref (b + 53), .null, .null] (vc x b vv_TR h0R))) : ii_V x b im_X12 55 3749 post 750 [some (.ref (b + 0))] [] 48 2104 49 (ii_O 0 12 [.int 0, .int 0, .ref (b + 1), .ref (b + 2), .ref (b + 3), .ref (b + 4), .int 0, .ref (b + 5), .ref (b + 6), .ref (b + 7), .ref (b + 8), .ref (b + 9), .int 0, .ref (b + 10), .ref (b + 11), .ref (b + 12), .ref (b + 13), .int 0, .int 0, .int 0, .int 0, .int 0, .int 0, .int 0, .int 0, .ref (b + 14), .ref (b + 15), .int 0, .ref (b + 16), .ref (b + 17), .ref (b + 18), .ref (b + 19), .ref (b + 20), .ref (b + 21), .int 0, .ref (b + 22), .ref (b + 23), .ref (b + 24), .ref (b + 25), .ref (b + 26), .ref (b + 27), .int 0, .int 0, .ref (b + 28), .int 0, .ref (b + 29), .ref (b + 30), .ref (b + 31), .ref (b + 32), .ref (b + 33), .ref (b + 34), .ref (b + 35), .ref (b + 36), .ref (b + 37), .ref (b + 38), .ref (b + 39), .ref (b + 40), .ref (b + 41), .ref (b + 42), .ref (b + 43), .ref (b + 44), .ref (b + 45), .int 0, .ref (b + 46), .ref (b + 47), .ref (b + 48), .null, .null, .null, .null, .null, .null, .null] (vc x b vv_TR h0R)) := by
  refine ir_aload_n (q := 751) (v := b + 0) dX12_init_750 rfl rfl ?_
  refine ir_bipush (q := 753) (v := 12) dX12_init_751 rfl (by decide) ?_
  refine ir_newaE (q := 755) (ty := .int) 0 (N := 12) ((ii_O_ne (by decide)).trans rfl) rfl rfl (fun cA => rfl) (fun U cA h => h) iw_2 (by decide) (by decide) (by decide) ⟨Nat.le_of_ble_eq_true rfl, Nat.le_of_ble_eq_true rfl⟩ dX12_init_753 rfl ?_
  refine ir_putO (q := 758) (k := 0) (N := 73) (j := 66) (C := RX12) (Tf := TX12) (ty := .array .int) tyX12 (by decide) rfl (by decide) inX12 tyX12_ok nmX12 (by decide +kernel) rfl rfl rfl rfl (Nat.le_of_ble_eq_true rfl) rfl dX12_init_755 rfl hj7 ?_
  refine ir_aload_n (q := 759) (v := b + 0) dX12_init_758 rfl rfl ?_
  refine ir_bipush (q := 761) (v := 12) dX12_init_759 rfl (by decide) ?_
  refine ir_newaE (q := 763) (ty := .int) 0 (N := 12) ((ii_O_ne (by decide)).trans rfl) rfl rfl (fun cA => rfl) (fun U cA h => h) iw_2 (by decide) (by decide) (by decide) ⟨Nat.le_of_ble_eq_true rfl, Nat.le_of_ble_eq_true rfl⟩ dX12_init_761 rfl ?_
  refine ir_putO (q := 766) (k := 0) (N := 73) (j := 67) (C := RX12) (Tf := TX12) (ty := .array .int) tyX12 (by decide) rfl (by decide) inX12 tyX12_ok nmX12 (by decide +kernel) rfl rfl rfl rfl (Nat.le_of_ble_eq_true rfl) rfl dX12_init_763 rfl hj7 ?_
  refine ir_aload_n (q := 767) (v := b + 0) dX12_init_766 rfl rfl ?_
  refine ir_iconst (q := 768) (v := 4) dX12_init_767 rfl (by decide) ?_
  refine ir_newaE (q := 770) (ty := .int) 0 (N := 4) ((ii_O_ne (by decide)).trans rfl) rfl rfl (fun cA => rfl) (fun U cA h => h) iw_2 (by decide) (by decide) (by decide) ⟨Nat.le_of_ble_eq_true rfl, Nat.le_of_ble_eq_true rfl⟩ dX12_init_768 rfl ?_
  refine ir_putO (q := 773) (k := 0) (N := 73) (j := 68) (C := RX12) (Tf := TX12) (ty := .array .int) tyX12 (by decide) rfl (by decide) inX12 tyX12_ok nmX12 (by decide +kernel) rfl rfl rfl rfl (Nat.le_of_ble_eq_true rfl) rfl dX12_init_770 rfl hj7 ?_
  refine ir_aload_n (q := 774) (v := b + 0) dX12_init_773 rfl rfl ?_
  refine ir_sipush (q := 777) (v := 1369) dX12_init_774 rfl (by decide) ?_
  refine ir_newaE (q := 779) (ty := .long) 1 (N := 1369) ((ii_O_ne (by decide)).trans rfl) rfl rfl (fun cA => rfl) (fun U cA h => h) iw_3 (by decide) (by decide) (by decide) ⟨Nat.le_of_ble_eq_true rfl, Nat.le_of_ble_eq_true rfl⟩ dX12_init_777 rfl ?_
  refine ir_putO (q := 782) (k := 0) (N := 73) (j := 69) (C := RX12) (Tf := TX12) (ty := .array .long) tyX12 (by decide) rfl (by decide) inX12 tyX12_ok nmX12 (by decide +kernel) rfl rfl rfl rfl (Nat.le_of_ble_eq_true rfl) rfl dX12_init_779 rfl hj7 ?_
  refine ir_aload_n (q := 783) (v := b + 0) dX12_init_782 rfl rfl ?_
  refine ir_iconst (q := 784) (v := 4) dX12_init_783 rfl (by decide) ?_
  refine ir_newaL (q := 786) (N := 4) cf_lane iw_2 (by decide) (by decide) (by decide) ⟨Nat.le_of_ble_eq_true rfl, Nat.le_of_ble_eq_true rfl⟩ dX12_init_784 rfl ?_
  refine ir_dup (q := 787) dX12_init_786 rfl rfl ?_
  refine ir_iconst (q := 788) (v := 0) dX12_init_787 rfl (by decide) ?_
  refine ir_bipush (q := 790) (v := -4) dX12_init_788 rfl (by decide) ?_
  refine ir_iasL (q := 791) (k := 53) (N := 4) (m := 0) (L := cf_lane) (by decide) rfl (by decide) (by decide) rfl dX12_init_790 rfl ?_
  refine ir_dup (q := 792) dX12_init_791 rfl rfl ?_
  refine ir_iconst (q := 793) (v := 1) dX12_init_792 rfl (by decide) ?_
  refine ir_bipush (q := 795) (v := -4) dX12_init_793 rfl (by decide) ?_
  refine ir_iasL (q := 796) (k := 53) (N := 4) (m := 1) (L := cf_lane) (by decide) rfl (by decide) (by decide) rfl dX12_init_795 rfl ?_
  refine ir_dup (q := 797) dX12_init_796 rfl rfl ?_
  refine ir_iconst (q := 798) (v := 2) dX12_init_797 rfl (by decide) ?_
  refine ir_bipush (q := 800) (v := -4) dX12_init_798 rfl (by decide) ?_
  refine ir_iasL (q := 801) (k := 53) (N := 4) (m := 2) (L := cf_lane) (by decide) rfl (by decide) (by decide) rfl dX12_init_800 rfl ?_
  refine ir_dup (q := 802) dX12_init_801 rfl rfl ?_
  refine ir_iconst (q := 803) (v := 3) dX12_init_802 rfl (by decide) ?_
  refine ir_bipush (q := 805) (v := -4) dX12_init_803 rfl (by decide) ?_
  refine ir_iasL (q := 806) (k := 53) (N := 4) (m := 3) (L := cf_lane) (by decide) rfl (by decide) (by decide) rfl dX12_init_805 rfl ?_
  rw [ii_up_id (g := ii_O 0 12 _ _) (show ii_O 0 12 _ _ 53 = la x 4 cf_lane 4 from (ii_O_ne (by decide)).trans rfl)]
  refine ir_putO (q := 809) (k := 0) (N := 73) (j := 70) (C := RX12) (Tf := TX12) (ty := .array .int) tyX12 (by decide) rfl (by decide) inX12 tyX12_ok nmX12 (by decide +kernel) rfl rfl rfl rfl (Nat.le_of_ble_eq_true rfl) rfl dX12_init_806 rfl hj7 ?_
  exact kk
end RCC
set_option maxHeartbeats 4000000 in
theorem ik_X12 {x : vv_E} {b : Nat} : ii_C x b yX12_init im_X12 55 3749 [.ref (b + 0)] 1 (ii_O 0 12 [.int 0, .int 0, .null, .null, .null, .null, .int 0, .null, .null, .null, .null, .null, .int 0, .null, .null, .null, .null, .int 0, .int 0, .int 0, .int 0, .int 0, .int 0, .int 0, .int 0, .null, .null, .int 0, .null, .null, .null, .null, .null, .null, .int 0, .null, .null, .null, .null, .null, .null, .int 0, .int 0, .null, .int 0, .null, .null, .null, .null, .null, .null, .null, .null, .null, .null, .null, .null, .null, .null, .null, .null, .null, .int 0, .null, .null, .null, .null, .null, .null, .null, .null, .null, .null] (vc x b vv_TR h0R)) (fun n1 g1 => n1 = 56 ∧ g1 = vc x b vv_TR h0R) := by
  refine ii_entry (by decide +kernel) rfl rfl (Nat.le_of_ble_eq_true rfl) rfl ?_
  refine ic_0 ?_
  refine ic_1 ?_
  refine ic_2 ?_
  refine ic_3 ?_
  refine ic_4 ?_
  refine ic_5 ?_
  refine ic_6 ?_
  refine ic_7 ?_
  refine ic_8 ?_
  refine ic_9 ?_
  refine ir_aload_n (q := 810) (v := b + 0) dX12_init_809 rfl rfl ?_
  refine ir_iconst (q := 811) (v := 4) dX12_init_810 rfl (by decide) ?_
  refine ir_newaE (q := 813) (ty := .int) 0 (N := 4) ((ii_O_ne (by decide)).trans rfl) rfl rfl (fun cA => rfl) (fun U cA h => h) iw_2 (by decide) (by decide) (by decide) ⟨Nat.le_of_ble_eq_true rfl, Nat.le_of_ble_eq_true rfl⟩ dX12_init_811 rfl ?_
  refine ir_putO (q := 816) (k := 0) (N := 73) (j := 71) (C := RX12) (Tf := TX12) (ty := .array .int) tyX12 (by decide) rfl (by decide) inX12 tyX12_ok nmX12 (by decide +kernel) rfl rfl rfl rfl (Nat.le_of_ble_eq_true rfl) rfl dX12_init_813 rfl hj7 ?_
  refine ir_aload_n (q := 817) (v := b + 0) dX12_init_816 rfl rfl ?_
  refine ir_sipush (q := 820) (v := 240) dX12_init_817 rfl (by decide) ?_
  refine ir_newaE (q := 822) (ty := .int) 0 (N := 240) ((ii_O_ne (by decide)).trans rfl) rfl rfl (fun cA => rfl) (fun U cA h => h) iw_2 (by decide) (by decide) (by decide) ⟨Nat.le_of_ble_eq_true rfl, Nat.le_of_ble_eq_true rfl⟩ dX12_init_820 rfl ?_
  refine ir_putO (q := 825) (k := 0) (N := 73) (j := 72) (C := RX12) (Tf := TX12) (ty := .array .int) tyX12 (by decide) rfl (by decide) inX12 tyX12_ok nmX12 (by decide +kernel) rfl rfl rfl rfl (Nat.le_of_ble_eq_true rfl) rfl dX12_init_822 rfl hj7 ?_
  exact ir_vret dX12_init_825 rfl ⟨rfl, ii_up_id rfl⟩
