theorem dX11_init_0 : decode cX11_init 0 = .ok (.aload_n 0, 1) := by decide +kernel
theorem dX11_init_1 : decode cX11_init 1 = .ok (.invokespecial 1, 3) := by decide +kernel
theorem dX11_init_4 : decode cX11_init 4 = .ok (.aload_n 0, 1) := by decide +kernel
theorem dX11_init_5 : decode cX11_init 5 = .ok (.iconst 3, 1) := by decide +kernel
theorem dX11_init_6 : decode cX11_init 6 = .ok (.newarray .int, 2) := by decide +kernel
theorem dX11_init_8 : decode cX11_init 8 = .ok (.dup, 1) := by decide +kernel
theorem dX11_init_9 : decode cX11_init 9 = .ok (.iconst 0, 1) := by decide +kernel
theorem dX11_init_10 : decode cX11_init 10 = .ok (.iconst 1, 1) := by decide +kernel
theorem dX11_init_11 : decode cX11_init 11 = .ok (.iastore, 1) := by decide +kernel
theorem dX11_init_12 : decode cX11_init 12 = .ok (.dup, 1) := by decide +kernel
theorem dX11_init_13 : decode cX11_init 13 = .ok (.iconst 1, 1) := by decide +kernel
theorem dX11_init_14 : decode cX11_init 14 = .ok (.iconst 1, 1) := by decide +kernel
theorem dX11_init_15 : decode cX11_init 15 = .ok (.iastore, 1) := by decide +kernel
theorem dX11_init_16 : decode cX11_init 16 = .ok (.dup, 1) := by decide +kernel
theorem dX11_init_17 : decode cX11_init 17 = .ok (.iconst 2, 1) := by decide +kernel
theorem dX11_init_18 : decode cX11_init 18 = .ok (.iconst 0, 1) := by decide +kernel
theorem dX11_init_19 : decode cX11_init 19 = .ok (.iastore, 1) := by decide +kernel
theorem dX11_init_20 : decode cX11_init 20 = .ok (.putfield 7, 3) := by decide +kernel
theorem dX11_init_23 : decode cX11_init 23 = .ok (.aload_n 0, 1) := by decide +kernel
theorem dX11_init_24 : decode cX11_init 24 = .ok (.iconst 5, 1) := by decide +kernel
theorem dX11_init_25 : decode cX11_init 25 = .ok (.newarray .int, 2) := by decide +kernel
theorem dX11_init_27 : decode cX11_init 27 = .ok (.putfield 13, 3) := by decide +kernel
theorem dX11_init_30 : decode cX11_init 30 = .ok (.aload_n 0, 1) := by decide +kernel
theorem dX11_init_31 : decode cX11_init 31 = .ok (.bipush 10, 2) := by decide +kernel
theorem dX11_init_33 : decode cX11_init 33 = .ok (.newarray .int, 2) := by decide +kernel
theorem dX11_init_35 : decode cX11_init 35 = .ok (.putfield 16, 3) := by decide +kernel
theorem dX11_init_38 : decode cX11_init 38 = .ok (.aload_n 0, 1) := by decide +kernel
theorem dX11_init_39 : decode cX11_init 39 = .ok (.bipush 10, 2) := by decide +kernel
theorem dX11_init_41 : decode cX11_init 41 = .ok (.newarray .int, 2) := by decide +kernel
theorem dX11_init_43 : decode cX11_init 43 = .ok (.putfield 19, 3) := by decide +kernel
theorem dX11_init_46 : decode cX11_init 46 = .ok (.aload_n 0, 1) := by decide +kernel
theorem dX11_init_47 : decode cX11_init 47 = .ok (.bipush 10, 2) := by decide +kernel
theorem dX11_init_49 : decode cX11_init 49 = .ok (.newarray .int, 2) := by decide +kernel
theorem dX11_init_51 : decode cX11_init 51 = .ok (.putfield 22, 3) := by decide +kernel
theorem dX11_init_54 : decode cX11_init 54 = .ok (.aload_n 0, 1) := by decide +kernel
theorem dX11_init_55 : decode cX11_init 55 = .ok (.bipush 10, 2) := by decide +kernel
theorem dX11_init_57 : decode cX11_init 57 = .ok (.newarray .int, 2) := by decide +kernel
theorem dX11_init_59 : decode cX11_init 59 = .ok (.putfield 25, 3) := by decide +kernel
theorem dX11_init_62 : decode cX11_init 62 = .ok (.aload_n 0, 1) := by decide +kernel
theorem dX11_init_63 : decode cX11_init 63 = .ok (.bipush 10, 2) := by decide +kernel
theorem dX11_init_65 : decode cX11_init 65 = .ok (.newarray .int, 2) := by decide +kernel
theorem dX11_init_67 : decode cX11_init 67 = .ok (.putfield 28, 3) := by decide +kernel
theorem dX11_init_70 : decode cX11_init 70 = .ok (.aload_n 0, 1) := by decide +kernel
theorem dX11_init_71 : decode cX11_init 71 = .ok (.bipush 10, 2) := by decide +kernel
theorem dX11_init_73 : decode cX11_init 73 = .ok (.newarray .int, 2) := by decide +kernel
theorem dX11_init_75 : decode cX11_init 75 = .ok (.putfield 31, 3) := by decide +kernel
theorem dX11_init_78 : decode cX11_init 78 = .ok (.aload_n 0, 1) := by decide +kernel
theorem dX11_init_79 : decode cX11_init 79 = .ok (.sipush 160, 3) := by decide +kernel
theorem dX11_init_82 : decode cX11_init 82 = .ok (.newarray .int, 2) := by decide +kernel
theorem dX11_init_84 : decode cX11_init 84 = .ok (.putfield 34, 3) := by decide +kernel
theorem dX11_init_87 : decode cX11_init 87 = .ok (.aload_n 0, 1) := by decide +kernel
theorem dX11_init_88 : decode cX11_init 88 = .ok (.sipush 1200, 3) := by decide +kernel
theorem dX11_init_91 : decode cX11_init 91 = .ok (.newarray .int, 2) := by decide +kernel
theorem dX11_init_93 : decode cX11_init 93 = .ok (.putfield 37, 3) := by decide +kernel
theorem dX11_init_96 : decode cX11_init 96 = .ok (.aload_n 0, 1) := by decide +kernel
theorem dX11_init_97 : decode cX11_init 97 = .ok (.bipush 24, 2) := by decide +kernel
theorem dX11_init_99 : decode cX11_init 99 = .ok (.newarray .int, 2) := by decide +kernel
theorem dX11_init_101 : decode cX11_init 101 = .ok (.putfield 40, 3) := by decide +kernel
theorem dX11_init_104 : decode cX11_init 104 = .ok (.aload_n 0, 1) := by decide +kernel
theorem dX11_init_105 : decode cX11_init 105 = .ok (.iconst 3, 1) := by decide +kernel
theorem dX11_init_106 : decode cX11_init 106 = .ok (.newarray .int, 2) := by decide +kernel
theorem dX11_init_108 : decode cX11_init 108 = .ok (.putfield 43, 3) := by decide +kernel
theorem dX11_init_111 : decode cX11_init 111 = .ok (.aload_n 0, 1) := by decide +kernel
theorem dX11_init_112 : decode cX11_init 112 = .ok (.iconst 5, 1) := by decide +kernel
theorem dX11_init_113 : decode cX11_init 113 = .ok (.newarray .int, 2) := by decide +kernel
theorem dX11_init_115 : decode cX11_init 115 = .ok (.putfield 46, 3) := by decide +kernel
theorem dX11_init_118 : decode cX11_init 118 = .ok (.aload_n 0, 1) := by decide +kernel
theorem dX11_init_119 : decode cX11_init 119 = .ok (.bipush 10, 2) := by decide +kernel
theorem dX11_init_121 : decode cX11_init 121 = .ok (.newarray .int, 2) := by decide +kernel
theorem dX11_init_123 : decode cX11_init 123 = .ok (.putfield 49, 3) := by decide +kernel
theorem dX11_init_126 : decode cX11_init 126 = .ok (.aload_n 0, 1) := by decide +kernel
theorem dX11_init_127 : decode cX11_init 127 = .ok (.bipush 10, 2) := by decide +kernel
theorem dX11_init_129 : decode cX11_init 129 = .ok (.newarray .int, 2) := by decide +kernel
theorem dX11_init_131 : decode cX11_init 131 = .ok (.putfield 52, 3) := by decide +kernel
theorem dX11_init_134 : decode cX11_init 134 = .ok (.aload_n 0, 1) := by decide +kernel
theorem dX11_init_135 : decode cX11_init 135 = .ok (.iconst 4, 1) := by decide +kernel
theorem dX11_init_136 : decode cX11_init 136 = .ok (.newarray .int, 2) := by decide +kernel
theorem dX11_init_138 : decode cX11_init 138 = .ok (.dup, 1) := by decide +kernel
theorem dX11_init_139 : decode cX11_init 139 = .ok (.iconst 0, 1) := by decide +kernel
theorem dX11_init_140 : decode cX11_init 140 = .ok (.iconst (-1), 1) := by decide +kernel
theorem dX11_init_141 : decode cX11_init 141 = .ok (.iastore, 1) := by decide +kernel
theorem dX11_init_142 : decode cX11_init 142 = .ok (.dup, 1) := by decide +kernel
theorem dX11_init_143 : decode cX11_init 143 = .ok (.iconst 1, 1) := by decide +kernel
theorem dX11_init_144 : decode cX11_init 144 = .ok (.iconst (-1), 1) := by decide +kernel
theorem dX11_init_145 : decode cX11_init 145 = .ok (.iastore, 1) := by decide +kernel
theorem dX11_init_146 : decode cX11_init 146 = .ok (.dup, 1) := by decide +kernel
theorem dX11_init_147 : decode cX11_init 147 = .ok (.iconst 2, 1) := by decide +kernel
theorem dX11_init_148 : decode cX11_init 148 = .ok (.iconst (-1), 1) := by decide +kernel
theorem dX11_init_149 : decode cX11_init 149 = .ok (.iastore, 1) := by decide +kernel
theorem dX11_init_150 : decode cX11_init 150 = .ok (.dup, 1) := by decide +kernel
theorem dX11_init_151 : decode cX11_init 151 = .ok (.iconst 3, 1) := by decide +kernel
theorem dX11_init_152 : decode cX11_init 152 = .ok (.iconst (-1), 1) := by decide +kernel
theorem dX11_init_153 : decode cX11_init 153 = .ok (.iastore, 1) := by decide +kernel
theorem dX11_init_154 : decode cX11_init 154 = .ok (.putfield 55, 3) := by decide +kernel
theorem dX11_init_157 : decode cX11_init 157 = .ok (.aload_n 0, 1) := by decide +kernel
theorem dX11_init_158 : decode cX11_init 158 = .ok (.iconst 4, 1) := by decide +kernel
theorem dX11_init_159 : decode cX11_init 159 = .ok (.newarray .int, 2) := by decide +kernel
theorem dX11_init_161 : decode cX11_init 161 = .ok (.putfield 58, 3) := by decide +kernel
theorem dX11_init_164 : decode cX11_init 164 = .ok (.aload_n 0, 1) := by decide +kernel
theorem dX11_init_165 : decode cX11_init 165 = .ok (.sipush 160, 3) := by decide +kernel
theorem dX11_init_168 : decode cX11_init 168 = .ok (.newarray .int, 2) := by decide +kernel
theorem dX11_init_170 : decode cX11_init 170 = .ok (.putfield 61, 3) := by decide +kernel
theorem dX11_init_173 : decode cX11_init 173 = .ok (.aload_n 0, 1) := by decide +kernel
theorem dX11_init_174 : decode cX11_init 174 = .ok (.bipush 34, 2) := by decide +kernel
theorem dX11_init_176 : decode cX11_init 176 = .ok (.newarray .int, 2) := by decide +kernel
theorem dX11_init_178 : decode cX11_init 178 = .ok (.dup, 1) := by decide +kernel
theorem dX11_init_179 : decode cX11_init 179 = .ok (.iconst 0, 1) := by decide +kernel
theorem dX11_init_180 : decode cX11_init 180 = .ok (.bipush 109, 2) := by decide +kernel
theorem dX11_init_182 : decode cX11_init 182 = .ok (.iastore, 1) := by decide +kernel
theorem dX11_init_183 : decode cX11_init 183 = .ok (.dup, 1) := by decide +kernel
theorem dX11_init_184 : decode cX11_init 184 = .ok (.iconst 1, 1) := by decide +kernel
theorem dX11_init_185 : decode cX11_init 185 = .ok (.bipush 97, 2) := by decide +kernel
theorem dX11_init_187 : decode cX11_init 187 = .ok (.iastore, 1) := by decide +kernel
theorem dX11_init_188 : decode cX11_init 188 = .ok (.dup, 1) := by decide +kernel
theorem dX11_init_189 : decode cX11_init 189 = .ok (.iconst 2, 1) := by decide +kernel
theorem dX11_init_190 : decode cX11_init 190 = .ok (.bipush 121, 2) := by decide +kernel
theorem dX11_init_192 : decode cX11_init 192 = .ok (.iastore, 1) := by decide +kernel
theorem dX11_init_193 : decode cX11_init 193 = .ok (.dup, 1) := by decide +kernel
theorem dX11_init_194 : decode cX11_init 194 = .ok (.iconst 3, 1) := by decide +kernel
theorem dX11_init_195 : decode cX11_init 195 = .ok (.bipush 32, 2) := by decide +kernel
theorem dX11_init_197 : decode cX11_init 197 = .ok (.iastore, 1) := by decide +kernel
theorem dX11_init_198 : decode cX11_init 198 = .ok (.dup, 1) := by decide +kernel
theorem dX11_init_199 : decode cX11_init 199 = .ok (.iconst 4, 1) := by decide +kernel
theorem dX11_init_200 : decode cX11_init 200 = .ok (.bipush 49, 2) := by decide +kernel
theorem dX11_init_202 : decode cX11_init 202 = .ok (.iastore, 1) := by decide +kernel
theorem dX11_init_203 : decode cX11_init 203 = .ok (.dup, 1) := by decide +kernel
theorem dX11_init_204 : decode cX11_init 204 = .ok (.iconst 5, 1) := by decide +kernel
theorem dX11_init_205 : decode cX11_init 205 = .ok (.bipush 32, 2) := by decide +kernel
theorem dX11_init_207 : decode cX11_init 207 = .ok (.iastore, 1) := by decide +kernel
theorem dX11_init_208 : decode cX11_init 208 = .ok (.dup, 1) := by decide +kernel
theorem dX11_init_209 : decode cX11_init 209 = .ok (.bipush 6, 2) := by decide +kernel
theorem dX11_init_211 : decode cX11_init 211 = .ok (.bipush 59, 2) := by decide +kernel
theorem dX11_init_213 : decode cX11_init 213 = .ok (.iastore, 1) := by decide +kernel
theorem dX11_init_214 : decode cX11_init 214 = .ok (.dup, 1) := by decide +kernel
theorem dX11_init_215 : decode cX11_init 215 = .ok (.bipush 7, 2) := by decide +kernel
theorem dX11_init_217 : decode cX11_init 217 = .ok (.bipush 32, 2) := by decide +kernel
theorem dX11_init_219 : decode cX11_init 219 = .ok (.iastore, 1) := by decide +kernel
theorem dX11_init_220 : decode cX11_init 220 = .ok (.dup, 1) := by decide +kernel
theorem dX11_init_221 : decode cX11_init 221 = .ok (.bipush 8, 2) := by decide +kernel
theorem dX11_init_223 : decode cX11_init 223 = .ok (.bipush 102, 2) := by decide +kernel
theorem dX11_init_225 : decode cX11_init 225 = .ok (.iastore, 1) := by decide +kernel
theorem dX11_init_226 : decode cX11_init 226 = .ok (.dup, 1) := by decide +kernel
theorem dX11_init_227 : decode cX11_init 227 = .ok (.bipush 9, 2) := by decide +kernel
theorem dX11_init_229 : decode cX11_init 229 = .ok (.bipush 105, 2) := by decide +kernel
theorem dX11_init_231 : decode cX11_init 231 = .ok (.iastore, 1) := by decide +kernel
theorem dX11_init_232 : decode cX11_init 232 = .ok (.dup, 1) := by decide +kernel
theorem dX11_init_233 : decode cX11_init 233 = .ok (.bipush 10, 2) := by decide +kernel
theorem dX11_init_235 : decode cX11_init 235 = .ok (.bipush 110, 2) := by decide +kernel
theorem dX11_init_237 : decode cX11_init 237 = .ok (.iastore, 1) := by decide +kernel
theorem dX11_init_238 : decode cX11_init 238 = .ok (.dup, 1) := by decide +kernel
theorem dX11_init_239 : decode cX11_init 239 = .ok (.bipush 11, 2) := by decide +kernel
theorem dX11_init_241 : decode cX11_init 241 = .ok (.bipush 101, 2) := by decide +kernel
theorem dX11_init_243 : decode cX11_init 243 = .ok (.iastore, 1) := by decide +kernel
theorem dX11_init_244 : decode cX11_init 244 = .ok (.dup, 1) := by decide +kernel
theorem dX11_init_245 : decode cX11_init 245 = .ok (.bipush 12, 2) := by decide +kernel
theorem dX11_init_247 : decode cX11_init 247 = .ok (.bipush 32, 2) := by decide +kernel
theorem dX11_init_249 : decode cX11_init 249 = .ok (.iastore, 1) := by decide +kernel
theorem dX11_init_250 : decode cX11_init 250 = .ok (.dup, 1) := by decide +kernel
theorem dX11_init_251 : decode cX11_init 251 = .ok (.bipush 13, 2) := by decide +kernel
theorem dX11_init_253 : decode cX11_init 253 = .ok (.bipush 111, 2) := by decide +kernel
theorem dX11_init_255 : decode cX11_init 255 = .ok (.iastore, 1) := by decide +kernel
theorem dX11_init_256 : decode cX11_init 256 = .ok (.dup, 1) := by decide +kernel
theorem dX11_init_257 : decode cX11_init 257 = .ok (.bipush 14, 2) := by decide +kernel
theorem dX11_init_259 : decode cX11_init 259 = .ok (.bipush 102, 2) := by decide +kernel
theorem dX11_init_261 : decode cX11_init 261 = .ok (.iastore, 1) := by decide +kernel
theorem dX11_init_262 : decode cX11_init 262 = .ok (.dup, 1) := by decide +kernel
theorem dX11_init_263 : decode cX11_init 263 = .ok (.bipush 15, 2) := by decide +kernel
theorem dX11_init_265 : decode cX11_init 265 = .ok (.bipush 102, 2) := by decide +kernel
theorem dX11_init_267 : decode cX11_init 267 = .ok (.iastore, 1) := by decide +kernel
theorem dX11_init_268 : decode cX11_init 268 = .ok (.dup, 1) := by decide +kernel
theorem dX11_init_269 : decode cX11_init 269 = .ok (.bipush 16, 2) := by decide +kernel
theorem dX11_init_271 : decode cX11_init 271 = .ok (.bipush 32, 2) := by decide +kernel
theorem dX11_init_273 : decode cX11_init 273 = .ok (.iastore, 1) := by decide +kernel
theorem dX11_init_274 : decode cX11_init 274 = .ok (.dup, 1) := by decide +kernel
theorem dX11_init_275 : decode cX11_init 275 = .ok (.bipush 17, 2) := by decide +kernel
theorem dX11_init_277 : decode cX11_init 277 = .ok (.bipush 42, 2) := by decide +kernel
theorem dX11_init_279 : decode cX11_init 279 = .ok (.iastore, 1) := by decide +kernel
theorem dX11_init_280 : decode cX11_init 280 = .ok (.dup, 1) := by decide +kernel
theorem dX11_init_281 : decode cX11_init 281 = .ok (.bipush 18, 2) := by decide +kernel
theorem dX11_init_283 : decode cX11_init 283 = .ok (.bipush 32, 2) := by decide +kernel
theorem dX11_init_285 : decode cX11_init 285 = .ok (.iastore, 1) := by decide +kernel
theorem dX11_init_286 : decode cX11_init 286 = .ok (.dup, 1) := by decide +kernel
theorem dX11_init_287 : decode cX11_init 287 = .ok (.bipush 19, 2) := by decide +kernel
theorem dX11_init_289 : decode cX11_init 289 = .ok (.bipush 50, 2) := by decide +kernel
theorem dX11_init_291 : decode cX11_init 291 = .ok (.iastore, 1) := by decide +kernel
theorem dX11_init_292 : decode cX11_init 292 = .ok (.dup, 1) := by decide +kernel
theorem dX11_init_293 : decode cX11_init 293 = .ok (.bipush 20, 2) := by decide +kernel
theorem dX11_init_295 : decode cX11_init 295 = .ok (.bipush 32, 2) := by decide +kernel
theorem dX11_init_297 : decode cX11_init 297 = .ok (.iastore, 1) := by decide +kernel
theorem dX11_init_298 : decode cX11_init 298 = .ok (.dup, 1) := by decide +kernel
theorem dX11_init_299 : decode cX11_init 299 = .ok (.bipush 21, 2) := by decide +kernel
theorem dX11_init_301 : decode cX11_init 301 = .ok (.bipush 59, 2) := by decide +kernel
theorem dX11_init_303 : decode cX11_init 303 = .ok (.iastore, 1) := by decide +kernel
theorem dX11_init_304 : decode cX11_init 304 = .ok (.dup, 1) := by decide +kernel
theorem dX11_init_305 : decode cX11_init 305 = .ok (.bipush 22, 2) := by decide +kernel
theorem dX11_init_307 : decode cX11_init 307 = .ok (.bipush 32, 2) := by decide +kernel
theorem dX11_init_309 : decode cX11_init 309 = .ok (.iastore, 1) := by decide +kernel
theorem dX11_init_310 : decode cX11_init 310 = .ok (.dup, 1) := by decide +kernel
theorem dX11_init_311 : decode cX11_init 311 = .ok (.bipush 23, 2) := by decide +kernel
theorem dX11_init_313 : decode cX11_init 313 = .ok (.bipush 116, 2) := by decide +kernel
theorem dX11_init_315 : decode cX11_init 315 = .ok (.iastore, 1) := by decide +kernel
theorem dX11_init_316 : decode cX11_init 316 = .ok (.dup, 1) := by decide +kernel
theorem dX11_init_317 : decode cX11_init 317 = .ok (.bipush 24, 2) := by decide +kernel
theorem dX11_init_319 : decode cX11_init 319 = .ok (.bipush 111, 2) := by decide +kernel
theorem dX11_init_321 : decode cX11_init 321 = .ok (.iastore, 1) := by decide +kernel
theorem dX11_init_322 : decode cX11_init 322 = .ok (.dup, 1) := by decide +kernel
theorem dX11_init_323 : decode cX11_init 323 = .ok (.bipush 25, 2) := by decide +kernel
theorem dX11_init_325 : decode cX11_init 325 = .ok (.bipush 108, 2) := by decide +kernel
theorem dX11_init_327 : decode cX11_init 327 = .ok (.iastore, 1) := by decide +kernel
theorem dX11_init_328 : decode cX11_init 328 = .ok (.dup, 1) := by decide +kernel
theorem dX11_init_329 : decode cX11_init 329 = .ok (.bipush 26, 2) := by decide +kernel
theorem dX11_init_331 : decode cX11_init 331 = .ok (.bipush 108, 2) := by decide +kernel
theorem dX11_init_333 : decode cX11_init 333 = .ok (.iastore, 1) := by decide +kernel
theorem dX11_init_334 : decode cX11_init 334 = .ok (.dup, 1) := by decide +kernel
theorem dX11_init_335 : decode cX11_init 335 = .ok (.bipush 27, 2) := by decide +kernel
theorem dX11_init_337 : decode cX11_init 337 = .ok (.bipush 32, 2) := by decide +kernel
theorem dX11_init_339 : decode cX11_init 339 = .ok (.iastore, 1) := by decide +kernel
theorem dX11_init_340 : decode cX11_init 340 = .ok (.dup, 1) := by decide +kernel
theorem dX11_init_341 : decode cX11_init 341 = .ok (.bipush 28, 2) := by decide +kernel
theorem dX11_init_343 : decode cX11_init 343 = .ok (.bipush 104, 2) := by decide +kernel
theorem dX11_init_345 : decode cX11_init 345 = .ok (.iastore, 1) := by decide +kernel
theorem dX11_init_346 : decode cX11_init 346 = .ok (.dup, 1) := by decide +kernel
theorem dX11_init_347 : decode cX11_init 347 = .ok (.bipush 29, 2) := by decide +kernel
theorem dX11_init_349 : decode cX11_init 349 = .ok (.bipush 111, 2) := by decide +kernel
theorem dX11_init_351 : decode cX11_init 351 = .ok (.iastore, 1) := by decide +kernel
theorem dX11_init_352 : decode cX11_init 352 = .ok (.dup, 1) := by decide +kernel
theorem dX11_init_353 : decode cX11_init 353 = .ok (.bipush 30, 2) := by decide +kernel
theorem dX11_init_355 : decode cX11_init 355 = .ok (.bipush 117, 2) := by decide +kernel
theorem dX11_init_357 : decode cX11_init 357 = .ok (.iastore, 1) := by decide +kernel
theorem dX11_init_358 : decode cX11_init 358 = .ok (.dup, 1) := by decide +kernel
theorem dX11_init_359 : decode cX11_init 359 = .ok (.bipush 31, 2) := by decide +kernel
theorem dX11_init_361 : decode cX11_init 361 = .ok (.bipush 114, 2) := by decide +kernel
theorem dX11_init_363 : decode cX11_init 363 = .ok (.iastore, 1) := by decide +kernel
theorem dX11_init_364 : decode cX11_init 364 = .ok (.dup, 1) := by decide +kernel
theorem dX11_init_365 : decode cX11_init 365 = .ok (.bipush 32, 2) := by decide +kernel
theorem dX11_init_367 : decode cX11_init 367 = .ok (.bipush 32, 2) := by decide +kernel
theorem dX11_init_369 : decode cX11_init 369 = .ok (.iastore, 1) := by decide +kernel
theorem dX11_init_370 : decode cX11_init 370 = .ok (.dup, 1) := by decide +kernel
theorem dX11_init_371 : decode cX11_init 371 = .ok (.bipush 33, 2) := by decide +kernel
theorem dX11_init_373 : decode cX11_init 373 = .ok (.bipush 59, 2) := by decide +kernel
theorem dX11_init_375 : decode cX11_init 375 = .ok (.iastore, 1) := by decide +kernel
theorem dX11_init_376 : decode cX11_init 376 = .ok (.putfield 64, 3) := by decide +kernel
theorem dX11_init_379 : decode cX11_init 379 = .ok (.aload_n 0, 1) := by decide +kernel
theorem dX11_init_380 : decode cX11_init 380 = .ok (.bipush 96, 2) := by decide +kernel
theorem dX11_init_382 : decode cX11_init 382 = .ok (.newarray .int, 2) := by decide +kernel
theorem dX11_init_384 : decode cX11_init 384 = .ok (.dup, 1) := by decide +kernel
theorem dX11_init_385 : decode cX11_init 385 = .ok (.iconst 0, 1) := by decide +kernel
theorem dX11_init_386 : decode cX11_init 386 = .ok (.bipush 109, 2) := by decide +kernel
theorem dX11_init_388 : decode cX11_init 388 = .ok (.iastore, 1) := by decide +kernel
theorem dX11_init_389 : decode cX11_init 389 = .ok (.dup, 1) := by decide +kernel
theorem dX11_init_390 : decode cX11_init 390 = .ok (.iconst 1, 1) := by decide +kernel
theorem dX11_init_391 : decode cX11_init 391 = .ok (.bipush 97, 2) := by decide +kernel
theorem dX11_init_393 : decode cX11_init 393 = .ok (.iastore, 1) := by decide +kernel
theorem dX11_init_394 : decode cX11_init 394 = .ok (.dup, 1) := by decide +kernel
theorem dX11_init_395 : decode cX11_init 395 = .ok (.iconst 2, 1) := by decide +kernel
theorem dX11_init_396 : decode cX11_init 396 = .ok (.bipush 121, 2) := by decide +kernel
theorem dX11_init_398 : decode cX11_init 398 = .ok (.iastore, 1) := by decide +kernel
theorem dX11_init_399 : decode cX11_init 399 = .ok (.dup, 1) := by decide +kernel
theorem dX11_init_400 : decode cX11_init 400 = .ok (.iconst 3, 1) := by decide +kernel
theorem dX11_init_401 : decode cX11_init 401 = .ok (.bipush 32, 2) := by decide +kernel
theorem dX11_init_403 : decode cX11_init 403 = .ok (.iastore, 1) := by decide +kernel
theorem dX11_init_404 : decode cX11_init 404 = .ok (.dup, 1) := by decide +kernel
theorem dX11_init_405 : decode cX11_init 405 = .ok (.iconst 4, 1) := by decide +kernel
theorem dX11_init_406 : decode cX11_init 406 = .ok (.bipush 32, 2) := by decide +kernel
theorem dX11_init_408 : decode cX11_init 408 = .ok (.iastore, 1) := by decide +kernel
theorem dX11_init_409 : decode cX11_init 409 = .ok (.dup, 1) := by decide +kernel
theorem dX11_init_410 : decode cX11_init 410 = .ok (.iconst 5, 1) := by decide +kernel
theorem dX11_init_411 : decode cX11_init 411 = .ok (.bipush 32, 2) := by decide +kernel
theorem dX11_init_413 : decode cX11_init 413 = .ok (.iastore, 1) := by decide +kernel
theorem dX11_init_414 : decode cX11_init 414 = .ok (.dup, 1) := by decide +kernel
theorem dX11_init_415 : decode cX11_init 415 = .ok (.bipush 6, 2) := by decide +kernel
theorem dX11_init_417 : decode cX11_init 417 = .ok (.bipush 32, 2) := by decide +kernel
theorem dX11_init_419 : decode cX11_init 419 = .ok (.iastore, 1) := by decide +kernel
theorem dX11_init_420 : decode cX11_init 420 = .ok (.dup, 1) := by decide +kernel
theorem dX11_init_421 : decode cX11_init 421 = .ok (.bipush 7, 2) := by decide +kernel
theorem dX11_init_423 : decode cX11_init 423 = .ok (.bipush 32, 2) := by decide +kernel
theorem dX11_init_425 : decode cX11_init 425 = .ok (.iastore, 1) := by decide +kernel
theorem dX11_init_426 : decode cX11_init 426 = .ok (.dup, 1) := by decide +kernel
theorem dX11_init_427 : decode cX11_init 427 = .ok (.bipush 8, 2) := by decide +kernel
theorem dX11_init_429 : decode cX11_init 429 = .ok (.bipush 102, 2) := by decide +kernel
theorem dX11_init_431 : decode cX11_init 431 = .ok (.iastore, 1) := by decide +kernel
theorem dX11_init_432 : decode cX11_init 432 = .ok (.dup, 1) := by decide +kernel
theorem dX11_init_433 : decode cX11_init 433 = .ok (.bipush 9, 2) := by decide +kernel
theorem dX11_init_435 : decode cX11_init 435 = .ok (.bipush 105, 2) := by decide +kernel
theorem dX11_init_437 : decode cX11_init 437 = .ok (.iastore, 1) := by decide +kernel
theorem dX11_init_438 : decode cX11_init 438 = .ok (.dup, 1) := by decide +kernel
theorem dX11_init_439 : decode cX11_init 439 = .ok (.bipush 10, 2) := by decide +kernel
theorem dX11_init_441 : decode cX11_init 441 = .ok (.bipush 110, 2) := by decide +kernel
theorem dX11_init_443 : decode cX11_init 443 = .ok (.iastore, 1) := by decide +kernel
theorem dX11_init_444 : decode cX11_init 444 = .ok (.dup, 1) := by decide +kernel
theorem dX11_init_445 : decode cX11_init 445 = .ok (.bipush 11, 2) := by decide +kernel
theorem dX11_init_447 : decode cX11_init 447 = .ok (.bipush 101, 2) := by decide +kernel
theorem dX11_init_449 : decode cX11_init 449 = .ok (.iastore, 1) := by decide +kernel
theorem dX11_init_450 : decode cX11_init 450 = .ok (.dup, 1) := by decide +kernel
theorem dX11_init_451 : decode cX11_init 451 = .ok (.bipush 12, 2) := by decide +kernel
theorem dX11_init_453 : decode cX11_init 453 = .ok (.bipush 32, 2) := by decide +kernel
theorem dX11_init_455 : decode cX11_init 455 = .ok (.iastore, 1) := by decide +kernel
theorem dX11_init_456 : decode cX11_init 456 = .ok (.dup, 1) := by decide +kernel
theorem dX11_init_457 : decode cX11_init 457 = .ok (.bipush 13, 2) := by decide +kernel
theorem dX11_init_459 : decode cX11_init 459 = .ok (.bipush 32, 2) := by decide +kernel
theorem dX11_init_461 : decode cX11_init 461 = .ok (.iastore, 1) := by decide +kernel
theorem dX11_init_462 : decode cX11_init 462 = .ok (.dup, 1) := by decide +kernel
theorem dX11_init_463 : decode cX11_init 463 = .ok (.bipush 14, 2) := by decide +kernel
theorem dX11_init_465 : decode cX11_init 465 = .ok (.bipush 32, 2) := by decide +kernel
theorem dX11_init_467 : decode cX11_init 467 = .ok (.iastore, 1) := by decide +kernel
theorem dX11_init_468 : decode cX11_init 468 = .ok (.dup, 1) := by decide +kernel
theorem dX11_init_469 : decode cX11_init 469 = .ok (.bipush 15, 2) := by decide +kernel
theorem dX11_init_471 : decode cX11_init 471 = .ok (.bipush 32, 2) := by decide +kernel
theorem dX11_init_473 : decode cX11_init 473 = .ok (.iastore, 1) := by decide +kernel
theorem dX11_init_474 : decode cX11_init 474 = .ok (.dup, 1) := by decide +kernel
theorem dX11_init_475 : decode cX11_init 475 = .ok (.bipush 16, 2) := by decide +kernel
theorem dX11_init_477 : decode cX11_init 477 = .ok (.bipush 116, 2) := by decide +kernel
theorem dX11_init_479 : decode cX11_init 479 = .ok (.iastore, 1) := by decide +kernel
theorem dX11_init_480 : decode cX11_init 480 = .ok (.dup, 1) := by decide +kernel
theorem dX11_init_481 : decode cX11_init 481 = .ok (.bipush 17, 2) := by decide +kernel
theorem dX11_init_483 : decode cX11_init 483 = .ok (.bipush 111, 2) := by decide +kernel
theorem dX11_init_485 : decode cX11_init 485 = .ok (.iastore, 1) := by decide +kernel
theorem dX11_init_486 : decode cX11_init 486 = .ok (.dup, 1) := by decide +kernel
theorem dX11_init_487 : decode cX11_init 487 = .ok (.bipush 18, 2) := by decide +kernel
theorem dX11_init_489 : decode cX11_init 489 = .ok (.bipush 108, 2) := by decide +kernel
theorem dX11_init_491 : decode cX11_init 491 = .ok (.iastore, 1) := by decide +kernel
theorem dX11_init_492 : decode cX11_init 492 = .ok (.dup, 1) := by decide +kernel
theorem dX11_init_493 : decode cX11_init 493 = .ok (.bipush 19, 2) := by decide +kernel
theorem dX11_init_495 : decode cX11_init 495 = .ok (.bipush 108, 2) := by decide +kernel
theorem dX11_init_497 : decode cX11_init 497 = .ok (.iastore, 1) := by decide +kernel
theorem dX11_init_498 : decode cX11_init 498 = .ok (.dup, 1) := by decide +kernel
theorem dX11_init_499 : decode cX11_init 499 = .ok (.bipush 20, 2) := by decide +kernel
theorem dX11_init_501 : decode cX11_init 501 = .ok (.bipush 32, 2) := by decide +kernel
theorem dX11_init_503 : decode cX11_init 503 = .ok (.iastore, 1) := by decide +kernel
theorem dX11_init_504 : decode cX11_init 504 = .ok (.dup, 1) := by decide +kernel
theorem dX11_init_505 : decode cX11_init 505 = .ok (.bipush 21, 2) := by decide +kernel
theorem dX11_init_507 : decode cX11_init 507 = .ok (.bipush 32, 2) := by decide +kernel
theorem dX11_init_509 : decode cX11_init 509 = .ok (.iastore, 1) := by decide +kernel
theorem dX11_init_510 : decode cX11_init 510 = .ok (.dup, 1) := by decide +kernel
theorem dX11_init_511 : decode cX11_init 511 = .ok (.bipush 22, 2) := by decide +kernel
theorem dX11_init_513 : decode cX11_init 513 = .ok (.bipush 32, 2) := by decide +kernel
theorem dX11_init_515 : decode cX11_init 515 = .ok (.iastore, 1) := by decide +kernel
theorem dX11_init_516 : decode cX11_init 516 = .ok (.dup, 1) := by decide +kernel
theorem dX11_init_517 : decode cX11_init 517 = .ok (.bipush 23, 2) := by decide +kernel
theorem dX11_init_519 : decode cX11_init 519 = .ok (.bipush 32, 2) := by decide +kernel
theorem dX11_init_521 : decode cX11_init 521 = .ok (.iastore, 1) := by decide +kernel
theorem dX11_init_522 : decode cX11_init 522 = .ok (.dup, 1) := by decide +kernel
theorem dX11_init_523 : decode cX11_init 523 = .ok (.bipush 24, 2) := by decide +kernel
theorem dX11_init_525 : decode cX11_init 525 = .ok (.bipush 105, 2) := by decide +kernel
theorem dX11_init_527 : decode cX11_init 527 = .ok (.iastore, 1) := by decide +kernel
theorem dX11_init_528 : decode cX11_init 528 = .ok (.dup, 1) := by decide +kernel
theorem dX11_init_529 : decode cX11_init 529 = .ok (.bipush 25, 2) := by decide +kernel
theorem dX11_init_531 : decode cX11_init 531 = .ok (.bipush 110, 2) := by decide +kernel
theorem dX11_init_533 : decode cX11_init 533 = .ok (.iastore, 1) := by decide +kernel
theorem dX11_init_534 : decode cX11_init 534 = .ok (.dup, 1) := by decide +kernel
theorem dX11_init_535 : decode cX11_init 535 = .ok (.bipush 26, 2) := by decide +kernel
theorem dX11_init_537 : decode cX11_init 537 = .ok (.bipush 32, 2) := by decide +kernel
theorem dX11_init_539 : decode cX11_init 539 = .ok (.iastore, 1) := by decide +kernel
theorem dX11_init_540 : decode cX11_init 540 = .ok (.dup, 1) := by decide +kernel
theorem dX11_init_541 : decode cX11_init 541 = .ok (.bipush 27, 2) := by decide +kernel
theorem dX11_init_543 : decode cX11_init 543 = .ok (.bipush 32, 2) := by decide +kernel
theorem dX11_init_545 : decode cX11_init 545 = .ok (.iastore, 1) := by decide +kernel
theorem dX11_init_546 : decode cX11_init 546 = .ok (.dup, 1) := by decide +kernel
theorem dX11_init_547 : decode cX11_init 547 = .ok (.bipush 28, 2) := by decide +kernel
theorem dX11_init_549 : decode cX11_init 549 = .ok (.bipush 32, 2) := by decide +kernel
theorem dX11_init_551 : decode cX11_init 551 = .ok (.iastore, 1) := by decide +kernel
theorem dX11_init_552 : decode cX11_init 552 = .ok (.dup, 1) := by decide +kernel
theorem dX11_init_553 : decode cX11_init 553 = .ok (.bipush 29, 2) := by decide +kernel
theorem dX11_init_555 : decode cX11_init 555 = .ok (.bipush 32, 2) := by decide +kernel
theorem dX11_init_557 : decode cX11_init 557 = .ok (.iastore, 1) := by decide +kernel
theorem dX11_init_558 : decode cX11_init 558 = .ok (.dup, 1) := by decide +kernel
theorem dX11_init_559 : decode cX11_init 559 = .ok (.bipush 30, 2) := by decide +kernel
theorem dX11_init_561 : decode cX11_init 561 = .ok (.bipush 32, 2) := by decide +kernel
theorem dX11_init_563 : decode cX11_init 563 = .ok (.iastore, 1) := by decide +kernel
theorem dX11_init_564 : decode cX11_init 564 = .ok (.dup, 1) := by decide +kernel
theorem dX11_init_565 : decode cX11_init 565 = .ok (.bipush 31, 2) := by decide +kernel
theorem dX11_init_567 : decode cX11_init 567 = .ok (.bipush 32, 2) := by decide +kernel
theorem dX11_init_569 : decode cX11_init 569 = .ok (.iastore, 1) := by decide +kernel
theorem dX11_init_570 : decode cX11_init 570 = .ok (.dup, 1) := by decide +kernel
theorem dX11_init_571 : decode cX11_init 571 = .ok (.bipush 32, 2) := by decide +kernel
theorem dX11_init_573 : decode cX11_init 573 = .ok (.bipush 111, 2) := by decide +kernel
theorem dX11_init_575 : decode cX11_init 575 = .ok (.iastore, 1) := by decide +kernel
theorem dX11_init_576 : decode cX11_init 576 = .ok (.dup, 1) := by decide +kernel
theorem dX11_init_577 : decode cX11_init 577 = .ok (.bipush 33, 2) := by decide +kernel
theorem dX11_init_579 : decode cX11_init 579 = .ok (.bipush 117, 2) := by decide +kernel
theorem dX11_init_581 : decode cX11_init 581 = .ok (.iastore, 1) := by decide +kernel
theorem dX11_init_582 : decode cX11_init 582 = .ok (.dup, 1) := by decide +kernel
theorem dX11_init_583 : decode cX11_init 583 = .ok (.bipush 34, 2) := by decide +kernel
theorem dX11_init_585 : decode cX11_init 585 = .ok (.bipush 116, 2) := by decide +kernel
theorem dX11_init_587 : decode cX11_init 587 = .ok (.iastore, 1) := by decide +kernel
theorem dX11_init_588 : decode cX11_init 588 = .ok (.dup, 1) := by decide +kernel
theorem dX11_init_589 : decode cX11_init 589 = .ok (.bipush 35, 2) := by decide +kernel
theorem dX11_init_591 : decode cX11_init 591 = .ok (.bipush 32, 2) := by decide +kernel
theorem dX11_init_593 : decode cX11_init 593 = .ok (.iastore, 1) := by decide +kernel
theorem dX11_init_594 : decode cX11_init 594 = .ok (.dup, 1) := by decide +kernel
theorem dX11_init_595 : decode cX11_init 595 = .ok (.bipush 36, 2) := by decide +kernel
theorem dX11_init_597 : decode cX11_init 597 = .ok (.bipush 32, 2) := by decide +kernel
theorem dX11_init_599 : decode cX11_init 599 = .ok (.iastore, 1) := by decide +kernel
theorem dX11_init_600 : decode cX11_init 600 = .ok (.dup, 1) := by decide +kernel
theorem dX11_init_601 : decode cX11_init 601 = .ok (.bipush 37, 2) := by decide +kernel
theorem dX11_init_603 : decode cX11_init 603 = .ok (.bipush 32, 2) := by decide +kernel
theorem dX11_init_605 : decode cX11_init 605 = .ok (.iastore, 1) := by decide +kernel
theorem dX11_init_606 : decode cX11_init 606 = .ok (.dup, 1) := by decide +kernel
theorem dX11_init_607 : decode cX11_init 607 = .ok (.bipush 38, 2) := by decide +kernel
theorem dX11_init_609 : decode cX11_init 609 = .ok (.bipush 32, 2) := by decide +kernel
theorem dX11_init_611 : decode cX11_init 611 = .ok (.iastore, 1) := by decide +kernel
theorem dX11_init_612 : decode cX11_init 612 = .ok (.dup, 1) := by decide +kernel
theorem dX11_init_613 : decode cX11_init 613 = .ok (.bipush 39, 2) := by decide +kernel
theorem dX11_init_615 : decode cX11_init 615 = .ok (.bipush 32, 2) := by decide +kernel
theorem dX11_init_617 : decode cX11_init 617 = .ok (.iastore, 1) := by decide +kernel
theorem dX11_init_618 : decode cX11_init 618 = .ok (.dup, 1) := by decide +kernel
theorem dX11_init_619 : decode cX11_init 619 = .ok (.bipush 40, 2) := by decide +kernel
theorem dX11_init_621 : decode cX11_init 621 = .ok (.bipush 111, 2) := by decide +kernel
theorem dX11_init_623 : decode cX11_init 623 = .ok (.iastore, 1) := by decide +kernel
theorem dX11_init_624 : decode cX11_init 624 = .ok (.dup, 1) := by decide +kernel
theorem dX11_init_625 : decode cX11_init 625 = .ok (.bipush 41, 2) := by decide +kernel
theorem dX11_init_627 : decode cX11_init 627 = .ok (.bipush 102, 2) := by decide +kernel
theorem dX11_init_629 : decode cX11_init 629 = .ok (.iastore, 1) := by decide +kernel
theorem dX11_init_630 : decode cX11_init 630 = .ok (.dup, 1) := by decide +kernel
theorem dX11_init_631 : decode cX11_init 631 = .ok (.bipush 42, 2) := by decide +kernel
theorem dX11_init_633 : decode cX11_init 633 = .ok (.bipush 102, 2) := by decide +kernel
theorem dX11_init_635 : decode cX11_init 635 = .ok (.iastore, 1) := by decide +kernel
theorem dX11_init_636 : decode cX11_init 636 = .ok (.dup, 1) := by decide +kernel
theorem dX11_init_637 : decode cX11_init 637 = .ok (.bipush 43, 2) := by decide +kernel
theorem dX11_init_639 : decode cX11_init 639 = .ok (.bipush 32, 2) := by decide +kernel
theorem dX11_init_641 : decode cX11_init 641 = .ok (.iastore, 1) := by decide +kernel
theorem dX11_init_642 : decode cX11_init 642 = .ok (.dup, 1) := by decide +kernel
theorem dX11_init_643 : decode cX11_init 643 = .ok (.bipush 44, 2) := by decide +kernel
theorem dX11_init_645 : decode cX11_init 645 = .ok (.bipush 32, 2) := by decide +kernel
theorem dX11_init_647 : decode cX11_init 647 = .ok (.iastore, 1) := by decide +kernel
theorem dX11_init_648 : decode cX11_init 648 = .ok (.dup, 1) := by decide +kernel
theorem dX11_init_649 : decode cX11_init 649 = .ok (.bipush 45, 2) := by decide +kernel
theorem dX11_init_651 : decode cX11_init 651 = .ok (.bipush 32, 2) := by decide +kernel
theorem dX11_init_653 : decode cX11_init 653 = .ok (.iastore, 1) := by decide +kernel
theorem dX11_init_654 : decode cX11_init 654 = .ok (.dup, 1) := by decide +kernel
theorem dX11_init_655 : decode cX11_init 655 = .ok (.bipush 46, 2) := by decide +kernel
theorem dX11_init_657 : decode cX11_init 657 = .ok (.bipush 32, 2) := by decide +kernel
theorem dX11_init_659 : decode cX11_init 659 = .ok (.iastore, 1) := by decide +kernel
theorem dX11_init_660 : decode cX11_init 660 = .ok (.dup, 1) := by decide +kernel
theorem dX11_init_661 : decode cX11_init 661 = .ok (.bipush 47, 2) := by decide +kernel
theorem dX11_init_663 : decode cX11_init 663 = .ok (.bipush 32, 2) := by decide +kernel
theorem dX11_init_665 : decode cX11_init 665 = .ok (.iastore, 1) := by decide +kernel
theorem dX11_init_666 : decode cX11_init 666 = .ok (.dup, 1) := by decide +kernel
theorem dX11_init_667 : decode cX11_init 667 = .ok (.bipush 48, 2) := by decide +kernel
theorem dX11_init_669 : decode cX11_init 669 = .ok (.bipush 104, 2) := by decide +kernel
theorem dX11_init_671 : decode cX11_init 671 = .ok (.iastore, 1) := by decide +kernel
theorem dX11_init_672 : decode cX11_init 672 = .ok (.dup, 1) := by decide +kernel
theorem dX11_init_673 : decode cX11_init 673 = .ok (.bipush 49, 2) := by decide +kernel
theorem dX11_init_675 : decode cX11_init 675 = .ok (.bipush 111, 2) := by decide +kernel
theorem dX11_init_677 : decode cX11_init 677 = .ok (.iastore, 1) := by decide +kernel
theorem dX11_init_678 : decode cX11_init 678 = .ok (.dup, 1) := by decide +kernel
theorem dX11_init_679 : decode cX11_init 679 = .ok (.bipush 50, 2) := by decide +kernel
theorem dX11_init_681 : decode cX11_init 681 = .ok (.bipush 117, 2) := by decide +kernel
theorem dX11_init_683 : decode cX11_init 683 = .ok (.iastore, 1) := by decide +kernel
theorem dX11_init_684 : decode cX11_init 684 = .ok (.dup, 1) := by decide +kernel
theorem dX11_init_685 : decode cX11_init 685 = .ok (.bipush 51, 2) := by decide +kernel
theorem dX11_init_687 : decode cX11_init 687 = .ok (.bipush 114, 2) := by decide +kernel
theorem dX11_init_689 : decode cX11_init 689 = .ok (.iastore, 1) := by decide +kernel
theorem dX11_init_690 : decode cX11_init 690 = .ok (.dup, 1) := by decide +kernel
theorem dX11_init_691 : decode cX11_init 691 = .ok (.bipush 52, 2) := by decide +kernel
theorem dX11_init_693 : decode cX11_init 693 = .ok (.bipush 32, 2) := by decide +kernel
theorem dX11_init_695 : decode cX11_init 695 = .ok (.iastore, 1) := by decide +kernel
theorem dX11_init_696 : decode cX11_init 696 = .ok (.dup, 1) := by decide +kernel
theorem dX11_init_697 : decode cX11_init 697 = .ok (.bipush 53, 2) := by decide +kernel
theorem dX11_init_699 : decode cX11_init 699 = .ok (.bipush 32, 2) := by decide +kernel
theorem dX11_init_701 : decode cX11_init 701 = .ok (.iastore, 1) := by decide +kernel
theorem dX11_init_702 : decode cX11_init 702 = .ok (.dup, 1) := by decide +kernel
theorem dX11_init_703 : decode cX11_init 703 = .ok (.bipush 54, 2) := by decide +kernel
theorem dX11_init_705 : decode cX11_init 705 = .ok (.bipush 32, 2) := by decide +kernel
theorem dX11_init_707 : decode cX11_init 707 = .ok (.iastore, 1) := by decide +kernel
theorem dX11_init_708 : decode cX11_init 708 = .ok (.dup, 1) := by decide +kernel
theorem dX11_init_709 : decode cX11_init 709 = .ok (.bipush 55, 2) := by decide +kernel
theorem dX11_init_711 : decode cX11_init 711 = .ok (.bipush 32, 2) := by decide +kernel
theorem dX11_init_713 : decode cX11_init 713 = .ok (.iastore, 1) := by decide +kernel
theorem dX11_init_714 : decode cX11_init 714 = .ok (.dup, 1) := by decide +kernel
theorem dX11_init_715 : decode cX11_init 715 = .ok (.bipush 56, 2) := by decide +kernel
theorem dX11_init_717 : decode cX11_init 717 = .ok (.bipush 109, 2) := by decide +kernel
theorem dX11_init_719 : decode cX11_init 719 = .ok (.iastore, 1) := by decide +kernel
theorem dX11_init_720 : decode cX11_init 720 = .ok (.dup, 1) := by decide +kernel
theorem dX11_init_721 : decode cX11_init 721 = .ok (.bipush 57, 2) := by decide +kernel
theorem dX11_init_723 : decode cX11_init 723 = .ok (.bipush 97, 2) := by decide +kernel
theorem dX11_init_725 : decode cX11_init 725 = .ok (.iastore, 1) := by decide +kernel
theorem dX11_init_726 : decode cX11_init 726 = .ok (.dup, 1) := by decide +kernel
theorem dX11_init_727 : decode cX11_init 727 = .ok (.bipush 58, 2) := by decide +kernel
theorem dX11_init_729 : decode cX11_init 729 = .ok (.bipush 110, 2) := by decide +kernel
theorem dX11_init_731 : decode cX11_init 731 = .ok (.iastore, 1) := by decide +kernel
theorem dX11_init_732 : decode cX11_init 732 = .ok (.dup, 1) := by decide +kernel
theorem dX11_init_733 : decode cX11_init 733 = .ok (.bipush 59, 2) := by decide +kernel
theorem dX11_init_735 : decode cX11_init 735 = .ok (.bipush 121, 2) := by decide +kernel
theorem dX11_init_737 : decode cX11_init 737 = .ok (.iastore, 1) := by decide +kernel
theorem dX11_init_738 : decode cX11_init 738 = .ok (.dup, 1) := by decide +kernel
theorem dX11_init_739 : decode cX11_init 739 = .ok (.bipush 60, 2) := by decide +kernel
theorem dX11_init_741 : decode cX11_init 741 = .ok (.bipush 32, 2) := by decide +kernel
theorem dX11_init_743 : decode cX11_init 743 = .ok (.iastore, 1) := by decide +kernel
theorem dX11_init_744 : decode cX11_init 744 = .ok (.dup, 1) := by decide +kernel
theorem dX11_init_745 : decode cX11_init 745 = .ok (.bipush 61, 2) := by decide +kernel
theorem dX11_init_747 : decode cX11_init 747 = .ok (.bipush 32, 2) := by decide +kernel
theorem dX11_init_749 : decode cX11_init 749 = .ok (.iastore, 1) := by decide +kernel
theorem dX11_init_750 : decode cX11_init 750 = .ok (.dup, 1) := by decide +kernel
theorem dX11_init_751 : decode cX11_init 751 = .ok (.bipush 62, 2) := by decide +kernel
theorem dX11_init_753 : decode cX11_init 753 = .ok (.bipush 32, 2) := by decide +kernel
theorem dX11_init_755 : decode cX11_init 755 = .ok (.iastore, 1) := by decide +kernel
theorem dX11_init_756 : decode cX11_init 756 = .ok (.dup, 1) := by decide +kernel
theorem dX11_init_757 : decode cX11_init 757 = .ok (.bipush 63, 2) := by decide +kernel
theorem dX11_init_759 : decode cX11_init 759 = .ok (.bipush 32, 2) := by decide +kernel
theorem dX11_init_761 : decode cX11_init 761 = .ok (.iastore, 1) := by decide +kernel
theorem dX11_init_762 : decode cX11_init 762 = .ok (.dup, 1) := by decide +kernel
theorem dX11_init_763 : decode cX11_init 763 = .ok (.bipush 64, 2) := by decide +kernel
theorem dX11_init_765 : decode cX11_init 765 = .ok (.bipush 115, 2) := by decide +kernel
theorem dX11_init_767 : decode cX11_init 767 = .ok (.iastore, 1) := by decide +kernel
theorem dX11_init_768 : decode cX11_init 768 = .ok (.dup, 1) := by decide +kernel
theorem dX11_init_769 : decode cX11_init 769 = .ok (.bipush 65, 2) := by decide +kernel
theorem dX11_init_771 : decode cX11_init 771 = .ok (.bipush 116, 2) := by decide +kernel
theorem dX11_init_773 : decode cX11_init 773 = .ok (.iastore, 1) := by decide +kernel
theorem dX11_init_774 : decode cX11_init 774 = .ok (.dup, 1) := by decide +kernel
theorem dX11_init_775 : decode cX11_init 775 = .ok (.bipush 66, 2) := by decide +kernel
theorem dX11_init_777 : decode cX11_init 777 = .ok (.bipush 111, 2) := by decide +kernel
theorem dX11_init_779 : decode cX11_init 779 = .ok (.iastore, 1) := by decide +kernel
theorem dX11_init_780 : decode cX11_init 780 = .ok (.dup, 1) := by decide +kernel
theorem dX11_init_781 : decode cX11_init 781 = .ok (.bipush 67, 2) := by decide +kernel
theorem dX11_init_783 : decode cX11_init 783 = .ok (.bipush 110, 2) := by decide +kernel
theorem dX11_init_785 : decode cX11_init 785 = .ok (.iastore, 1) := by decide +kernel
theorem dX11_init_786 : decode cX11_init 786 = .ok (.dup, 1) := by decide +kernel
theorem dX11_init_787 : decode cX11_init 787 = .ok (.bipush 68, 2) := by decide +kernel
theorem dX11_init_789 : decode cX11_init 789 = .ok (.bipush 101, 2) := by decide +kernel
theorem dX11_init_791 : decode cX11_init 791 = .ok (.iastore, 1) := by decide +kernel
theorem dX11_init_792 : decode cX11_init 792 = .ok (.dup, 1) := by decide +kernel
theorem dX11_init_793 : decode cX11_init 793 = .ok (.bipush 69, 2) := by decide +kernel
theorem dX11_init_795 : decode cX11_init 795 = .ok (.bipush 115, 2) := by decide +kernel
theorem dX11_init_797 : decode cX11_init 797 = .ok (.iastore, 1) := by decide +kernel
theorem dX11_init_798 : decode cX11_init 798 = .ok (.dup, 1) := by decide +kernel
theorem dX11_init_799 : decode cX11_init 799 = .ok (.bipush 70, 2) := by decide +kernel
theorem dX11_init_801 : decode cX11_init 801 = .ok (.bipush 32, 2) := by decide +kernel
theorem dX11_init_803 : decode cX11_init 803 = .ok (.iastore, 1) := by decide +kernel
theorem dX11_init_804 : decode cX11_init 804 = .ok (.dup, 1) := by decide +kernel
theorem dX11_init_805 : decode cX11_init 805 = .ok (.bipush 71, 2) := by decide +kernel
theorem dX11_init_807 : decode cX11_init 807 = .ok (.bipush 32, 2) := by decide +kernel
theorem dX11_init_809 : decode cX11_init 809 = .ok (.iastore, 1) := by decide +kernel
theorem dX11_init_810 : decode cX11_init 810 = .ok (.dup, 1) := by decide +kernel
theorem dX11_init_811 : decode cX11_init 811 = .ok (.bipush 72, 2) := by decide +kernel
theorem dX11_init_813 : decode cX11_init 813 = .ok (.bipush 111, 2) := by decide +kernel
theorem dX11_init_815 : decode cX11_init 815 = .ok (.iastore, 1) := by decide +kernel
theorem dX11_init_816 : decode cX11_init 816 = .ok (.dup, 1) := by decide +kernel
theorem dX11_init_817 : decode cX11_init 817 = .ok (.bipush 73, 2) := by decide +kernel
theorem dX11_init_819 : decode cX11_init 819 = .ok (.bipush 114, 2) := by decide +kernel
theorem dX11_init_821 : decode cX11_init 821 = .ok (.iastore, 1) := by decide +kernel
theorem dX11_init_822 : decode cX11_init 822 = .ok (.dup, 1) := by decide +kernel
theorem dX11_init_823 : decode cX11_init 823 = .ok (.bipush 74, 2) := by decide +kernel
theorem dX11_init_825 : decode cX11_init 825 = .ok (.bipush 32, 2) := by decide +kernel
theorem dX11_init_827 : decode cX11_init 827 = .ok (.iastore, 1) := by decide +kernel
theorem dX11_init_828 : decode cX11_init 828 = .ok (.dup, 1) := by decide +kernel
theorem dX11_init_829 : decode cX11_init 829 = .ok (.bipush 75, 2) := by decide +kernel
theorem dX11_init_831 : decode cX11_init 831 = .ok (.bipush 32, 2) := by decide +kernel
theorem dX11_init_833 : decode cX11_init 833 = .ok (.iastore, 1) := by decide +kernel
theorem dX11_init_834 : decode cX11_init 834 = .ok (.dup, 1) := by decide +kernel
theorem dX11_init_835 : decode cX11_init 835 = .ok (.bipush 76, 2) := by decide +kernel
theorem dX11_init_837 : decode cX11_init 837 = .ok (.bipush 32, 2) := by decide +kernel
theorem dX11_init_839 : decode cX11_init 839 = .ok (.iastore, 1) := by decide +kernel
theorem dX11_init_840 : decode cX11_init 840 = .ok (.dup, 1) := by decide +kernel
theorem dX11_init_841 : decode cX11_init 841 = .ok (.bipush 77, 2) := by decide +kernel
theorem dX11_init_843 : decode cX11_init 843 = .ok (.bipush 32, 2) := by decide +kernel
theorem dX11_init_845 : decode cX11_init 845 = .ok (.iastore, 1) := by decide +kernel
theorem dX11_init_846 : decode cX11_init 846 = .ok (.dup, 1) := by decide +kernel
theorem dX11_init_847 : decode cX11_init 847 = .ok (.bipush 78, 2) := by decide +kernel
theorem dX11_init_849 : decode cX11_init 849 = .ok (.bipush 32, 2) := by decide +kernel
theorem dX11_init_851 : decode cX11_init 851 = .ok (.iastore, 1) := by decide +kernel
theorem dX11_init_852 : decode cX11_init 852 = .ok (.dup, 1) := by decide +kernel
theorem dX11_init_853 : decode cX11_init 853 = .ok (.bipush 79, 2) := by decide +kernel
theorem dX11_init_855 : decode cX11_init 855 = .ok (.bipush 32, 2) := by decide +kernel
theorem dX11_init_857 : decode cX11_init 857 = .ok (.iastore, 1) := by decide +kernel
theorem dX11_init_858 : decode cX11_init 858 = .ok (.dup, 1) := by decide +kernel
theorem dX11_init_859 : decode cX11_init 859 = .ok (.bipush 80, 2) := by decide +kernel
theorem dX11_init_861 : decode cX11_init 861 = .ok (.bipush 97, 2) := by decide +kernel
theorem dX11_init_863 : decode cX11_init 863 = .ok (.iastore, 1) := by decide +kernel
theorem dX11_init_864 : decode cX11_init 864 = .ok (.dup, 1) := by decide +kernel
theorem dX11_init_865 : decode cX11_init 865 = .ok (.bipush 81, 2) := by decide +kernel
theorem dX11_init_867 : decode cX11_init 867 = .ok (.bipush 110, 2) := by decide +kernel
theorem dX11_init_869 : decode cX11_init 869 = .ok (.iastore, 1) := by decide +kernel
theorem dX11_init_870 : decode cX11_init 870 = .ok (.dup, 1) := by decide +kernel
theorem dX11_init_871 : decode cX11_init 871 = .ok (.bipush 82, 2) := by decide +kernel
theorem dX11_init_873 : decode cX11_init 873 = .ok (.bipush 100, 2) := by decide +kernel
theorem dX11_init_875 : decode cX11_init 875 = .ok (.iastore, 1) := by decide +kernel
theorem dX11_init_876 : decode cX11_init 876 = .ok (.dup, 1) := by decide +kernel
theorem dX11_init_877 : decode cX11_init 877 = .ok (.bipush 83, 2) := by decide +kernel
theorem dX11_init_879 : decode cX11_init 879 = .ok (.bipush 32, 2) := by decide +kernel
theorem dX11_init_881 : decode cX11_init 881 = .ok (.iastore, 1) := by decide +kernel
theorem dX11_init_882 : decode cX11_init 882 = .ok (.dup, 1) := by decide +kernel
theorem dX11_init_883 : decode cX11_init 883 = .ok (.bipush 84, 2) := by decide +kernel
theorem dX11_init_885 : decode cX11_init 885 = .ok (.bipush 32, 2) := by decide +kernel
theorem dX11_init_887 : decode cX11_init 887 = .ok (.iastore, 1) := by decide +kernel
theorem dX11_init_888 : decode cX11_init 888 = .ok (.dup, 1) := by decide +kernel
theorem dX11_init_889 : decode cX11_init 889 = .ok (.bipush 85, 2) := by decide +kernel
theorem dX11_init_891 : decode cX11_init 891 = .ok (.bipush 32, 2) := by decide +kernel
theorem dX11_init_893 : decode cX11_init 893 = .ok (.iastore, 1) := by decide +kernel
theorem dX11_init_894 : decode cX11_init 894 = .ok (.dup, 1) := by decide +kernel
theorem dX11_init_895 : decode cX11_init 895 = .ok (.bipush 86, 2) := by decide +kernel
theorem dX11_init_897 : decode cX11_init 897 = .ok (.bipush 32, 2) := by decide +kernel
theorem dX11_init_899 : decode cX11_init 899 = .ok (.iastore, 1) := by decide +kernel
theorem dX11_init_900 : decode cX11_init 900 = .ok (.dup, 1) := by decide +kernel
theorem dX11_init_901 : decode cX11_init 901 = .ok (.bipush 87, 2) := by decide +kernel
theorem dX11_init_903 : decode cX11_init 903 = .ok (.bipush 32, 2) := by decide +kernel
theorem dX11_init_905 : decode cX11_init 905 = .ok (.iastore, 1) := by decide +kernel
theorem dX11_init_906 : decode cX11_init 906 = .ok (.dup, 1) := by decide +kernel
theorem dX11_init_907 : decode cX11_init 907 = .ok (.bipush 88, 2) := by decide +kernel
theorem dX11_init_909 : decode cX11_init 909 = .ok (.bipush 110, 2) := by decide +kernel
theorem dX11_init_911 : decode cX11_init 911 = .ok (.iastore, 1) := by decide +kernel
theorem dX11_init_912 : decode cX11_init 912 = .ok (.dup, 1) := by decide +kernel
theorem dX11_init_913 : decode cX11_init 913 = .ok (.bipush 89, 2) := by decide +kernel
theorem dX11_init_915 : decode cX11_init 915 = .ok (.bipush 111, 2) := by decide +kernel
theorem dX11_init_917 : decode cX11_init 917 = .ok (.iastore, 1) := by decide +kernel
theorem dX11_init_918 : decode cX11_init 918 = .ok (.dup, 1) := by decide +kernel
theorem dX11_init_919 : decode cX11_init 919 = .ok (.bipush 90, 2) := by decide +kernel
theorem dX11_init_921 : decode cX11_init 921 = .ok (.bipush 116, 2) := by decide +kernel
theorem dX11_init_923 : decode cX11_init 923 = .ok (.iastore, 1) := by decide +kernel
theorem dX11_init_924 : decode cX11_init 924 = .ok (.dup, 1) := by decide +kernel
theorem dX11_init_925 : decode cX11_init 925 = .ok (.bipush 91, 2) := by decide +kernel
theorem dX11_init_927 : decode cX11_init 927 = .ok (.bipush 32, 2) := by decide +kernel
theorem dX11_init_929 : decode cX11_init 929 = .ok (.iastore, 1) := by decide +kernel
theorem dX11_init_930 : decode cX11_init 930 = .ok (.dup, 1) := by decide +kernel
theorem dX11_init_931 : decode cX11_init 931 = .ok (.bipush 92, 2) := by decide +kernel
theorem dX11_init_933 : decode cX11_init 933 = .ok (.bipush 32, 2) := by decide +kernel
theorem dX11_init_935 : decode cX11_init 935 = .ok (.iastore, 1) := by decide +kernel
theorem dX11_init_936 : decode cX11_init 936 = .ok (.dup, 1) := by decide +kernel
theorem dX11_init_937 : decode cX11_init 937 = .ok (.bipush 93, 2) := by decide +kernel
theorem dX11_init_939 : decode cX11_init 939 = .ok (.bipush 32, 2) := by decide +kernel
theorem dX11_init_941 : decode cX11_init 941 = .ok (.iastore, 1) := by decide +kernel
theorem dX11_init_942 : decode cX11_init 942 = .ok (.dup, 1) := by decide +kernel
theorem dX11_init_943 : decode cX11_init 943 = .ok (.bipush 94, 2) := by decide +kernel
theorem dX11_init_945 : decode cX11_init 945 = .ok (.bipush 32, 2) := by decide +kernel
theorem dX11_init_947 : decode cX11_init 947 = .ok (.iastore, 1) := by decide +kernel
theorem dX11_init_948 : decode cX11_init 948 = .ok (.dup, 1) := by decide +kernel
theorem dX11_init_949 : decode cX11_init 949 = .ok (.bipush 95, 2) := by decide +kernel
theorem dX11_init_951 : decode cX11_init 951 = .ok (.bipush 32, 2) := by decide +kernel
theorem dX11_init_953 : decode cX11_init 953 = .ok (.iastore, 1) := by decide +kernel
theorem dX11_init_954 : decode cX11_init 954 = .ok (.putfield 67, 3) := by decide +kernel
theorem dX11_init_957 : decode cX11_init 957 = .ok (.aload_n 0, 1) := by decide +kernel
theorem dX11_init_958 : decode cX11_init 958 = .ok (.sipush 200, 3) := by decide +kernel
theorem dX11_init_961 : decode cX11_init 961 = .ok (.newarray .int, 2) := by decide +kernel
theorem dX11_init_963 : decode cX11_init 963 = .ok (.putfield 70, 3) := by decide +kernel
theorem dX11_init_966 : decode cX11_init 966 = .ok (.aload_n 0, 1) := by decide +kernel
theorem dX11_init_967 : decode cX11_init 967 = .ok (.sipush 200, 3) := by decide +kernel
theorem dX11_init_970 : decode cX11_init 970 = .ok (.newarray .int, 2) := by decide +kernel
theorem dX11_init_972 : decode cX11_init 972 = .ok (.putfield 73, 3) := by decide +kernel
theorem dX11_init_975 : decode cX11_init 975 = .ok (.aload_n 0, 1) := by decide +kernel
theorem dX11_init_976 : decode cX11_init 976 = .ok (.bipush 6, 2) := by decide +kernel
theorem dX11_init_978 : decode cX11_init 978 = .ok (.newarray .int, 2) := by decide +kernel
theorem dX11_init_980 : decode cX11_init 980 = .ok (.putfield 76, 3) := by decide +kernel
theorem dX11_init_983 : decode cX11_init 983 = .ok (.aload_n 0, 1) := by decide +kernel
theorem dX11_init_984 : decode cX11_init 984 = .ok (.sipush 1000, 3) := by decide +kernel
theorem dX11_init_987 : decode cX11_init 987 = .ok (.newarray .int, 2) := by decide +kernel
theorem dX11_init_989 : decode cX11_init 989 = .ok (.putfield 79, 3) := by decide +kernel
theorem dX11_init_992 : decode cX11_init 992 = .ok (.aload_n 0, 1) := by decide +kernel
theorem dX11_init_993 : decode cX11_init 993 = .ok (.bipush 100, 2) := by decide +kernel
theorem dX11_init_995 : decode cX11_init 995 = .ok (.newarray .int, 2) := by decide +kernel
theorem dX11_init_997 : decode cX11_init 997 = .ok (.putfield 82, 3) := by decide +kernel
theorem dX11_init_1000 : decode cX11_init 1000 = .ok (.aload_n 0, 1) := by decide +kernel
theorem dX11_init_1001 : decode cX11_init 1001 = .ok (.bipush 10, 2) := by decide +kernel
theorem dX11_init_1003 : decode cX11_init 1003 = .ok (.newarray .int, 2) := by decide +kernel
theorem dX11_init_1005 : decode cX11_init 1005 = .ok (.putfield 85, 3) := by decide +kernel
theorem dX11_init_1008 : decode cX11_init 1008 = .ok (.aload_n 0, 1) := by decide +kernel
theorem dX11_init_1009 : decode cX11_init 1009 = .ok (.bipush 10, 2) := by decide +kernel
theorem dX11_init_1011 : decode cX11_init 1011 = .ok (.newarray .int, 2) := by decide +kernel
theorem dX11_init_1013 : decode cX11_init 1013 = .ok (.putfield 88, 3) := by decide +kernel
theorem dX11_init_1016 : decode cX11_init 1016 = .ok (.aload_n 0, 1) := by decide +kernel
theorem dX11_init_1017 : decode cX11_init 1017 = .ok (.bipush 10, 2) := by decide +kernel
theorem dX11_init_1019 : decode cX11_init 1019 = .ok (.newarray .int, 2) := by decide +kernel
theorem dX11_init_1021 : decode cX11_init 1021 = .ok (.putfield 91, 3) := by decide +kernel
theorem dX11_init_1024 : decode cX11_init 1024 = .ok (.aload_n 0, 1) := by decide +kernel
theorem dX11_init_1025 : decode cX11_init 1025 = .ok (.bipush 10, 2) := by decide +kernel
theorem dX11_init_1027 : decode cX11_init 1027 = .ok (.newarray .int, 2) := by decide +kernel
theorem dX11_init_1029 : decode cX11_init 1029 = .ok (.putfield 94, 3) := by decide +kernel
theorem dX11_init_1032 : decode cX11_init 1032 = .ok (.aload_n 0, 1) := by decide +kernel
theorem dX11_init_1033 : decode cX11_init 1033 = .ok (.iconst (-1), 1) := by decide +kernel
theorem dX11_init_1034 : decode cX11_init 1034 = .ok (.putfield 97, 3) := by decide +kernel
theorem dX11_init_1037 : decode cX11_init 1037 = .ok (.aload_n 0, 1) := by decide +kernel
theorem dX11_init_1038 : decode cX11_init 1038 = .ok (.bipush 10, 2) := by decide +kernel
theorem dX11_init_1040 : decode cX11_init 1040 = .ok (.newarray .int, 2) := by decide +kernel
theorem dX11_init_1042 : decode cX11_init 1042 = .ok (.putfield 101, 3) := by decide +kernel
theorem dX11_init_1045 : decode cX11_init 1045 = .ok (.iconst 0, 1) := by decide +kernel
theorem dX11_init_1046 : decode cX11_init 1046 = .ok (.istore_n 1, 1) := by decide +kernel
theorem dX11_init_1047 : decode cX11_init 1047 = .ok (.iload_n 1, 1) := by decide +kernel
theorem dX11_init_1048 : decode cX11_init 1048 = .ok (.bipush 34, 2) := by decide +kernel
theorem dX11_init_1050 : decode cX11_init 1050 = .ok (.if_icmp .ge 21, 3) := by decide +kernel
theorem dX11_init_1053 : decode cX11_init 1053 = .ok (.aload_n 0, 1) := by decide +kernel
theorem dX11_init_1054 : decode cX11_init 1054 = .ok (.getfield 34, 3) := by decide +kernel
theorem dX11_init_1057 : decode cX11_init 1057 = .ok (.iload_n 1, 1) := by decide +kernel
theorem dX11_init_1058 : decode cX11_init 1058 = .ok (.aload_n 0, 1) := by decide +kernel
theorem dX11_init_1059 : decode cX11_init 1059 = .ok (.getfield 64, 3) := by decide +kernel
theorem dX11_init_1062 : decode cX11_init 1062 = .ok (.iload_n 1, 1) := by decide +kernel
theorem dX11_init_1063 : decode cX11_init 1063 = .ok (.iaload, 1) := by decide +kernel
theorem dX11_init_1064 : decode cX11_init 1064 = .ok (.iastore, 1) := by decide +kernel
theorem dX11_init_1065 : decode cX11_init 1065 = .ok (.iinc 1 1, 3) := by decide +kernel
theorem dX11_init_1068 : decode cX11_init 1068 = .ok (.goto (-21), 3) := by decide +kernel
theorem dX11_init_1071 : decode cX11_init 1071 = .ok (.aload_n 0, 1) := by decide +kernel
theorem dX11_init_1072 : decode cX11_init 1072 = .ok (.bipush 34, 2) := by decide +kernel
theorem dX11_init_1074 : decode cX11_init 1074 = .ok (.putfield 104, 3) := by decide +kernel
theorem dX11_init_1077 : decode cX11_init 1077 = .ok (.aload_n 0, 1) := by decide +kernel
theorem dX11_init_1078 : decode cX11_init 1078 = .ok (.invokevirtual 107, 3) := by decide +kernel
theorem dX11_init_1081 : decode cX11_init 1081 = .ok (.pop, 1) := by decide +kernel
theorem dX11_init_1082 : decode cX11_init 1082 = .ok (.return_, 1) := by decide +kernel
theorem dX11_in_0 : decode cX11_in 0 = .ok (.iload_n 0, 1) := by decide +kernel
theorem dX11_in_1 : decode cX11_in 1 = .ok (.iload_n 1, 1) := by decide +kernel
theorem dX11_in_2 : decode cX11_in 2 = .ok (.if_icmp .lt 12, 3) := by decide +kernel
theorem dX11_in_5 : decode cX11_in 5 = .ok (.iload_n 0, 1) := by decide +kernel
theorem dX11_in_6 : decode cX11_in 6 = .ok (.iload_n 2, 1) := by decide +kernel
theorem dX11_in_7 : decode cX11_in 7 = .ok (.if_icmp .gt 7, 3) := by decide +kernel
theorem dX11_in_10 : decode cX11_in 10 = .ok (.iconst 1, 1) := by decide +kernel
theorem dX11_in_11 : decode cX11_in 11 = .ok (.goto 4, 3) := by decide +kernel
theorem dX11_in_14 : decode cX11_in 14 = .ok (.iconst 0, 1) := by decide +kernel
theorem dX11_in_15 : decode cX11_in 15 = .ok (.ireturn, 1) := by decide +kernel
theorem dX11_within_0 : decode cX11_within 0 = .ok (.iload_n 0, 1) := by decide +kernel
theorem dX11_within_1 : decode cX11_within 1 = .ok (.iload_n 1, 1) := by decide +kernel
theorem dX11_within_2 : decode cX11_within 2 = .ok (.if_icmp .ge 7, 3) := by decide +kernel
theorem dX11_within_5 : decode cX11_within 5 = .ok (.iload_n 1, 1) := by decide +kernel
theorem dX11_within_6 : decode cX11_within 6 = .ok (.goto 13, 3) := by decide +kernel
theorem dX11_within_9 : decode cX11_within 9 = .ok (.iload_n 0, 1) := by decide +kernel
theorem dX11_within_10 : decode cX11_within 10 = .ok (.iload_n 2, 1) := by decide +kernel
theorem dX11_within_11 : decode cX11_within 11 = .ok (.if_icmp .le 7, 3) := by decide +kernel
theorem dX11_within_14 : decode cX11_within 14 = .ok (.iload_n 2, 1) := by decide +kernel
theorem dX11_within_15 : decode cX11_within 15 = .ok (.goto 4, 3) := by decide +kernel
theorem dX11_within_18 : decode cX11_within 18 = .ok (.iload_n 0, 1) := by decide +kernel
theorem dX11_within_19 : decode cX11_within 19 = .ok (.ireturn, 1) := by decide +kernel
theorem dX11_apart_0 : decode cX11_apart 0 = .ok (.iload_n 0, 1) := by decide +kernel
theorem dX11_apart_1 : decode cX11_apart 1 = .ok (.iload_n 1, 1) := by decide +kernel
theorem dX11_apart_2 : decode cX11_apart 2 = .ok (.if_icmp .ge 9, 3) := by decide +kernel
theorem dX11_apart_5 : decode cX11_apart 5 = .ok (.iload_n 1, 1) := by decide +kernel
theorem dX11_apart_6 : decode cX11_apart 6 = .ok (.iload_n 0, 1) := by decide +kernel
theorem dX11_apart_7 : decode cX11_apart 7 = .ok (.isub, 1) := by decide +kernel
theorem dX11_apart_8 : decode cX11_apart 8 = .ok (.goto 6, 3) := by decide +kernel
theorem dX11_apart_11 : decode cX11_apart 11 = .ok (.iload_n 0, 1) := by decide +kernel
theorem dX11_apart_12 : decode cX11_apart 12 = .ok (.iload_n 1, 1) := by decide +kernel
theorem dX11_apart_13 : decode cX11_apart 13 = .ok (.isub, 1) := by decide +kernel
theorem dX11_apart_14 : decode cX11_apart 14 = .ok (.ireturn, 1) := by decide +kernel
theorem dX11_ones_0 : decode cX11_ones 0 = .ok (.iconst 0, 1) := by decide +kernel
theorem dX11_ones_1 : decode cX11_ones 1 = .ok (.istore_n 1, 1) := by decide +kernel
theorem dX11_ones_2 : decode cX11_ones 2 = .ok (.iconst 0, 1) := by decide +kernel
theorem dX11_ones_3 : decode cX11_ones 3 = .ok (.istore_n 2, 1) := by decide +kernel
theorem dX11_ones_4 : decode cX11_ones 4 = .ok (.iload_n 2, 1) := by decide +kernel
theorem dX11_ones_5 : decode cX11_ones 5 = .ok (.bipush 10, 2) := by decide +kernel
theorem dX11_ones_7 : decode cX11_ones 7 = .ok (.if_icmp .ge 17, 3) := by decide +kernel
theorem dX11_ones_10 : decode cX11_ones 10 = .ok (.iload_n 1, 1) := by decide +kernel
theorem dX11_ones_11 : decode cX11_ones 11 = .ok (.iload_n 0, 1) := by decide +kernel
theorem dX11_ones_12 : decode cX11_ones 12 = .ok (.iload_n 2, 1) := by decide +kernel
theorem dX11_ones_13 : decode cX11_ones 13 = .ok (.ishr, 1) := by decide +kernel
theorem dX11_ones_14 : decode cX11_ones 14 = .ok (.iconst 1, 1) := by decide +kernel
theorem dX11_ones_15 : decode cX11_ones 15 = .ok (.iand, 1) := by decide +kernel
theorem dX11_ones_16 : decode cX11_ones 16 = .ok (.iadd, 1) := by decide +kernel
theorem dX11_ones_17 : decode cX11_ones 17 = .ok (.istore_n 1, 1) := by decide +kernel
theorem dX11_ones_18 : decode cX11_ones 18 = .ok (.iinc 2 1, 3) := by decide +kernel
theorem dX11_ones_21 : decode cX11_ones 21 = .ok (.goto (-17), 3) := by decide +kernel
theorem dX11_ones_24 : decode cX11_ones 24 = .ok (.iload_n 1, 1) := by decide +kernel
theorem dX11_ones_25 : decode cX11_ones 25 = .ok (.ireturn, 1) := by decide +kernel
theorem dX11_isCart_0 : decode cX11_isCart 0 = .ok (.iload_n 1, 1) := by decide +kernel
theorem dX11_isCart_1 : decode cX11_isCart 1 = .ok (.iconst 0, 1) := by decide +kernel
theorem dX11_isCart_2 : decode cX11_isCart 2 = .ok (.aload_n 0, 1) := by decide +kernel
theorem dX11_isCart_3 : decode cX11_isCart 3 = .ok (.getfield 111, 3) := by decide +kernel
theorem dX11_isCart_6 : decode cX11_isCart 6 = .ok (.iconst 1, 1) := by decide +kernel
theorem dX11_isCart_7 : decode cX11_isCart 7 = .ok (.isub, 1) := by decide +kernel
theorem dX11_isCart_8 : decode cX11_isCart 8 = .ok (.invokestatic 114, 3) := by decide +kernel
theorem dX11_isCart_11 : decode cX11_isCart 11 = .ok (.ireturn, 1) := by decide +kernel
theorem dX11_isHour_0 : decode cX11_isHour 0 = .ok (.iload_n 0, 1) := by decide +kernel
theorem dX11_isHour_1 : decode cX11_isHour 1 = .ok (.iconst 0, 1) := by decide +kernel
theorem dX11_isHour_2 : decode cX11_isHour 2 = .ok (.bipush 9, 2) := by decide +kernel
theorem dX11_isHour_4 : decode cX11_isHour 4 = .ok (.invokestatic 114, 3) := by decide +kernel
theorem dX11_isHour_7 : decode cX11_isHour 7 = .ok (.ireturn, 1) := by decide +kernel
theorem dX11_allCarts_0 : decode cX11_allCarts 0 = .ok (.iconst 1, 1) := by decide +kernel
theorem dX11_allCarts_1 : decode cX11_allCarts 1 = .ok (.aload_n 0, 1) := by decide +kernel
theorem dX11_allCarts_2 : decode cX11_allCarts 2 = .ok (.getfield 111, 3) := by decide +kernel
theorem dX11_allCarts_5 : decode cX11_allCarts 5 = .ok (.ishl, 1) := by decide +kernel
theorem dX11_allCarts_6 : decode cX11_allCarts 6 = .ok (.iconst 1, 1) := by decide +kernel
theorem dX11_allCarts_7 : decode cX11_allCarts 7 = .ok (.isub, 1) := by decide +kernel
theorem dX11_allCarts_8 : decode cX11_allCarts 8 = .ok (.ireturn, 1) := by decide +kernel
theorem dX11_scale_0 : decode cX11_scale 0 = .ok (.iload_n 1, 1) := by decide +kernel
theorem dX11_scale_1 : decode cX11_scale 1 = .ok (.iconst 0, 1) := by decide +kernel
theorem dX11_scale_2 : decode cX11_scale 2 = .ok (.iconst 2, 1) := by decide +kernel
theorem dX11_scale_3 : decode cX11_scale 3 = .ok (.invokestatic 114, 3) := by decide +kernel
theorem dX11_scale_6 : decode cX11_scale 6 = .ok (.ifCond .ne 5, 3) := by decide +kernel
theorem dX11_scale_9 : decode cX11_scale 9 = .ok (.iconst (-1), 1) := by decide +kernel
theorem dX11_scale_10 : decode cX11_scale 10 = .ok (.ireturn, 1) := by decide +kernel
theorem dX11_scale_11 : decode cX11_scale 11 = .ok (.iload_n 2, 1) := by decide +kernel
theorem dX11_scale_12 : decode cX11_scale 12 = .ok (.iload_n 1, 1) := by decide +kernel
theorem dX11_scale_13 : decode cX11_scale 13 = .ok (.iconst 2, 1) := by decide +kernel
theorem dX11_scale_14 : decode cX11_scale 14 = .ok (.if_icmp .ne 7, 3) := by decide +kernel
theorem dX11_scale_17 : decode cX11_scale 17 = .ok (.iconst 0, 1) := by decide +kernel
theorem dX11_scale_18 : decode cX11_scale 18 = .ok (.goto 4, 3) := by decide +kernel
theorem dX11_scale_21 : decode cX11_scale 21 = .ok (.iconst 1, 1) := by decide +kernel
theorem dX11_scale_22 : decode cX11_scale 22 = .ok (.iload_n 1, 1) := by decide +kernel
theorem dX11_scale_23 : decode cX11_scale 23 = .ok (.iconst 2, 1) := by decide +kernel
theorem dX11_scale_24 : decode cX11_scale 24 = .ok (.if_icmp .ne 8, 3) := by decide +kernel
theorem dX11_scale_27 : decode cX11_scale 27 = .ok (.bipush 9, 2) := by decide +kernel
theorem dX11_scale_29 : decode cX11_scale 29 = .ok (.goto 4, 3) := by decide +kernel
theorem dX11_scale_32 : decode cX11_scale 32 = .ok (.iconst 3, 1) := by decide +kernel
theorem dX11_scale_33 : decode cX11_scale 33 = .ok (.invokestatic 114, 3) := by decide +kernel
theorem dX11_scale_36 : decode cX11_scale 36 = .ok (.ifCond .ne 6, 3) := by decide +kernel
theorem dX11_scale_39 : decode cX11_scale 39 = .ok (.bipush (-2), 2) := by decide +kernel
theorem dX11_scale_41 : decode cX11_scale 41 = .ok (.ireturn, 1) := by decide +kernel
theorem dX11_scale_42 : decode cX11_scale 42 = .ok (.aload_n 0, 1) := by decide +kernel
theorem dX11_scale_43 : decode cX11_scale 43 = .ok (.getfield 7, 3) := by decide +kernel
theorem dX11_scale_46 : decode cX11_scale 46 = .ok (.iload_n 1, 1) := by decide +kernel
theorem dX11_scale_47 : decode cX11_scale 47 = .ok (.iaload, 1) := by decide +kernel
theorem dX11_scale_48 : decode cX11_scale 48 = .ok (.istore_n 3, 1) := by decide +kernel
theorem dX11_scale_49 : decode cX11_scale 49 = .ok (.aload_n 0, 1) := by decide +kernel
theorem dX11_scale_50 : decode cX11_scale 50 = .ok (.getfield 7, 3) := by decide +kernel
theorem dX11_scale_53 : decode cX11_scale 53 = .ok (.iload_n 1, 1) := by decide +kernel
theorem dX11_scale_54 : decode cX11_scale 54 = .ok (.iload_n 2, 1) := by decide +kernel
theorem dX11_scale_55 : decode cX11_scale 55 = .ok (.iastore, 1) := by decide +kernel
theorem dX11_scale_56 : decode cX11_scale 56 = .ok (.iload_n 3, 1) := by decide +kernel
theorem dX11_scale_57 : decode cX11_scale 57 = .ok (.ireturn, 1) := by decide +kernel
theorem dX11_stone_0 : decode cX11_stone 0 = .ok (.iload_n 1, 1) := by decide +kernel
theorem dX11_stone_1 : decode cX11_stone 1 = .ok (.iconst 1, 1) := by decide +kernel
theorem dX11_stone_2 : decode cX11_stone 2 = .ok (.bipush 99, 2) := by decide +kernel
theorem dX11_stone_4 : decode cX11_stone 4 = .ok (.invokestatic 114, 3) := by decide +kernel
theorem dX11_stone_7 : decode cX11_stone 7 = .ok (.ifCond .ne 6, 3) := by decide +kernel
theorem dX11_stone_10 : decode cX11_stone 10 = .ok (.bipush (-2), 2) := by decide +kernel
theorem dX11_stone_12 : decode cX11_stone 12 = .ok (.ireturn, 1) := by decide +kernel
theorem dX11_stone_13 : decode cX11_stone 13 = .ok (.aload_n 0, 1) := by decide +kernel
theorem dX11_stone_14 : decode cX11_stone 14 = .ok (.getfield 118, 3) := by decide +kernel
theorem dX11_stone_17 : decode cX11_stone 17 = .ok (.iconst 5, 1) := by decide +kernel
theorem dX11_stone_18 : decode cX11_stone 18 = .ok (.if_icmp .ne 6, 3) := by decide +kernel
theorem dX11_stone_21 : decode cX11_stone 21 = .ok (.bipush (-4), 2) := by decide +kernel
theorem dX11_stone_23 : decode cX11_stone 23 = .ok (.ireturn, 1) := by decide +kernel
theorem dX11_stone_24 : decode cX11_stone 24 = .ok (.aload_n 0, 1) := by decide +kernel
theorem dX11_stone_25 : decode cX11_stone 25 = .ok (.getfield 13, 3) := by decide +kernel
theorem dX11_stone_28 : decode cX11_stone 28 = .ok (.aload_n 0, 1) := by decide +kernel
theorem dX11_stone_29 : decode cX11_stone 29 = .ok (.getfield 118, 3) := by decide +kernel
theorem dX11_stone_32 : decode cX11_stone 32 = .ok (.iload_n 1, 1) := by decide +kernel
theorem dX11_stone_33 : decode cX11_stone 33 = .ok (.iastore, 1) := by decide +kernel
theorem dX11_stone_34 : decode cX11_stone 34 = .ok (.aload_n 0, 1) := by decide +kernel
theorem dX11_stone_35 : decode cX11_stone 35 = .ok (.dup, 1) := by decide +kernel
theorem dX11_stone_36 : decode cX11_stone 36 = .ok (.getfield 118, 3) := by decide +kernel
theorem dX11_stone_39 : decode cX11_stone 39 = .ok (.iconst 1, 1) := by decide +kernel
theorem dX11_stone_40 : decode cX11_stone 40 = .ok (.iadd, 1) := by decide +kernel
theorem dX11_stone_41 : decode cX11_stone 41 = .ok (.putfield 118, 3) := by decide +kernel
theorem dX11_stone_44 : decode cX11_stone 44 = .ok (.aload_n 0, 1) := by decide +kernel
theorem dX11_stone_45 : decode cX11_stone 45 = .ok (.getfield 118, 3) := by decide +kernel
theorem dX11_stone_48 : decode cX11_stone 48 = .ok (.iconst 1, 1) := by decide +kernel
theorem dX11_stone_49 : decode cX11_stone 49 = .ok (.isub, 1) := by decide +kernel
theorem dX11_stone_50 : decode cX11_stone 50 = .ok (.ireturn, 1) := by decide +kernel
theorem dX11_sell_0 : decode cX11_sell 0 = .ok (.aload_n 0, 1) := by decide +kernel
theorem dX11_sell_1 : decode cX11_sell 1 = .ok (.getfield 118, 3) := by decide +kernel
theorem dX11_sell_4 : decode cX11_sell 4 = .ok (.ifCond .ne 6, 3) := by decide +kernel
theorem dX11_sell_7 : decode cX11_sell 7 = .ok (.bipush (-3), 2) := by decide +kernel
theorem dX11_sell_9 : decode cX11_sell 9 = .ok (.ireturn, 1) := by decide +kernel
theorem dX11_sell_10 : decode cX11_sell 10 = .ok (.aload_n 0, 1) := by decide +kernel
theorem dX11_sell_11 : decode cX11_sell 11 = .ok (.dup, 1) := by decide +kernel
theorem dX11_sell_12 : decode cX11_sell 12 = .ok (.getfield 118, 3) := by decide +kernel
theorem dX11_sell_15 : decode cX11_sell 15 = .ok (.iconst 1, 1) := by decide +kernel
theorem dX11_sell_16 : decode cX11_sell 16 = .ok (.isub, 1) := by decide +kernel
theorem dX11_sell_17 : decode cX11_sell 17 = .ok (.putfield 118, 3) := by decide +kernel
theorem dX11_sell_20 : decode cX11_sell 20 = .ok (.aload_n 0, 1) := by decide +kernel
theorem dX11_sell_21 : decode cX11_sell 21 = .ok (.getfield 118, 3) := by decide +kernel
theorem dX11_sell_24 : decode cX11_sell 24 = .ok (.ireturn, 1) := by decide +kernel
theorem dX11_stoneTold_0 : decode cX11_stoneTold 0 = .ok (.iload_n 1, 1) := by decide +kernel
theorem dX11_stoneTold_1 : decode cX11_stoneTold 1 = .ok (.iconst 0, 1) := by decide +kernel
theorem dX11_stoneTold_2 : decode cX11_stoneTold 2 = .ok (.aload_n 0, 1) := by decide +kernel
theorem dX11_stoneTold_3 : decode cX11_stoneTold 3 = .ok (.getfield 118, 3) := by decide +kernel
theorem dX11_stoneTold_6 : decode cX11_stoneTold 6 = .ok (.iconst 1, 1) := by decide +kernel
theorem dX11_stoneTold_7 : decode cX11_stoneTold 7 = .ok (.isub, 1) := by decide +kernel
theorem dX11_stoneTold_8 : decode cX11_stoneTold 8 = .ok (.invokestatic 114, 3) := by decide +kernel
theorem dX11_stoneTold_11 : decode cX11_stoneTold 11 = .ok (.ifCond .eq 12, 3) := by decide +kernel
theorem dX11_stoneTold_14 : decode cX11_stoneTold 14 = .ok (.aload_n 0, 1) := by decide +kernel
theorem dX11_stoneTold_15 : decode cX11_stoneTold 15 = .ok (.getfield 13, 3) := by decide +kernel
theorem dX11_stoneTold_18 : decode cX11_stoneTold 18 = .ok (.iload_n 1, 1) := by decide +kernel
theorem dX11_stoneTold_19 : decode cX11_stoneTold 19 = .ok (.iaload, 1) := by decide +kernel
theorem dX11_stoneTold_20 : decode cX11_stoneTold 20 = .ok (.goto 5, 3) := by decide +kernel
theorem dX11_stoneTold_23 : decode cX11_stoneTold 23 = .ok (.bipush (-5), 2) := by decide +kernel
theorem dX11_stoneTold_25 : decode cX11_stoneTold 25 = .ok (.ireturn, 1) := by decide +kernel
theorem dX11_count_0 : decode cX11_count 0 = .ok (.iload_n 1, 1) := by decide +kernel
theorem dX11_count_1 : decode cX11_count 1 = .ok (.tableswitch 60 3 7 #[35, 40, 45, 50, 55], 35) := by decide +kernel
theorem dX11_count_36 : decode cX11_count 36 = .ok (.aload_n 0, 1) := by decide +kernel
theorem dX11_count_37 : decode cX11_count 37 = .ok (.getfield 118, 3) := by decide +kernel
theorem dX11_count_40 : decode cX11_count 40 = .ok (.ireturn, 1) := by decide +kernel
theorem dX11_count_41 : decode cX11_count 41 = .ok (.aload_n 0, 1) := by decide +kernel
theorem dX11_count_42 : decode cX11_count 42 = .ok (.getfield 111, 3) := by decide +kernel
theorem dX11_count_45 : decode cX11_count 45 = .ok (.ireturn, 1) := by decide +kernel
theorem dX11_count_46 : decode cX11_count 46 = .ok (.aload_n 0, 1) := by decide +kernel
theorem dX11_count_47 : decode cX11_count 47 = .ok (.getfield 121, 3) := by decide +kernel
theorem dX11_count_50 : decode cX11_count 50 = .ok (.ireturn, 1) := by decide +kernel
theorem dX11_count_51 : decode cX11_count 51 = .ok (.aload_n 0, 1) := by decide +kernel
theorem dX11_count_52 : decode cX11_count 52 = .ok (.getfield 124, 3) := by decide +kernel
theorem dX11_count_55 : decode cX11_count 55 = .ok (.ireturn, 1) := by decide +kernel
theorem dX11_count_56 : decode cX11_count 56 = .ok (.aload_n 0, 1) := by decide +kernel
theorem dX11_count_57 : decode cX11_count 57 = .ok (.getfield 104, 3) := by decide +kernel
theorem dX11_count_60 : decode cX11_count 60 = .ok (.ireturn, 1) := by decide +kernel
theorem dX11_count_61 : decode cX11_count 61 = .ok (.iload_n 1, 1) := by decide +kernel
theorem dX11_count_62 : decode cX11_count 62 = .ok (.iconst 0, 1) := by decide +kernel
theorem dX11_count_63 : decode cX11_count 63 = .ok (.iconst 2, 1) := by decide +kernel
theorem dX11_count_64 : decode cX11_count 64 = .ok (.invokestatic 114, 3) := by decide +kernel
theorem dX11_count_67 : decode cX11_count 67 = .ok (.ifCond .eq 12, 3) := by decide +kernel
theorem dX11_count_70 : decode cX11_count 70 = .ok (.aload_n 0, 1) := by decide +kernel
theorem dX11_count_71 : decode cX11_count 71 = .ok (.getfield 7, 3) := by decide +kernel
theorem dX11_count_74 : decode cX11_count 74 = .ok (.iload_n 1, 1) := by decide +kernel
theorem dX11_count_75 : decode cX11_count 75 = .ok (.iaload, 1) := by decide +kernel
theorem dX11_count_76 : decode cX11_count 76 = .ok (.goto 5, 3) := by decide +kernel
theorem dX11_count_79 : decode cX11_count 79 = .ok (.bipush (-2), 2) := by decide +kernel
theorem dX11_count_81 : decode cX11_count 81 = .ok (.ireturn, 1) := by decide +kernel
theorem dX11_isByte_0 : decode cX11_isByte 0 = .ok (.iload_n 0, 1) := by decide +kernel
theorem dX11_isByte_1 : decode cX11_isByte 1 = .ok (.iconst 0, 1) := by decide +kernel
theorem dX11_isByte_2 : decode cX11_isByte 2 = .ok (.sipush 255, 3) := by decide +kernel
theorem dX11_isByte_5 : decode cX11_isByte 5 = .ok (.invokestatic 114, 3) := by decide +kernel
theorem dX11_isByte_8 : decode cX11_isByte 8 = .ok (.ireturn, 1) := by decide +kernel
theorem dX11_feed_0 : decode cX11_feed 0 = .ok (.iload_n 1, 1) := by decide +kernel
theorem dX11_feed_1 : decode cX11_feed 1 = .ok (.iconst 1, 1) := by decide +kernel
theorem dX11_feed_2 : decode cX11_feed 2 = .ok (.iconst 5, 1) := by decide +kernel
theorem dX11_feed_3 : decode cX11_feed 3 = .ok (.invokestatic 114, 3) := by decide +kernel
theorem dX11_feed_6 : decode cX11_feed 6 = .ok (.ifCond .eq 41, 3) := by decide +kernel
theorem dX11_feed_9 : decode cX11_feed 9 = .ok (.iload_n 2, 1) := by decide +kernel
theorem dX11_feed_10 : decode cX11_feed 10 = .ok (.invokestatic 127, 3) := by decide +kernel
theorem dX11_feed_13 : decode cX11_feed 13 = .ok (.ifCond .eq 34, 3) := by decide +kernel
theorem dX11_feed_16 : decode cX11_feed 16 = .ok (.iload_n 3, 1) := by decide +kernel
theorem dX11_feed_17 : decode cX11_feed 17 = .ok (.invokestatic 127, 3) := by decide +kernel
theorem dX11_feed_20 : decode cX11_feed 20 = .ok (.ifCond .eq 27, 3) := by decide +kernel
theorem dX11_feed_23 : decode cX11_feed 23 = .ok (.iload 4, 2) := by decide +kernel
theorem dX11_feed_25 : decode cX11_feed 25 = .ok (.invokestatic 127, 3) := by decide +kernel
theorem dX11_feed_28 : decode cX11_feed 28 = .ok (.ifCond .eq 19, 3) := by decide +kernel
theorem dX11_feed_31 : decode cX11_feed 31 = .ok (.iload 5, 2) := by decide +kernel
theorem dX11_feed_33 : decode cX11_feed 33 = .ok (.invokestatic 127, 3) := by decide +kernel
theorem dX11_feed_36 : decode cX11_feed 36 = .ok (.ifCond .eq 11, 3) := by decide +kernel
theorem dX11_feed_39 : decode cX11_feed 39 = .ok (.iload 6, 2) := by decide +kernel
theorem dX11_feed_41 : decode cX11_feed 41 = .ok (.invokestatic 127, 3) := by decide +kernel
theorem dX11_feed_44 : decode cX11_feed 44 = .ok (.ifCond .ne 6, 3) := by decide +kernel
theorem dX11_feed_47 : decode cX11_feed 47 = .ok (.bipush (-2), 2) := by decide +kernel
theorem dX11_feed_49 : decode cX11_feed 49 = .ok (.ireturn, 1) := by decide +kernel
theorem dX11_feed_50 : decode cX11_feed 50 = .ok (.aload_n 0, 1) := by decide +kernel
theorem dX11_feed_51 : decode cX11_feed 51 = .ok (.getfield 104, 3) := by decide +kernel
theorem dX11_feed_54 : decode cX11_feed 54 = .ok (.iload_n 1, 1) := by decide +kernel
theorem dX11_feed_55 : decode cX11_feed 55 = .ok (.iadd, 1) := by decide +kernel
theorem dX11_feed_56 : decode cX11_feed 56 = .ok (.sipush 160, 3) := by decide +kernel
theorem dX11_feed_59 : decode cX11_feed 59 = .ok (.if_icmp .le 6, 3) := by decide +kernel
theorem dX11_feed_62 : decode cX11_feed 62 = .ok (.bipush (-4), 2) := by decide +kernel
theorem dX11_feed_64 : decode cX11_feed 64 = .ok (.ireturn, 1) := by decide +kernel
theorem dX11_feed_65 : decode cX11_feed 65 = .ok (.iconst 0, 1) := by decide +kernel
theorem dX11_feed_66 : decode cX11_feed 66 = .ok (.istore 7, 2) := by decide +kernel
theorem dX11_feed_68 : decode cX11_feed 68 = .ok (.iload 7, 2) := by decide +kernel
theorem dX11_feed_70 : decode cX11_feed 70 = .ok (.iload_n 1, 1) := by decide +kernel
theorem dX11_feed_71 : decode cX11_feed 71 = .ok (.if_icmp .ge 71, 3) := by decide +kernel
theorem dX11_feed_74 : decode cX11_feed 74 = .ok (.aload_n 0, 1) := by decide +kernel
theorem dX11_feed_75 : decode cX11_feed 75 = .ok (.getfield 34, 3) := by decide +kernel
theorem dX11_feed_78 : decode cX11_feed 78 = .ok (.aload_n 0, 1) := by decide +kernel
theorem dX11_feed_79 : decode cX11_feed 79 = .ok (.getfield 104, 3) := by decide +kernel
theorem dX11_feed_82 : decode cX11_feed 82 = .ok (.iload 7, 2) := by decide +kernel
theorem dX11_feed_84 : decode cX11_feed 84 = .ok (.ifCond .ne 7, 3) := by decide +kernel
theorem dX11_feed_87 : decode cX11_feed 87 = .ok (.iload_n 2, 1) := by decide +kernel
theorem dX11_feed_88 : decode cX11_feed 88 = .ok (.goto 37, 3) := by decide +kernel
theorem dX11_feed_91 : decode cX11_feed 91 = .ok (.iload 7, 2) := by decide +kernel
theorem dX11_feed_93 : decode cX11_feed 93 = .ok (.iconst 1, 1) := by decide +kernel
theorem dX11_feed_94 : decode cX11_feed 94 = .ok (.if_icmp .ne 7, 3) := by decide +kernel
theorem dX11_feed_97 : decode cX11_feed 97 = .ok (.iload_n 3, 1) := by decide +kernel
theorem dX11_feed_98 : decode cX11_feed 98 = .ok (.goto 27, 3) := by decide +kernel
theorem dX11_feed_101 : decode cX11_feed 101 = .ok (.iload 7, 2) := by decide +kernel
theorem dX11_feed_103 : decode cX11_feed 103 = .ok (.iconst 2, 1) := by decide +kernel
theorem dX11_feed_104 : decode cX11_feed 104 = .ok (.if_icmp .ne 8, 3) := by decide +kernel
theorem dX11_feed_107 : decode cX11_feed 107 = .ok (.iload 4, 2) := by decide +kernel
theorem dX11_feed_109 : decode cX11_feed 109 = .ok (.goto 16, 3) := by decide +kernel
theorem dX11_feed_112 : decode cX11_feed 112 = .ok (.iload 7, 2) := by decide +kernel
theorem dX11_feed_114 : decode cX11_feed 114 = .ok (.iconst 3, 1) := by decide +kernel
theorem dX11_feed_115 : decode cX11_feed 115 = .ok (.if_icmp .ne 8, 3) := by decide +kernel
theorem dX11_feed_118 : decode cX11_feed 118 = .ok (.iload 5, 2) := by decide +kernel
theorem dX11_feed_120 : decode cX11_feed 120 = .ok (.goto 5, 3) := by decide +kernel
theorem dX11_feed_123 : decode cX11_feed 123 = .ok (.iload 6, 2) := by decide +kernel
theorem dX11_feed_125 : decode cX11_feed 125 = .ok (.iastore, 1) := by decide +kernel
theorem dX11_feed_126 : decode cX11_feed 126 = .ok (.aload_n 0, 1) := by decide +kernel
theorem dX11_feed_127 : decode cX11_feed 127 = .ok (.dup, 1) := by decide +kernel
theorem dX11_feed_128 : decode cX11_feed 128 = .ok (.getfield 104, 3) := by decide +kernel
theorem dX11_feed_131 : decode cX11_feed 131 = .ok (.iconst 1, 1) := by decide +kernel
theorem dX11_feed_132 : decode cX11_feed 132 = .ok (.iadd, 1) := by decide +kernel
theorem dX11_feed_133 : decode cX11_feed 133 = .ok (.putfield 104, 3) := by decide +kernel
theorem dX11_feed_136 : decode cX11_feed 136 = .ok (.iinc 7 1, 3) := by decide +kernel
theorem dX11_feed_139 : decode cX11_feed 139 = .ok (.goto (-71), 3) := by decide +kernel
theorem dX11_feed_142 : decode cX11_feed 142 = .ok (.aload_n 0, 1) := by decide +kernel
theorem dX11_feed_143 : decode cX11_feed 143 = .ok (.getfield 104, 3) := by decide +kernel
theorem dX11_feed_146 : decode cX11_feed 146 = .ok (.ireturn, 1) := by decide +kernel
theorem dX11_wordFrom_0 : decode cX11_wordFrom 0 = .ok (.iconst 0, 1) := by decide +kernel
theorem dX11_wordFrom_1 : decode cX11_wordFrom 1 = .ok (.istore_n 3, 1) := by decide +kernel
theorem dX11_wordFrom_2 : decode cX11_wordFrom 2 = .ok (.iload_n 3, 1) := by decide +kernel
theorem dX11_wordFrom_3 : decode cX11_wordFrom 3 = .ok (.bipush 12, 2) := by decide +kernel
theorem dX11_wordFrom_5 : decode cX11_wordFrom 5 = .ok (.if_icmp .ge 96, 3) := by decide +kernel
theorem dX11_wordFrom_8 : decode cX11_wordFrom 8 = .ok (.iload_n 2, 1) := by decide +kernel
theorem dX11_wordFrom_9 : decode cX11_wordFrom 9 = .ok (.iload_n 1, 1) := by decide +kernel
theorem dX11_wordFrom_10 : decode cX11_wordFrom 10 = .ok (.isub, 1) := by decide +kernel
theorem dX11_wordFrom_11 : decode cX11_wordFrom 11 = .ok (.bipush 8, 2) := by decide +kernel
theorem dX11_wordFrom_13 : decode cX11_wordFrom 13 = .ok (.if_icmp .gt 7, 3) := by decide +kernel
theorem dX11_wordFrom_16 : decode cX11_wordFrom 16 = .ok (.iconst 1, 1) := by decide +kernel
theorem dX11_wordFrom_17 : decode cX11_wordFrom 17 = .ok (.goto 4, 3) := by decide +kernel
theorem dX11_wordFrom_20 : decode cX11_wordFrom 20 = .ok (.iconst 0, 1) := by decide +kernel
theorem dX11_wordFrom_21 : decode cX11_wordFrom 21 = .ok (.istore 4, 2) := by decide +kernel
theorem dX11_wordFrom_23 : decode cX11_wordFrom 23 = .ok (.iconst 0, 1) := by decide +kernel
theorem dX11_wordFrom_24 : decode cX11_wordFrom 24 = .ok (.istore 5, 2) := by decide +kernel
theorem dX11_wordFrom_26 : decode cX11_wordFrom 26 = .ok (.iload 5, 2) := by decide +kernel
theorem dX11_wordFrom_28 : decode cX11_wordFrom 28 = .ok (.bipush 8, 2) := by decide +kernel
theorem dX11_wordFrom_30 : decode cX11_wordFrom 30 = .ok (.if_icmp .ge 58, 3) := by decide +kernel
theorem dX11_wordFrom_33 : decode cX11_wordFrom 33 = .ok (.iload 4, 2) := by decide +kernel
theorem dX11_wordFrom_35 : decode cX11_wordFrom 35 = .ok (.ifCond .eq 53, 3) := by decide +kernel
theorem dX11_wordFrom_38 : decode cX11_wordFrom 38 = .ok (.aload_n 0, 1) := by decide +kernel
theorem dX11_wordFrom_39 : decode cX11_wordFrom 39 = .ok (.getfield 67, 3) := by decide +kernel
theorem dX11_wordFrom_42 : decode cX11_wordFrom 42 = .ok (.bipush 8, 2) := by decide +kernel
theorem dX11_wordFrom_44 : decode cX11_wordFrom 44 = .ok (.iload_n 3, 1) := by decide +kernel
theorem dX11_wordFrom_45 : decode cX11_wordFrom 45 = .ok (.imul, 1) := by decide +kernel
theorem dX11_wordFrom_46 : decode cX11_wordFrom 46 = .ok (.iload 5, 2) := by decide +kernel
theorem dX11_wordFrom_48 : decode cX11_wordFrom 48 = .ok (.iadd, 1) := by decide +kernel
theorem dX11_wordFrom_49 : decode cX11_wordFrom 49 = .ok (.iaload, 1) := by decide +kernel
theorem dX11_wordFrom_50 : decode cX11_wordFrom 50 = .ok (.iload_n 1, 1) := by decide +kernel
theorem dX11_wordFrom_51 : decode cX11_wordFrom 51 = .ok (.iload 5, 2) := by decide +kernel
theorem dX11_wordFrom_53 : decode cX11_wordFrom 53 = .ok (.iadd, 1) := by decide +kernel
theorem dX11_wordFrom_54 : decode cX11_wordFrom 54 = .ok (.iload_n 2, 1) := by decide +kernel
theorem dX11_wordFrom_55 : decode cX11_wordFrom 55 = .ok (.if_icmp .ge 15, 3) := by decide +kernel
theorem dX11_wordFrom_58 : decode cX11_wordFrom 58 = .ok (.aload_n 0, 1) := by decide +kernel
theorem dX11_wordFrom_59 : decode cX11_wordFrom 59 = .ok (.getfield 34, 3) := by decide +kernel
theorem dX11_wordFrom_62 : decode cX11_wordFrom 62 = .ok (.iload_n 1, 1) := by decide +kernel
theorem dX11_wordFrom_63 : decode cX11_wordFrom 63 = .ok (.iload 5, 2) := by decide +kernel
theorem dX11_wordFrom_65 : decode cX11_wordFrom 65 = .ok (.iadd, 1) := by decide +kernel
theorem dX11_wordFrom_66 : decode cX11_wordFrom 66 = .ok (.iaload, 1) := by decide +kernel
theorem dX11_wordFrom_67 : decode cX11_wordFrom 67 = .ok (.goto 5, 3) := by decide +kernel
theorem dX11_wordFrom_70 : decode cX11_wordFrom 70 = .ok (.bipush 32, 2) := by decide +kernel
theorem dX11_wordFrom_72 : decode cX11_wordFrom 72 = .ok (.if_icmp .ne 7, 3) := by decide +kernel
theorem dX11_wordFrom_75 : decode cX11_wordFrom 75 = .ok (.iconst 1, 1) := by decide +kernel
theorem dX11_wordFrom_76 : decode cX11_wordFrom 76 = .ok (.goto 4, 3) := by decide +kernel
theorem dX11_wordFrom_79 : decode cX11_wordFrom 79 = .ok (.iconst 0, 1) := by decide +kernel
theorem dX11_wordFrom_80 : decode cX11_wordFrom 80 = .ok (.istore 4, 2) := by decide +kernel
theorem dX11_wordFrom_82 : decode cX11_wordFrom 82 = .ok (.iinc 5 1, 3) := by decide +kernel
theorem dX11_wordFrom_85 : decode cX11_wordFrom 85 = .ok (.goto (-59), 3) := by decide +kernel
theorem dX11_wordFrom_88 : decode cX11_wordFrom 88 = .ok (.iload 4, 2) := by decide +kernel
theorem dX11_wordFrom_90 : decode cX11_wordFrom 90 = .ok (.ifCond .eq 5, 3) := by decide +kernel
theorem dX11_wordFrom_93 : decode cX11_wordFrom 93 = .ok (.iload_n 3, 1) := by decide +kernel
theorem dX11_wordFrom_94 : decode cX11_wordFrom 94 = .ok (.ireturn, 1) := by decide +kernel
theorem dX11_wordFrom_95 : decode cX11_wordFrom 95 = .ok (.iinc 3 1, 3) := by decide +kernel
theorem dX11_wordFrom_98 : decode cX11_wordFrom 98 = .ok (.goto (-96), 3) := by decide +kernel
theorem dX11_wordFrom_101 : decode cX11_wordFrom 101 = .ok (.bipush 12, 2) := by decide +kernel
theorem dX11_wordFrom_103 : decode cX11_wordFrom 103 = .ok (.ireturn, 1) := by decide +kernel
theorem dX11_next_0 : decode cX11_next 0 = .ok (.aload_n 0, 1) := by decide +kernel
theorem dX11_next_1 : decode cX11_next 1 = .ok (.getfield 131, 3) := by decide +kernel
theorem dX11_next_4 : decode cX11_next 4 = .ok (.aload_n 0, 1) := by decide +kernel
theorem dX11_next_5 : decode cX11_next 5 = .ok (.getfield 104, 3) := by decide +kernel
theorem dX11_next_8 : decode cX11_next 8 = .ok (.if_icmp .ge 44, 3) := by decide +kernel
theorem dX11_next_11 : decode cX11_next 11 = .ok (.aload_n 0, 1) := by decide +kernel
theorem dX11_next_12 : decode cX11_next 12 = .ok (.getfield 34, 3) := by decide +kernel
theorem dX11_next_15 : decode cX11_next 15 = .ok (.aload_n 0, 1) := by decide +kernel
theorem dX11_next_16 : decode cX11_next 16 = .ok (.getfield 131, 3) := by decide +kernel
theorem dX11_next_19 : decode cX11_next 19 = .ok (.iaload, 1) := by decide +kernel
theorem dX11_next_20 : decode cX11_next 20 = .ok (.bipush 32, 2) := by decide +kernel
theorem dX11_next_22 : decode cX11_next 22 = .ok (.if_icmp .eq 17, 3) := by decide +kernel
theorem dX11_next_25 : decode cX11_next 25 = .ok (.aload_n 0, 1) := by decide +kernel
theorem dX11_next_26 : decode cX11_next 26 = .ok (.getfield 34, 3) := by decide +kernel
theorem dX11_next_29 : decode cX11_next 29 = .ok (.aload_n 0, 1) := by decide +kernel
theorem dX11_next_30 : decode cX11_next 30 = .ok (.getfield 131, 3) := by decide +kernel
theorem dX11_next_33 : decode cX11_next 33 = .ok (.iaload, 1) := by decide +kernel
theorem dX11_next_34 : decode cX11_next 34 = .ok (.bipush 10, 2) := by decide +kernel
theorem dX11_next_36 : decode cX11_next 36 = .ok (.if_icmp .ne 16, 3) := by decide +kernel
theorem dX11_next_39 : decode cX11_next 39 = .ok (.aload_n 0, 1) := by decide +kernel
theorem dX11_next_40 : decode cX11_next 40 = .ok (.dup, 1) := by decide +kernel
theorem dX11_next_41 : decode cX11_next 41 = .ok (.getfield 131, 3) := by decide +kernel
theorem dX11_next_44 : decode cX11_next 44 = .ok (.iconst 1, 1) := by decide +kernel
theorem dX11_next_45 : decode cX11_next 45 = .ok (.iadd, 1) := by decide +kernel
theorem dX11_next_46 : decode cX11_next 46 = .ok (.putfield 131, 3) := by decide +kernel
theorem dX11_next_49 : decode cX11_next 49 = .ok (.goto (-49), 3) := by decide +kernel
theorem dX11_next_52 : decode cX11_next 52 = .ok (.aload_n 0, 1) := by decide +kernel
theorem dX11_next_53 : decode cX11_next 53 = .ok (.aload_n 0, 1) := by decide +kernel
theorem dX11_next_54 : decode cX11_next 54 = .ok (.getfield 131, 3) := by decide +kernel
theorem dX11_next_57 : decode cX11_next 57 = .ok (.putfield 134, 3) := by decide +kernel
theorem dX11_next_60 : decode cX11_next 60 = .ok (.aload_n 0, 1) := by decide +kernel
theorem dX11_next_61 : decode cX11_next 61 = .ok (.iconst 0, 1) := by decide +kernel
theorem dX11_next_62 : decode cX11_next 62 = .ok (.putfield 137, 3) := by decide +kernel
theorem dX11_next_65 : decode cX11_next 65 = .ok (.aload_n 0, 1) := by decide +kernel
theorem dX11_next_66 : decode cX11_next 66 = .ok (.iconst 0, 1) := by decide +kernel
theorem dX11_next_67 : decode cX11_next 67 = .ok (.putfield 140, 3) := by decide +kernel
theorem dX11_next_70 : decode cX11_next 70 = .ok (.aload_n 0, 1) := by decide +kernel
theorem dX11_next_71 : decode cX11_next 71 = .ok (.getfield 131, 3) := by decide +kernel
theorem dX11_next_74 : decode cX11_next 74 = .ok (.aload_n 0, 1) := by decide +kernel
theorem dX11_next_75 : decode cX11_next 75 = .ok (.getfield 104, 3) := by decide +kernel
theorem dX11_next_78 : decode cX11_next 78 = .ok (.if_icmp .ne 4, 3) := by decide +kernel
theorem dX11_next_81 : decode cX11_next 81 = .ok (.return_, 1) := by decide +kernel
theorem dX11_next_82 : decode cX11_next 82 = .ok (.aload_n 0, 1) := by decide +kernel
theorem dX11_next_83 : decode cX11_next 83 = .ok (.getfield 34, 3) := by decide +kernel
theorem dX11_next_86 : decode cX11_next 86 = .ok (.aload_n 0, 1) := by decide +kernel
theorem dX11_next_87 : decode cX11_next 87 = .ok (.getfield 131, 3) := by decide +kernel
theorem dX11_next_90 : decode cX11_next 90 = .ok (.iaload, 1) := by decide +kernel
theorem dX11_next_91 : decode cX11_next 91 = .ok (.istore_n 1, 1) := by decide +kernel
theorem dX11_next_92 : decode cX11_next 92 = .ok (.iload_n 1, 1) := by decide +kernel
theorem dX11_next_93 : decode cX11_next 93 = .ok (.bipush 97, 2) := by decide +kernel
theorem dX11_next_95 : decode cX11_next 95 = .ok (.bipush 122, 2) := by decide +kernel
theorem dX11_next_97 : decode cX11_next 97 = .ok (.invokestatic 114, 3) := by decide +kernel
theorem dX11_next_100 : decode cX11_next 100 = .ok (.ifCond .eq 117, 3) := by decide +kernel
theorem dX11_next_103 : decode cX11_next 103 = .ok (.aload_n 0, 1) := by decide +kernel
theorem dX11_next_104 : decode cX11_next 104 = .ok (.getfield 131, 3) := by decide +kernel
theorem dX11_next_107 : decode cX11_next 107 = .ok (.aload_n 0, 1) := by decide +kernel
theorem dX11_next_108 : decode cX11_next 108 = .ok (.getfield 104, 3) := by decide +kernel
theorem dX11_next_111 : decode cX11_next 111 = .ok (.if_icmp .ge 35, 3) := by decide +kernel
theorem dX11_next_114 : decode cX11_next 114 = .ok (.aload_n 0, 1) := by decide +kernel
theorem dX11_next_115 : decode cX11_next 115 = .ok (.getfield 34, 3) := by decide +kernel
theorem dX11_next_118 : decode cX11_next 118 = .ok (.aload_n 0, 1) := by decide +kernel
theorem dX11_next_119 : decode cX11_next 119 = .ok (.getfield 131, 3) := by decide +kernel
theorem dX11_next_122 : decode cX11_next 122 = .ok (.iaload, 1) := by decide +kernel
theorem dX11_next_123 : decode cX11_next 123 = .ok (.bipush 97, 2) := by decide +kernel
theorem dX11_next_125 : decode cX11_next 125 = .ok (.bipush 122, 2) := by decide +kernel
theorem dX11_next_127 : decode cX11_next 127 = .ok (.invokestatic 114, 3) := by decide +kernel
theorem dX11_next_130 : decode cX11_next 130 = .ok (.ifCond .eq 16, 3) := by decide +kernel
theorem dX11_next_133 : decode cX11_next 133 = .ok (.aload_n 0, 1) := by decide +kernel
theorem dX11_next_134 : decode cX11_next 134 = .ok (.dup, 1) := by decide +kernel
theorem dX11_next_135 : decode cX11_next 135 = .ok (.getfield 131, 3) := by decide +kernel
theorem dX11_next_138 : decode cX11_next 138 = .ok (.iconst 1, 1) := by decide +kernel
theorem dX11_next_139 : decode cX11_next 139 = .ok (.iadd, 1) := by decide +kernel
theorem dX11_next_140 : decode cX11_next 140 = .ok (.putfield 131, 3) := by decide +kernel
theorem dX11_next_143 : decode cX11_next 143 = .ok (.goto (-40), 3) := by decide +kernel
theorem dX11_next_146 : decode cX11_next 146 = .ok (.aload_n 0, 1) := by decide +kernel
theorem dX11_next_147 : decode cX11_next 147 = .ok (.aload_n 0, 1) := by decide +kernel
theorem dX11_next_148 : decode cX11_next 148 = .ok (.getfield 134, 3) := by decide +kernel
theorem dX11_next_151 : decode cX11_next 151 = .ok (.aload_n 0, 1) := by decide +kernel
theorem dX11_next_152 : decode cX11_next 152 = .ok (.getfield 131, 3) := by decide +kernel
theorem dX11_next_155 : decode cX11_next 155 = .ok (.invokevirtual 143, 3) := by decide +kernel
theorem dX11_next_158 : decode cX11_next 158 = .ok (.istore_n 2, 1) := by decide +kernel
theorem dX11_next_159 : decode cX11_next 159 = .ok (.aload_n 0, 1) := by decide +kernel
theorem dX11_next_160 : decode cX11_next 160 = .ok (.iload_n 2, 1) := by decide +kernel
theorem dX11_next_161 : decode cX11_next 161 = .ok (.iconst 3, 1) := by decide +kernel
theorem dX11_next_162 : decode cX11_next 162 = .ok (.if_icmp .ge 7, 3) := by decide +kernel
theorem dX11_next_165 : decode cX11_next 165 = .ok (.iconst 3, 1) := by decide +kernel
theorem dX11_next_166 : decode cX11_next 166 = .ok (.goto 29, 3) := by decide +kernel
theorem dX11_next_169 : decode cX11_next 169 = .ok (.iload_n 2, 1) := by decide +kernel
theorem dX11_next_170 : decode cX11_next 170 = .ok (.bipush 9, 2) := by decide +kernel
theorem dX11_next_172 : decode cX11_next 172 = .ok (.if_icmp .ge 7, 3) := by decide +kernel
theorem dX11_next_175 : decode cX11_next 175 = .ok (.iconst 2, 1) := by decide +kernel
theorem dX11_next_176 : decode cX11_next 176 = .ok (.goto 19, 3) := by decide +kernel
theorem dX11_next_179 : decode cX11_next 179 = .ok (.iload_n 2, 1) := by decide +kernel
theorem dX11_next_180 : decode cX11_next 180 = .ok (.bipush 12, 2) := by decide +kernel
theorem dX11_next_182 : decode cX11_next 182 = .ok (.if_icmp .ne 7, 3) := by decide +kernel
theorem dX11_next_185 : decode cX11_next 185 = .ok (.iconst (-1), 1) := by decide +kernel
theorem dX11_next_186 : decode cX11_next 186 = .ok (.goto 9, 3) := by decide +kernel
theorem dX11_next_189 : decode cX11_next 189 = .ok (.iconst 4, 1) := by decide +kernel
theorem dX11_next_190 : decode cX11_next 190 = .ok (.iload_n 2, 1) := by decide +kernel
theorem dX11_next_191 : decode cX11_next 191 = .ok (.iadd, 1) := by decide +kernel
theorem dX11_next_192 : decode cX11_next 192 = .ok (.bipush 9, 2) := by decide +kernel
theorem dX11_next_194 : decode cX11_next 194 = .ok (.isub, 1) := by decide +kernel
theorem dX11_next_195 : decode cX11_next 195 = .ok (.putfield 137, 3) := by decide +kernel
theorem dX11_next_198 : decode cX11_next 198 = .ok (.aload_n 0, 1) := by decide +kernel
theorem dX11_next_199 : decode cX11_next 199 = .ok (.iload_n 2, 1) := by decide +kernel
theorem dX11_next_200 : decode cX11_next 200 = .ok (.iconst 3, 1) := by decide +kernel
theorem dX11_next_201 : decode cX11_next 201 = .ok (.if_icmp .ge 7, 3) := by decide +kernel
theorem dX11_next_204 : decode cX11_next 204 = .ok (.iload_n 2, 1) := by decide +kernel
theorem dX11_next_205 : decode cX11_next 205 = .ok (.goto 6, 3) := by decide +kernel
theorem dX11_next_208 : decode cX11_next 208 = .ok (.iload_n 2, 1) := by decide +kernel
theorem dX11_next_209 : decode cX11_next 209 = .ok (.iconst 3, 1) := by decide +kernel
theorem dX11_next_210 : decode cX11_next 210 = .ok (.isub, 1) := by decide +kernel
theorem dX11_next_211 : decode cX11_next 211 = .ok (.putfield 140, 3) := by decide +kernel
theorem dX11_next_214 : decode cX11_next 214 = .ok (.goto 189, 3) := by decide +kernel
theorem dX11_next_217 : decode cX11_next 217 = .ok (.iload_n 1, 1) := by decide +kernel
theorem dX11_next_218 : decode cX11_next 218 = .ok (.bipush 48, 2) := by decide +kernel
theorem dX11_next_220 : decode cX11_next 220 = .ok (.bipush 57, 2) := by decide +kernel
theorem dX11_next_222 : decode cX11_next 222 = .ok (.invokestatic 114, 3) := by decide +kernel
theorem dX11_next_225 : decode cX11_next 225 = .ok (.ifCond .eq 101, 3) := by decide +kernel
theorem dX11_next_228 : decode cX11_next 228 = .ok (.iconst 0, 1) := by decide +kernel
theorem dX11_next_229 : decode cX11_next 229 = .ok (.istore_n 2, 1) := by decide +kernel
theorem dX11_next_230 : decode cX11_next 230 = .ok (.aload_n 0, 1) := by decide +kernel
theorem dX11_next_231 : decode cX11_next 231 = .ok (.getfield 131, 3) := by decide +kernel
theorem dX11_next_234 : decode cX11_next 234 = .ok (.aload_n 0, 1) := by decide +kernel
theorem dX11_next_235 : decode cX11_next 235 = .ok (.getfield 104, 3) := by decide +kernel
theorem dX11_next_238 : decode cX11_next 238 = .ok (.if_icmp .ge 71, 3) := by decide +kernel
theorem dX11_next_241 : decode cX11_next 241 = .ok (.aload_n 0, 1) := by decide +kernel
theorem dX11_next_242 : decode cX11_next 242 = .ok (.getfield 34, 3) := by decide +kernel
theorem dX11_next_245 : decode cX11_next 245 = .ok (.aload_n 0, 1) := by decide +kernel
theorem dX11_next_246 : decode cX11_next 246 = .ok (.getfield 131, 3) := by decide +kernel
theorem dX11_next_249 : decode cX11_next 249 = .ok (.iaload, 1) := by decide +kernel
theorem dX11_next_250 : decode cX11_next 250 = .ok (.bipush 48, 2) := by decide +kernel
theorem dX11_next_252 : decode cX11_next 252 = .ok (.bipush 57, 2) := by decide +kernel
theorem dX11_next_254 : decode cX11_next 254 = .ok (.invokestatic 114, 3) := by decide +kernel
theorem dX11_next_257 : decode cX11_next 257 = .ok (.ifCond .eq 52, 3) := by decide +kernel
theorem dX11_next_260 : decode cX11_next 260 = .ok (.aload_n 0, 1) := by decide +kernel
theorem dX11_next_261 : decode cX11_next 261 = .ok (.iload_n 2, 1) := by decide +kernel
theorem dX11_next_262 : decode cX11_next 262 = .ok (.iconst 4, 1) := by decide +kernel
theorem dX11_next_263 : decode cX11_next 263 = .ok (.if_icmp .ge 26, 3) := by decide +kernel
theorem dX11_next_266 : decode cX11_next 266 = .ok (.bipush 10, 2) := by decide +kernel
theorem dX11_next_268 : decode cX11_next 268 = .ok (.aload_n 0, 1) := by decide +kernel
theorem dX11_next_269 : decode cX11_next 269 = .ok (.getfield 140, 3) := by decide +kernel
theorem dX11_next_272 : decode cX11_next 272 = .ok (.imul, 1) := by decide +kernel
theorem dX11_next_273 : decode cX11_next 273 = .ok (.aload_n 0, 1) := by decide +kernel
theorem dX11_next_274 : decode cX11_next 274 = .ok (.getfield 34, 3) := by decide +kernel
theorem dX11_next_277 : decode cX11_next 277 = .ok (.aload_n 0, 1) := by decide +kernel
theorem dX11_next_278 : decode cX11_next 278 = .ok (.getfield 131, 3) := by decide +kernel
theorem dX11_next_281 : decode cX11_next 281 = .ok (.iaload, 1) := by decide +kernel
theorem dX11_next_282 : decode cX11_next 282 = .ok (.iadd, 1) := by decide +kernel
theorem dX11_next_283 : decode cX11_next 283 = .ok (.bipush 48, 2) := by decide +kernel
theorem dX11_next_285 : decode cX11_next 285 = .ok (.isub, 1) := by decide +kernel
theorem dX11_next_286 : decode cX11_next 286 = .ok (.goto 4, 3) := by decide +kernel
theorem dX11_next_289 : decode cX11_next 289 = .ok (.iconst 0, 1) := by decide +kernel
theorem dX11_next_290 : decode cX11_next 290 = .ok (.putfield 140, 3) := by decide +kernel
theorem dX11_next_293 : decode cX11_next 293 = .ok (.iinc 2 1, 3) := by decide +kernel
theorem dX11_next_296 : decode cX11_next 296 = .ok (.aload_n 0, 1) := by decide +kernel
theorem dX11_next_297 : decode cX11_next 297 = .ok (.dup, 1) := by decide +kernel
theorem dX11_next_298 : decode cX11_next 298 = .ok (.getfield 131, 3) := by decide +kernel
theorem dX11_next_301 : decode cX11_next 301 = .ok (.iconst 1, 1) := by decide +kernel
theorem dX11_next_302 : decode cX11_next 302 = .ok (.iadd, 1) := by decide +kernel
theorem dX11_next_303 : decode cX11_next 303 = .ok (.putfield 131, 3) := by decide +kernel
theorem dX11_next_306 : decode cX11_next 306 = .ok (.goto (-76), 3) := by decide +kernel
theorem dX11_next_309 : decode cX11_next 309 = .ok (.aload_n 0, 1) := by decide +kernel
theorem dX11_next_310 : decode cX11_next 310 = .ok (.iload_n 2, 1) := by decide +kernel
theorem dX11_next_311 : decode cX11_next 311 = .ok (.iconst 4, 1) := by decide +kernel
theorem dX11_next_312 : decode cX11_next 312 = .ok (.if_icmp .le 7, 3) := by decide +kernel
theorem dX11_next_315 : decode cX11_next 315 = .ok (.iconst (-1), 1) := by decide +kernel
theorem dX11_next_316 : decode cX11_next 316 = .ok (.goto 4, 3) := by decide +kernel
theorem dX11_next_319 : decode cX11_next 319 = .ok (.iconst 1, 1) := by decide +kernel
theorem dX11_next_320 : decode cX11_next 320 = .ok (.putfield 137, 3) := by decide +kernel
theorem dX11_next_323 : decode cX11_next 323 = .ok (.goto 80, 3) := by decide +kernel
theorem dX11_next_326 : decode cX11_next 326 = .ok (.iload_n 1, 1) := by decide +kernel
theorem dX11_next_327 : decode cX11_next 327 = .ok (.bipush 40, 2) := by decide +kernel
theorem dX11_next_329 : decode cX11_next 329 = .ok (.if_icmp .eq 45, 3) := by decide +kernel
theorem dX11_next_332 : decode cX11_next 332 = .ok (.iload_n 1, 1) := by decide +kernel
theorem dX11_next_333 : decode cX11_next 333 = .ok (.bipush 41, 2) := by decide +kernel
theorem dX11_next_335 : decode cX11_next 335 = .ok (.if_icmp .eq 39, 3) := by decide +kernel
theorem dX11_next_338 : decode cX11_next 338 = .ok (.iload_n 1, 1) := by decide +kernel
theorem dX11_next_339 : decode cX11_next 339 = .ok (.bipush 59, 2) := by decide +kernel
theorem dX11_next_341 : decode cX11_next 341 = .ok (.if_icmp .eq 33, 3) := by decide +kernel
theorem dX11_next_344 : decode cX11_next 344 = .ok (.iload_n 1, 1) := by decide +kernel
theorem dX11_next_345 : decode cX11_next 345 = .ok (.bipush 43, 2) := by decide +kernel
theorem dX11_next_347 : decode cX11_next 347 = .ok (.if_icmp .eq 27, 3) := by decide +kernel
theorem dX11_next_350 : decode cX11_next 350 = .ok (.iload_n 1, 1) := by decide +kernel
theorem dX11_next_351 : decode cX11_next 351 = .ok (.bipush 45, 2) := by decide +kernel
theorem dX11_next_353 : decode cX11_next 353 = .ok (.if_icmp .eq 21, 3) := by decide +kernel
theorem dX11_next_356 : decode cX11_next 356 = .ok (.iload_n 1, 1) := by decide +kernel
theorem dX11_next_357 : decode cX11_next 357 = .ok (.bipush 42, 2) := by decide +kernel
theorem dX11_next_359 : decode cX11_next 359 = .ok (.if_icmp .eq 15, 3) := by decide +kernel
theorem dX11_next_362 : decode cX11_next 362 = .ok (.iload_n 1, 1) := by decide +kernel
theorem dX11_next_363 : decode cX11_next 363 = .ok (.bipush 60, 2) := by decide +kernel
theorem dX11_next_365 : decode cX11_next 365 = .ok (.if_icmp .eq 9, 3) := by decide +kernel
theorem dX11_next_368 : decode cX11_next 368 = .ok (.iload_n 1, 1) := by decide +kernel
theorem dX11_next_369 : decode cX11_next 369 = .ok (.bipush 61, 2) := by decide +kernel
theorem dX11_next_371 : decode cX11_next 371 = .ok (.if_icmp .ne 7, 3) := by decide +kernel
theorem dX11_next_374 : decode cX11_next 374 = .ok (.iconst 1, 1) := by decide +kernel
theorem dX11_next_375 : decode cX11_next 375 = .ok (.goto 4, 3) := by decide +kernel
theorem dX11_next_378 : decode cX11_next 378 = .ok (.iconst 0, 1) := by decide +kernel
theorem dX11_next_379 : decode cX11_next 379 = .ok (.istore_n 2, 1) := by decide +kernel
theorem dX11_next_380 : decode cX11_next 380 = .ok (.aload_n 0, 1) := by decide +kernel
theorem dX11_next_381 : decode cX11_next 381 = .ok (.iload_n 2, 1) := by decide +kernel
theorem dX11_next_382 : decode cX11_next 382 = .ok (.ifCond .eq 7, 3) := by decide +kernel
theorem dX11_next_385 : decode cX11_next 385 = .ok (.iload_n 1, 1) := by decide +kernel
theorem dX11_next_386 : decode cX11_next 386 = .ok (.goto 4, 3) := by decide +kernel
theorem dX11_next_389 : decode cX11_next 389 = .ok (.iconst (-1), 1) := by decide +kernel
theorem dX11_next_390 : decode cX11_next 390 = .ok (.putfield 137, 3) := by decide +kernel
theorem dX11_next_393 : decode cX11_next 393 = .ok (.aload_n 0, 1) := by decide +kernel
theorem dX11_next_394 : decode cX11_next 394 = .ok (.dup, 1) := by decide +kernel
theorem dX11_next_395 : decode cX11_next 395 = .ok (.getfield 131, 3) := by decide +kernel
theorem dX11_next_398 : decode cX11_next 398 = .ok (.iconst 1, 1) := by decide +kernel
theorem dX11_next_399 : decode cX11_next 399 = .ok (.iadd, 1) := by decide +kernel
theorem dX11_next_400 : decode cX11_next 400 = .ok (.putfield 131, 3) := by decide +kernel
theorem dX11_next_403 : decode cX11_next 403 = .ok (.return_, 1) := by decide +kernel
theorem dX11_rank_0 : decode cX11_rank 0 = .ok (.iload_n 0, 1) := by decide +kernel
theorem dX11_rank_1 : decode cX11_rank 1 = .ok (.ifCond .ne 7, 3) := by decide +kernel
theorem dX11_rank_4 : decode cX11_rank 4 = .ok (.iconst 0, 1) := by decide +kernel
theorem dX11_rank_5 : decode cX11_rank 5 = .ok (.goto 66, 3) := by decide +kernel
theorem dX11_rank_8 : decode cX11_rank 8 = .ok (.iload_n 0, 1) := by decide +kernel
theorem dX11_rank_9 : decode cX11_rank 9 = .ok (.bipush 11, 2) := by decide +kernel
theorem dX11_rank_11 : decode cX11_rank 11 = .ok (.if_icmp .ne 7, 3) := by decide +kernel
theorem dX11_rank_14 : decode cX11_rank 14 = .ok (.iconst 1, 1) := by decide +kernel
theorem dX11_rank_15 : decode cX11_rank 15 = .ok (.goto 56, 3) := by decide +kernel
theorem dX11_rank_18 : decode cX11_rank 18 = .ok (.iload_n 0, 1) := by decide +kernel
theorem dX11_rank_19 : decode cX11_rank 19 = .ok (.bipush 12, 2) := by decide +kernel
theorem dX11_rank_21 : decode cX11_rank 21 = .ok (.if_icmp .ne 7, 3) := by decide +kernel
theorem dX11_rank_24 : decode cX11_rank 24 = .ok (.iconst 2, 1) := by decide +kernel
theorem dX11_rank_25 : decode cX11_rank 25 = .ok (.goto 46, 3) := by decide +kernel
theorem dX11_rank_28 : decode cX11_rank 28 = .ok (.iload_n 0, 1) := by decide +kernel
theorem dX11_rank_29 : decode cX11_rank 29 = .ok (.bipush 13, 2) := by decide +kernel
theorem dX11_rank_31 : decode cX11_rank 31 = .ok (.if_icmp .ne 7, 3) := by decide +kernel
theorem dX11_rank_34 : decode cX11_rank 34 = .ok (.iconst 3, 1) := by decide +kernel
theorem dX11_rank_35 : decode cX11_rank 35 = .ok (.goto 36, 3) := by decide +kernel
theorem dX11_rank_38 : decode cX11_rank 38 = .ok (.iload_n 0, 1) := by decide +kernel
theorem dX11_rank_39 : decode cX11_rank 39 = .ok (.bipush 15, 2) := by decide +kernel
theorem dX11_rank_41 : decode cX11_rank 41 = .ok (.if_icmp .gt 7, 3) := by decide +kernel
theorem dX11_rank_44 : decode cX11_rank 44 = .ok (.iconst 4, 1) := by decide +kernel
theorem dX11_rank_45 : decode cX11_rank 45 = .ok (.goto 26, 3) := by decide +kernel
theorem dX11_rank_48 : decode cX11_rank 48 = .ok (.iload_n 0, 1) := by decide +kernel
theorem dX11_rank_49 : decode cX11_rank 49 = .ok (.bipush 17, 2) := by decide +kernel
theorem dX11_rank_51 : decode cX11_rank 51 = .ok (.if_icmp .gt 7, 3) := by decide +kernel
theorem dX11_rank_54 : decode cX11_rank 54 = .ok (.iconst 5, 1) := by decide +kernel
theorem dX11_rank_55 : decode cX11_rank 55 = .ok (.goto 16, 3) := by decide +kernel
theorem dX11_rank_58 : decode cX11_rank 58 = .ok (.iload_n 0, 1) := by decide +kernel
theorem dX11_rank_59 : decode cX11_rank 59 = .ok (.bipush 18, 2) := by decide +kernel
theorem dX11_rank_61 : decode cX11_rank 61 = .ok (.if_icmp .ne 8, 3) := by decide +kernel
theorem dX11_rank_64 : decode cX11_rank 64 = .ok (.bipush 6, 2) := by decide +kernel
theorem dX11_rank_66 : decode cX11_rank 66 = .ok (.goto 5, 3) := by decide +kernel
theorem dX11_rank_69 : decode cX11_rank 69 = .ok (.bipush 7, 2) := by decide +kernel
theorem dX11_rank_71 : decode cX11_rank 71 = .ok (.ireturn, 1) := by decide +kernel
theorem dX11_puts_0 : decode cX11_puts 0 = .ok (.aload_n 0, 1) := by decide +kernel
theorem dX11_puts_1 : decode cX11_puts 1 = .ok (.getfield 37, 3) := by decide +kernel
theorem dX11_puts_4 : decode cX11_puts 4 = .ok (.sipush 200, 3) := by decide +kernel
theorem dX11_puts_7 : decode cX11_puts 7 = .ok (.aload_n 0, 1) := by decide +kernel
theorem dX11_puts_8 : decode cX11_puts 8 = .ok (.getfield 121, 3) := by decide +kernel
theorem dX11_puts_11 : decode cX11_puts 11 = .ok (.imul, 1) := by decide +kernel
theorem dX11_puts_12 : decode cX11_puts 12 = .ok (.aload_n 0, 1) := by decide +kernel
theorem dX11_puts_13 : decode cX11_puts 13 = .ok (.getfield 147, 3) := by decide +kernel
theorem dX11_puts_16 : decode cX11_puts 16 = .ok (.iadd, 1) := by decide +kernel
theorem dX11_puts_17 : decode cX11_puts 17 = .ok (.iload_n 1, 1) := by decide +kernel
theorem dX11_puts_18 : decode cX11_puts 18 = .ok (.iastore, 1) := by decide +kernel
theorem dX11_puts_19 : decode cX11_puts 19 = .ok (.aload_n 0, 1) := by decide +kernel
theorem dX11_puts_20 : decode cX11_puts 20 = .ok (.dup, 1) := by decide +kernel
theorem dX11_puts_21 : decode cX11_puts 21 = .ok (.getfield 147, 3) := by decide +kernel
theorem dX11_puts_24 : decode cX11_puts 24 = .ok (.iconst 1, 1) := by decide +kernel
theorem dX11_puts_25 : decode cX11_puts 25 = .ok (.iadd, 1) := by decide +kernel
theorem dX11_puts_26 : decode cX11_puts 26 = .ok (.putfield 147, 3) := by decide +kernel
theorem dX11_puts_29 : decode cX11_puts 29 = .ok (.return_, 1) := by decide +kernel
theorem dX11_unwinds_0 : decode cX11_unwinds 0 = .ok (.aload_n 0, 1) := by decide +kernel
theorem dX11_unwinds_1 : decode cX11_unwinds 1 = .ok (.getfield 150, 3) := by decide +kernel
theorem dX11_unwinds_4 : decode cX11_unwinds 4 = .ok (.ifCond .le 75, 3) := by decide +kernel
theorem dX11_unwinds_7 : decode cX11_unwinds 7 = .ok (.aload_n 0, 1) := by decide +kernel
theorem dX11_unwinds_8 : decode cX11_unwinds 8 = .ok (.getfield 70, 3) := by decide +kernel
theorem dX11_unwinds_11 : decode cX11_unwinds 11 = .ok (.aload_n 0, 1) := by decide +kernel
theorem dX11_unwinds_12 : decode cX11_unwinds 12 = .ok (.getfield 150, 3) := by decide +kernel
theorem dX11_unwinds_15 : decode cX11_unwinds 15 = .ok (.iconst 1, 1) := by decide +kernel
theorem dX11_unwinds_16 : decode cX11_unwinds 16 = .ok (.isub, 1) := by decide +kernel
theorem dX11_unwinds_17 : decode cX11_unwinds 17 = .ok (.iaload, 1) := by decide +kernel
theorem dX11_unwinds_18 : decode cX11_unwinds 18 = .ok (.invokestatic 153, 3) := by decide +kernel
theorem dX11_unwinds_21 : decode cX11_unwinds 21 = .ok (.iload_n 1, 1) := by decide +kernel
theorem dX11_unwinds_22 : decode cX11_unwinds 22 = .ok (.if_icmp .lt 57, 3) := by decide +kernel
theorem dX11_unwinds_25 : decode cX11_unwinds 25 = .ok (.aload_n 0, 1) := by decide +kernel
theorem dX11_unwinds_26 : decode cX11_unwinds 26 = .ok (.dup, 1) := by decide +kernel
theorem dX11_unwinds_27 : decode cX11_unwinds 27 = .ok (.getfield 150, 3) := by decide +kernel
theorem dX11_unwinds_30 : decode cX11_unwinds 30 = .ok (.iconst 1, 1) := by decide +kernel
theorem dX11_unwinds_31 : decode cX11_unwinds 31 = .ok (.isub, 1) := by decide +kernel
theorem dX11_unwinds_32 : decode cX11_unwinds 32 = .ok (.putfield 150, 3) := by decide +kernel
theorem dX11_unwinds_35 : decode cX11_unwinds 35 = .ok (.aload_n 0, 1) := by decide +kernel
theorem dX11_unwinds_36 : decode cX11_unwinds 36 = .ok (.getfield 70, 3) := by decide +kernel
theorem dX11_unwinds_39 : decode cX11_unwinds 39 = .ok (.aload_n 0, 1) := by decide +kernel
theorem dX11_unwinds_40 : decode cX11_unwinds 40 = .ok (.getfield 150, 3) := by decide +kernel
theorem dX11_unwinds_43 : decode cX11_unwinds 43 = .ok (.iaload, 1) := by decide +kernel
theorem dX11_unwinds_44 : decode cX11_unwinds 44 = .ok (.istore_n 2, 1) := by decide +kernel
theorem dX11_unwinds_45 : decode cX11_unwinds 45 = .ok (.aload_n 0, 1) := by decide +kernel
theorem dX11_unwinds_46 : decode cX11_unwinds 46 = .ok (.dup, 1) := by decide +kernel
theorem dX11_unwinds_47 : decode cX11_unwinds 47 = .ok (.getfield 157, 3) := by decide +kernel
theorem dX11_unwinds_50 : decode cX11_unwinds 50 = .ok (.iload_n 2, 1) := by decide +kernel
theorem dX11_unwinds_51 : decode cX11_unwinds 51 = .ok (.bipush 13, 2) := by decide +kernel
theorem dX11_unwinds_53 : decode cX11_unwinds 53 = .ok (.if_icmp .eq 9, 3) := by decide +kernel
theorem dX11_unwinds_56 : decode cX11_unwinds 56 = .ok (.iload_n 2, 1) := by decide +kernel
theorem dX11_unwinds_57 : decode cX11_unwinds 57 = .ok (.bipush 19, 2) := by decide +kernel
theorem dX11_unwinds_59 : decode cX11_unwinds 59 = .ok (.if_icmp .ne 7, 3) := by decide +kernel
theorem dX11_unwinds_62 : decode cX11_unwinds 62 = .ok (.iconst 1, 1) := by decide +kernel
theorem dX11_unwinds_63 : decode cX11_unwinds 63 = .ok (.goto 4, 3) := by decide +kernel
theorem dX11_unwinds_66 : decode cX11_unwinds 66 = .ok (.iconst 0, 1) := by decide +kernel
theorem dX11_unwinds_67 : decode cX11_unwinds 67 = .ok (.isub, 1) := by decide +kernel
theorem dX11_unwinds_68 : decode cX11_unwinds 68 = .ok (.putfield 157, 3) := by decide +kernel
theorem dX11_unwinds_71 : decode cX11_unwinds 71 = .ok (.aload_n 0, 1) := by decide +kernel
theorem dX11_unwinds_72 : decode cX11_unwinds 72 = .ok (.iload_n 2, 1) := by decide +kernel
theorem dX11_unwinds_73 : decode cX11_unwinds 73 = .ok (.invokevirtual 160, 3) := by decide +kernel
theorem dX11_unwinds_76 : decode cX11_unwinds 76 = .ok (.goto (-76), 3) := by decide +kernel
theorem dX11_unwinds_79 : decode cX11_unwinds 79 = .ok (.return_, 1) := by decide +kernel
theorem dX11_holds_0 : decode cX11_holds 0 = .ok (.aload_n 0, 1) := by decide +kernel
theorem dX11_holds_1 : decode cX11_holds 1 = .ok (.getfield 70, 3) := by decide +kernel
theorem dX11_holds_4 : decode cX11_holds 4 = .ok (.aload_n 0, 1) := by decide +kernel
theorem dX11_holds_5 : decode cX11_holds 5 = .ok (.getfield 150, 3) := by decide +kernel
theorem dX11_holds_8 : decode cX11_holds 8 = .ok (.iload_n 1, 1) := by decide +kernel
theorem dX11_holds_9 : decode cX11_holds 9 = .ok (.iastore, 1) := by decide +kernel
theorem dX11_holds_10 : decode cX11_holds 10 = .ok (.aload_n 0, 1) := by decide +kernel
theorem dX11_holds_11 : decode cX11_holds 11 = .ok (.dup, 1) := by decide +kernel
theorem dX11_holds_12 : decode cX11_holds 12 = .ok (.getfield 150, 3) := by decide +kernel
theorem dX11_holds_15 : decode cX11_holds 15 = .ok (.iconst 1, 1) := by decide +kernel
theorem dX11_holds_16 : decode cX11_holds 16 = .ok (.iadd, 1) := by decide +kernel
theorem dX11_holds_17 : decode cX11_holds 17 = .ok (.putfield 150, 3) := by decide +kernel
theorem dX11_holds_20 : decode cX11_holds 20 = .ok (.return_, 1) := by decide +kernel
theorem dX11_opensOne_0 : decode cX11_opensOne 0 = .ok (.aload_n 0, 1) := by decide +kernel
theorem dX11_opensOne_1 : decode cX11_opensOne 1 = .ok (.getfield 157, 3) := by decide +kernel
theorem dX11_opensOne_4 : decode cX11_opensOne 4 = .ok (.iconst 5, 1) := by decide +kernel
theorem dX11_opensOne_5 : decode cX11_opensOne 5 = .ok (.if_icmp .ne 5, 3) := by decide +kernel
theorem dX11_opensOne_8 : decode cX11_opensOne 8 = .ok (.iconst 0, 1) := by decide +kernel
theorem dX11_opensOne_9 : decode cX11_opensOne 9 = .ok (.ireturn, 1) := by decide +kernel
theorem dX11_opensOne_10 : decode cX11_opensOne 10 = .ok (.aload_n 0, 1) := by decide +kernel
theorem dX11_opensOne_11 : decode cX11_opensOne 11 = .ok (.dup, 1) := by decide +kernel
theorem dX11_opensOne_12 : decode cX11_opensOne 12 = .ok (.getfield 157, 3) := by decide +kernel
theorem dX11_opensOne_15 : decode cX11_opensOne 15 = .ok (.iconst 1, 1) := by decide +kernel
theorem dX11_opensOne_16 : decode cX11_opensOne 16 = .ok (.iadd, 1) := by decide +kernel
theorem dX11_opensOne_17 : decode cX11_opensOne 17 = .ok (.putfield 157, 3) := by decide +kernel
theorem dX11_opensOne_20 : decode cX11_opensOne 20 = .ok (.aload_n 0, 1) := by decide +kernel
theorem dX11_opensOne_21 : decode cX11_opensOne 21 = .ok (.iload_n 1, 1) := by decide +kernel
theorem dX11_opensOne_22 : decode cX11_opensOne 22 = .ok (.invokevirtual 164, 3) := by decide +kernel
theorem dX11_opensOne_25 : decode cX11_opensOne 25 = .ok (.iconst 1, 1) := by decide +kernel
theorem dX11_opensOne_26 : decode cX11_opensOne 26 = .ok (.ireturn, 1) := by decide +kernel
theorem dX11_between_0 : decode cX11_between 0 = .ok (.aload_n 0, 1) := by decide +kernel
theorem dX11_between_1 : decode cX11_between 1 = .ok (.iload_n 1, 1) := by decide +kernel
theorem dX11_between_2 : decode cX11_between 2 = .ok (.invokestatic 153, 3) := by decide +kernel
theorem dX11_between_5 : decode cX11_between 5 = .ok (.iconst 4, 1) := by decide +kernel
theorem dX11_between_6 : decode cX11_between 6 = .ok (.if_icmp .ne 7, 3) := by decide +kernel
theorem dX11_between_9 : decode cX11_between 9 = .ok (.iconst 5, 1) := by decide +kernel
theorem dX11_between_10 : decode cX11_between 10 = .ok (.goto 7, 3) := by decide +kernel
theorem dX11_between_13 : decode cX11_between 13 = .ok (.iload_n 1, 1) := by decide +kernel
theorem dX11_between_14 : decode cX11_between 14 = .ok (.invokestatic 153, 3) := by decide +kernel
theorem dX11_between_17 : decode cX11_between 17 = .ok (.invokevirtual 167, 3) := by decide +kernel
theorem dX11_between_20 : decode cX11_between 20 = .ok (.iload_n 1, 1) := by decide +kernel
theorem dX11_between_21 : decode cX11_between 21 = .ok (.invokestatic 153, 3) := by decide +kernel
theorem dX11_between_24 : decode cX11_between 24 = .ok (.iconst 4, 1) := by decide +kernel
theorem dX11_between_25 : decode cX11_between 25 = .ok (.if_icmp .ne 30, 3) := by decide +kernel
theorem dX11_between_28 : decode cX11_between 28 = .ok (.aload_n 0, 1) := by decide +kernel
theorem dX11_between_29 : decode cX11_between 29 = .ok (.getfield 150, 3) := by decide +kernel
theorem dX11_between_32 : decode cX11_between 32 = .ok (.ifCond .le 23, 3) := by decide +kernel
theorem dX11_between_35 : decode cX11_between 35 = .ok (.aload_n 0, 1) := by decide +kernel
theorem dX11_between_36 : decode cX11_between 36 = .ok (.getfield 70, 3) := by decide +kernel
theorem dX11_between_39 : decode cX11_between 39 = .ok (.aload_n 0, 1) := by decide +kernel
theorem dX11_between_40 : decode cX11_between 40 = .ok (.getfield 150, 3) := by decide +kernel
theorem dX11_between_43 : decode cX11_between 43 = .ok (.iconst 1, 1) := by decide +kernel
theorem dX11_between_44 : decode cX11_between 44 = .ok (.isub, 1) := by decide +kernel
theorem dX11_between_45 : decode cX11_between 45 = .ok (.iaload, 1) := by decide +kernel
theorem dX11_between_46 : decode cX11_between 46 = .ok (.invokestatic 153, 3) := by decide +kernel
theorem dX11_between_49 : decode cX11_between 49 = .ok (.iconst 4, 1) := by decide +kernel
theorem dX11_between_50 : decode cX11_between 50 = .ok (.if_icmp .ne 5, 3) := by decide +kernel
theorem dX11_between_53 : decode cX11_between 53 = .ok (.iconst 0, 1) := by decide +kernel
theorem dX11_between_54 : decode cX11_between 54 = .ok (.ireturn, 1) := by decide +kernel
theorem dX11_between_55 : decode cX11_between 55 = .ok (.aload_n 0, 1) := by decide +kernel
theorem dX11_between_56 : decode cX11_between 56 = .ok (.iload_n 1, 1) := by decide +kernel
theorem dX11_between_57 : decode cX11_between 57 = .ok (.invokevirtual 164, 3) := by decide +kernel
theorem dX11_between_60 : decode cX11_between 60 = .ok (.iconst 1, 1) := by decide +kernel
theorem dX11_between_61 : decode cX11_between 61 = .ok (.ireturn, 1) := by decide +kernel
theorem dX11_signOf_0 : decode cX11_signOf 0 = .ok (.aload_n 0, 1) := by decide +kernel
theorem dX11_signOf_1 : decode cX11_signOf 1 = .ok (.getfield 137, 3) := by decide +kernel
theorem dX11_signOf_4 : decode cX11_signOf 4 = .ok (.iconst 4, 1) := by decide +kernel
theorem dX11_signOf_5 : decode cX11_signOf 5 = .ok (.if_icmp .ne 8, 3) := by decide +kernel
theorem dX11_signOf_8 : decode cX11_signOf 8 = .ok (.bipush 11, 2) := by decide +kernel
theorem dX11_signOf_10 : decode cX11_signOf 10 = .ok (.goto 87, 3) := by decide +kernel
theorem dX11_signOf_13 : decode cX11_signOf 13 = .ok (.aload_n 0, 1) := by decide +kernel
theorem dX11_signOf_14 : decode cX11_signOf 14 = .ok (.getfield 137, 3) := by decide +kernel
theorem dX11_signOf_17 : decode cX11_signOf 17 = .ok (.iconst 5, 1) := by decide +kernel
theorem dX11_signOf_18 : decode cX11_signOf 18 = .ok (.if_icmp .ne 8, 3) := by decide +kernel
theorem dX11_signOf_21 : decode cX11_signOf 21 = .ok (.bipush 12, 2) := by decide +kernel
theorem dX11_signOf_23 : decode cX11_signOf 23 = .ok (.goto 74, 3) := by decide +kernel
theorem dX11_signOf_26 : decode cX11_signOf 26 = .ok (.aload_n 0, 1) := by decide +kernel
theorem dX11_signOf_27 : decode cX11_signOf 27 = .ok (.getfield 137, 3) := by decide +kernel
theorem dX11_signOf_30 : decode cX11_signOf 30 = .ok (.bipush 60, 2) := by decide +kernel
theorem dX11_signOf_32 : decode cX11_signOf 32 = .ok (.if_icmp .ne 8, 3) := by decide +kernel
theorem dX11_signOf_35 : decode cX11_signOf 35 = .ok (.bipush 14, 2) := by decide +kernel
theorem dX11_signOf_37 : decode cX11_signOf 37 = .ok (.goto 60, 3) := by decide +kernel
theorem dX11_signOf_40 : decode cX11_signOf 40 = .ok (.aload_n 0, 1) := by decide +kernel
theorem dX11_signOf_41 : decode cX11_signOf 41 = .ok (.getfield 137, 3) := by decide +kernel
theorem dX11_signOf_44 : decode cX11_signOf 44 = .ok (.bipush 61, 2) := by decide +kernel
theorem dX11_signOf_46 : decode cX11_signOf 46 = .ok (.if_icmp .ne 8, 3) := by decide +kernel
theorem dX11_signOf_49 : decode cX11_signOf 49 = .ok (.bipush 15, 2) := by decide +kernel
theorem dX11_signOf_51 : decode cX11_signOf 51 = .ok (.goto 46, 3) := by decide +kernel
theorem dX11_signOf_54 : decode cX11_signOf 54 = .ok (.aload_n 0, 1) := by decide +kernel
theorem dX11_signOf_55 : decode cX11_signOf 55 = .ok (.getfield 137, 3) := by decide +kernel
theorem dX11_signOf_58 : decode cX11_signOf 58 = .ok (.bipush 43, 2) := by decide +kernel
theorem dX11_signOf_60 : decode cX11_signOf 60 = .ok (.if_icmp .ne 8, 3) := by decide +kernel
theorem dX11_signOf_63 : decode cX11_signOf 63 = .ok (.bipush 16, 2) := by decide +kernel
theorem dX11_signOf_65 : decode cX11_signOf 65 = .ok (.goto 32, 3) := by decide +kernel
theorem dX11_signOf_68 : decode cX11_signOf 68 = .ok (.aload_n 0, 1) := by decide +kernel
theorem dX11_signOf_69 : decode cX11_signOf 69 = .ok (.getfield 137, 3) := by decide +kernel
theorem dX11_signOf_72 : decode cX11_signOf 72 = .ok (.bipush 45, 2) := by decide +kernel
theorem dX11_signOf_74 : decode cX11_signOf 74 = .ok (.if_icmp .ne 8, 3) := by decide +kernel
theorem dX11_signOf_77 : decode cX11_signOf 77 = .ok (.bipush 17, 2) := by decide +kernel
theorem dX11_signOf_79 : decode cX11_signOf 79 = .ok (.goto 18, 3) := by decide +kernel
theorem dX11_signOf_82 : decode cX11_signOf 82 = .ok (.aload_n 0, 1) := by decide +kernel
theorem dX11_signOf_83 : decode cX11_signOf 83 = .ok (.getfield 137, 3) := by decide +kernel
theorem dX11_signOf_86 : decode cX11_signOf 86 = .ok (.bipush 42, 2) := by decide +kernel
theorem dX11_signOf_88 : decode cX11_signOf 88 = .ok (.if_icmp .ne 8, 3) := by decide +kernel
theorem dX11_signOf_91 : decode cX11_signOf 91 = .ok (.bipush 18, 2) := by decide +kernel
theorem dX11_signOf_93 : decode cX11_signOf 93 = .ok (.goto 4, 3) := by decide +kernel
theorem dX11_signOf_96 : decode cX11_signOf 96 = .ok (.iconst (-1), 1) := by decide +kernel
theorem dX11_signOf_97 : decode cX11_signOf 97 = .ok (.ireturn, 1) := by decide +kernel
theorem dX11_eRead_0 : decode cX11_eRead 0 = .ok (.aload_n 0, 1) := by decide +kernel
theorem dX11_eRead_1 : decode cX11_eRead 1 = .ok (.iconst 0, 1) := by decide +kernel
theorem dX11_eRead_2 : decode cX11_eRead 2 = .ok (.putfield 150, 3) := by decide +kernel
theorem dX11_eRead_5 : decode cX11_eRead 5 = .ok (.aload_n 0, 1) := by decide +kernel
theorem dX11_eRead_6 : decode cX11_eRead 6 = .ok (.iconst 0, 1) := by decide +kernel
theorem dX11_eRead_7 : decode cX11_eRead 7 = .ok (.putfield 157, 3) := by decide +kernel
theorem dX11_eRead_10 : decode cX11_eRead 10 = .ok (.iconst 1, 1) := by decide +kernel
theorem dX11_eRead_11 : decode cX11_eRead 11 = .ok (.istore_n 1, 1) := by decide +kernel
theorem dX11_eRead_12 : decode cX11_eRead 12 = .ok (.iconst 1, 1) := by decide +kernel
theorem dX11_eRead_13 : decode cX11_eRead 13 = .ok (.istore_n 2, 1) := by decide +kernel
theorem dX11_eRead_14 : decode cX11_eRead 14 = .ok (.aload_n 0, 1) := by decide +kernel
theorem dX11_eRead_15 : decode cX11_eRead 15 = .ok (.invokevirtual 170, 3) := by decide +kernel
theorem dX11_eRead_18 : decode cX11_eRead 18 = .ok (.iload_n 1, 1) := by decide +kernel
theorem dX11_eRead_19 : decode cX11_eRead 19 = .ok (.ifCond .eq 131, 3) := by decide +kernel
theorem dX11_eRead_22 : decode cX11_eRead 22 = .ok (.aload_n 0, 1) := by decide +kernel
theorem dX11_eRead_23 : decode cX11_eRead 23 = .ok (.getfield 137, 3) := by decide +kernel
theorem dX11_eRead_26 : decode cX11_eRead 26 = .ok (.iconst 1, 1) := by decide +kernel
theorem dX11_eRead_27 : decode cX11_eRead 27 = .ok (.if_icmp .eq 11, 3) := by decide +kernel
theorem dX11_eRead_30 : decode cX11_eRead 30 = .ok (.aload_n 0, 1) := by decide +kernel
theorem dX11_eRead_31 : decode cX11_eRead 31 = .ok (.getfield 137, 3) := by decide +kernel
theorem dX11_eRead_34 : decode cX11_eRead 34 = .ok (.iconst 2, 1) := by decide +kernel
theorem dX11_eRead_35 : decode cX11_eRead 35 = .ok (.if_icmp .ne 40, 3) := by decide +kernel
theorem dX11_eRead_38 : decode cX11_eRead 38 = .ok (.aload_n 0, 1) := by decide +kernel
theorem dX11_eRead_39 : decode cX11_eRead 39 = .ok (.aload_n 0, 1) := by decide +kernel
theorem dX11_eRead_40 : decode cX11_eRead 40 = .ok (.getfield 137, 3) := by decide +kernel
theorem dX11_eRead_43 : decode cX11_eRead 43 = .ok (.iconst 1, 1) := by decide +kernel
theorem dX11_eRead_44 : decode cX11_eRead 44 = .ok (.if_icmp .ne 13, 3) := by decide +kernel
theorem dX11_eRead_47 : decode cX11_eRead 47 = .ok (.ldc 173, 2) := by decide +kernel
theorem dX11_eRead_49 : decode cX11_eRead 49 = .ok (.aload_n 0, 1) := by decide +kernel
theorem dX11_eRead_50 : decode cX11_eRead 50 = .ok (.getfield 140, 3) := by decide +kernel
theorem dX11_eRead_53 : decode cX11_eRead 53 = .ok (.iadd, 1) := by decide +kernel
theorem dX11_eRead_54 : decode cX11_eRead 54 = .ok (.goto 7, 3) := by decide +kernel
theorem dX11_eRead_57 : decode cX11_eRead 57 = .ok (.aload_n 0, 1) := by decide +kernel
theorem dX11_eRead_58 : decode cX11_eRead 58 = .ok (.getfield 140, 3) := by decide +kernel
theorem dX11_eRead_61 : decode cX11_eRead 61 = .ok (.invokevirtual 160, 3) := by decide +kernel
theorem dX11_eRead_64 : decode cX11_eRead 64 = .ok (.aload_n 0, 1) := by decide +kernel
theorem dX11_eRead_65 : decode cX11_eRead 65 = .ok (.bipush 7, 2) := by decide +kernel
theorem dX11_eRead_67 : decode cX11_eRead 67 = .ok (.invokevirtual 167, 3) := by decide +kernel
theorem dX11_eRead_70 : decode cX11_eRead 70 = .ok (.iconst 0, 1) := by decide +kernel
theorem dX11_eRead_71 : decode cX11_eRead 71 = .ok (.istore_n 1, 1) := by decide +kernel
theorem dX11_eRead_72 : decode cX11_eRead 72 = .ok (.goto (-58), 3) := by decide +kernel
theorem dX11_eRead_75 : decode cX11_eRead 75 = .ok (.aload_n 0, 1) := by decide +kernel
theorem dX11_eRead_76 : decode cX11_eRead 76 = .ok (.getfield 137, 3) := by decide +kernel
theorem dX11_eRead_79 : decode cX11_eRead 79 = .ok (.bipush 6, 2) := by decide +kernel
theorem dX11_eRead_81 : decode cX11_eRead 81 = .ok (.if_icmp .ne 18, 3) := by decide +kernel
theorem dX11_eRead_84 : decode cX11_eRead 84 = .ok (.iload_n 2, 1) := by decide +kernel
theorem dX11_eRead_85 : decode cX11_eRead 85 = .ok (.ifCond .eq 14, 3) := by decide +kernel
theorem dX11_eRead_88 : decode cX11_eRead 88 = .ok (.aload_n 0, 1) := by decide +kernel
theorem dX11_eRead_89 : decode cX11_eRead 89 = .ok (.bipush 13, 2) := by decide +kernel
theorem dX11_eRead_91 : decode cX11_eRead 91 = .ok (.invokevirtual 174, 3) := by decide +kernel
theorem dX11_eRead_94 : decode cX11_eRead 94 = .ok (.ifCond .ne (-80), 3) := by decide +kernel
theorem dX11_eRead_97 : decode cX11_eRead 97 = .ok (.iconst 0, 1) := by decide +kernel
theorem dX11_eRead_98 : decode cX11_eRead 98 = .ok (.ireturn, 1) := by decide +kernel
theorem dX11_eRead_99 : decode cX11_eRead 99 = .ok (.aload_n 0, 1) := by decide +kernel
theorem dX11_eRead_100 : decode cX11_eRead 100 = .ok (.getfield 137, 3) := by decide +kernel
theorem dX11_eRead_103 : decode cX11_eRead 103 = .ok (.bipush 45, 2) := by decide +kernel
theorem dX11_eRead_105 : decode cX11_eRead 105 = .ok (.if_icmp .ne 19, 3) := by decide +kernel
theorem dX11_eRead_108 : decode cX11_eRead 108 = .ok (.aload_n 0, 1) := by decide +kernel
theorem dX11_eRead_109 : decode cX11_eRead 109 = .ok (.bipush 19, 2) := by decide +kernel
theorem dX11_eRead_111 : decode cX11_eRead 111 = .ok (.invokevirtual 174, 3) := by decide +kernel
theorem dX11_eRead_114 : decode cX11_eRead 114 = .ok (.ifCond .ne 5, 3) := by decide +kernel
theorem dX11_eRead_117 : decode cX11_eRead 117 = .ok (.iconst 0, 1) := by decide +kernel
theorem dX11_eRead_118 : decode cX11_eRead 118 = .ok (.ireturn, 1) := by decide +kernel
theorem dX11_eRead_119 : decode cX11_eRead 119 = .ok (.iconst 0, 1) := by decide +kernel
theorem dX11_eRead_120 : decode cX11_eRead 120 = .ok (.istore_n 2, 1) := by decide +kernel
theorem dX11_eRead_121 : decode cX11_eRead 121 = .ok (.goto (-107), 3) := by decide +kernel
theorem dX11_eRead_124 : decode cX11_eRead 124 = .ok (.aload_n 0, 1) := by decide +kernel
theorem dX11_eRead_125 : decode cX11_eRead 125 = .ok (.getfield 137, 3) := by decide +kernel
theorem dX11_eRead_128 : decode cX11_eRead 128 = .ok (.bipush 40, 2) := by decide +kernel
theorem dX11_eRead_130 : decode cX11_eRead 130 = .ok (.if_icmp .ne 18, 3) := by decide +kernel
theorem dX11_eRead_133 : decode cX11_eRead 133 = .ok (.aload_n 0, 1) := by decide +kernel
theorem dX11_eRead_134 : decode cX11_eRead 134 = .ok (.iconst 0, 1) := by decide +kernel
theorem dX11_eRead_135 : decode cX11_eRead 135 = .ok (.invokevirtual 174, 3) := by decide +kernel
theorem dX11_eRead_138 : decode cX11_eRead 138 = .ok (.ifCond .ne 5, 3) := by decide +kernel
theorem dX11_eRead_141 : decode cX11_eRead 141 = .ok (.iconst 0, 1) := by decide +kernel
theorem dX11_eRead_142 : decode cX11_eRead 142 = .ok (.ireturn, 1) := by decide +kernel
theorem dX11_eRead_143 : decode cX11_eRead 143 = .ok (.iconst 1, 1) := by decide +kernel
theorem dX11_eRead_144 : decode cX11_eRead 144 = .ok (.istore_n 2, 1) := by decide +kernel
theorem dX11_eRead_145 : decode cX11_eRead 145 = .ok (.goto (-131), 3) := by decide +kernel
theorem dX11_eRead_148 : decode cX11_eRead 148 = .ok (.iconst 0, 1) := by decide +kernel
theorem dX11_eRead_149 : decode cX11_eRead 149 = .ok (.ireturn, 1) := by decide +kernel
theorem dX11_eRead_150 : decode cX11_eRead 150 = .ok (.aload_n 0, 1) := by decide +kernel
theorem dX11_eRead_151 : decode cX11_eRead 151 = .ok (.getfield 137, 3) := by decide +kernel
theorem dX11_eRead_154 : decode cX11_eRead 154 = .ok (.bipush 59, 2) := by decide +kernel
theorem dX11_eRead_156 : decode cX11_eRead 156 = .ok (.if_icmp .ne 21, 3) := by decide +kernel
theorem dX11_eRead_159 : decode cX11_eRead 159 = .ok (.aload_n 0, 1) := by decide +kernel
theorem dX11_eRead_160 : decode cX11_eRead 160 = .ok (.iconst 1, 1) := by decide +kernel
theorem dX11_eRead_161 : decode cX11_eRead 161 = .ok (.invokevirtual 167, 3) := by decide +kernel
theorem dX11_eRead_164 : decode cX11_eRead 164 = .ok (.aload_n 0, 1) := by decide +kernel
theorem dX11_eRead_165 : decode cX11_eRead 165 = .ok (.getfield 150, 3) := by decide +kernel
theorem dX11_eRead_168 : decode cX11_eRead 168 = .ok (.ifCond .ne 7, 3) := by decide +kernel
theorem dX11_eRead_171 : decode cX11_eRead 171 = .ok (.iconst 1, 1) := by decide +kernel
theorem dX11_eRead_172 : decode cX11_eRead 172 = .ok (.goto 4, 3) := by decide +kernel
theorem dX11_eRead_175 : decode cX11_eRead 175 = .ok (.iconst 0, 1) := by decide +kernel
theorem dX11_eRead_176 : decode cX11_eRead 176 = .ok (.ireturn, 1) := by decide +kernel
theorem dX11_eRead_177 : decode cX11_eRead 177 = .ok (.aload_n 0, 1) := by decide +kernel
theorem dX11_eRead_178 : decode cX11_eRead 178 = .ok (.getfield 137, 3) := by decide +kernel
theorem dX11_eRead_181 : decode cX11_eRead 181 = .ok (.bipush 41, 2) := by decide +kernel
theorem dX11_eRead_183 : decode cX11_eRead 183 = .ok (.if_icmp .ne 46, 3) := by decide +kernel
theorem dX11_eRead_186 : decode cX11_eRead 186 = .ok (.aload_n 0, 1) := by decide +kernel
theorem dX11_eRead_187 : decode cX11_eRead 187 = .ok (.iconst 1, 1) := by decide +kernel
theorem dX11_eRead_188 : decode cX11_eRead 188 = .ok (.invokevirtual 167, 3) := by decide +kernel
theorem dX11_eRead_191 : decode cX11_eRead 191 = .ok (.aload_n 0, 1) := by decide +kernel
theorem dX11_eRead_192 : decode cX11_eRead 192 = .ok (.getfield 150, 3) := by decide +kernel
theorem dX11_eRead_195 : decode cX11_eRead 195 = .ok (.ifCond .ne 5, 3) := by decide +kernel
theorem dX11_eRead_198 : decode cX11_eRead 198 = .ok (.iconst 0, 1) := by decide +kernel
theorem dX11_eRead_199 : decode cX11_eRead 199 = .ok (.ireturn, 1) := by decide +kernel
theorem dX11_eRead_200 : decode cX11_eRead 200 = .ok (.aload_n 0, 1) := by decide +kernel
theorem dX11_eRead_201 : decode cX11_eRead 201 = .ok (.dup, 1) := by decide +kernel
theorem dX11_eRead_202 : decode cX11_eRead 202 = .ok (.getfield 150, 3) := by decide +kernel
theorem dX11_eRead_205 : decode cX11_eRead 205 = .ok (.iconst 1, 1) := by decide +kernel
theorem dX11_eRead_206 : decode cX11_eRead 206 = .ok (.isub, 1) := by decide +kernel
theorem dX11_eRead_207 : decode cX11_eRead 207 = .ok (.putfield 150, 3) := by decide +kernel
theorem dX11_eRead_210 : decode cX11_eRead 210 = .ok (.aload_n 0, 1) := by decide +kernel
theorem dX11_eRead_211 : decode cX11_eRead 211 = .ok (.dup, 1) := by decide +kernel
theorem dX11_eRead_212 : decode cX11_eRead 212 = .ok (.getfield 157, 3) := by decide +kernel
theorem dX11_eRead_215 : decode cX11_eRead 215 = .ok (.iconst 1, 1) := by decide +kernel
theorem dX11_eRead_216 : decode cX11_eRead 216 = .ok (.isub, 1) := by decide +kernel
theorem dX11_eRead_217 : decode cX11_eRead 217 = .ok (.putfield 157, 3) := by decide +kernel
theorem dX11_eRead_220 : decode cX11_eRead 220 = .ok (.aload_n 0, 1) := by decide +kernel
theorem dX11_eRead_221 : decode cX11_eRead 221 = .ok (.bipush 7, 2) := by decide +kernel
theorem dX11_eRead_223 : decode cX11_eRead 223 = .ok (.invokevirtual 167, 3) := by decide +kernel
theorem dX11_eRead_226 : decode cX11_eRead 226 = .ok (.goto (-212), 3) := by decide +kernel
theorem dX11_eRead_229 : decode cX11_eRead 229 = .ok (.aload_n 0, 1) := by decide +kernel
theorem dX11_eRead_230 : decode cX11_eRead 230 = .ok (.invokevirtual 177, 3) := by decide +kernel
theorem dX11_eRead_233 : decode cX11_eRead 233 = .ok (.istore_n 3, 1) := by decide +kernel
theorem dX11_eRead_234 : decode cX11_eRead 234 = .ok (.iload_n 3, 1) := by decide +kernel
theorem dX11_eRead_235 : decode cX11_eRead 235 = .ok (.iconst (-1), 1) := by decide +kernel
theorem dX11_eRead_236 : decode cX11_eRead 236 = .ok (.if_icmp .eq 11, 3) := by decide +kernel
theorem dX11_eRead_239 : decode cX11_eRead 239 = .ok (.aload_n 0, 1) := by decide +kernel
theorem dX11_eRead_240 : decode cX11_eRead 240 = .ok (.iload_n 3, 1) := by decide +kernel
theorem dX11_eRead_241 : decode cX11_eRead 241 = .ok (.invokevirtual 180, 3) := by decide +kernel
theorem dX11_eRead_244 : decode cX11_eRead 244 = .ok (.ifCond .ne 5, 3) := by decide +kernel
theorem dX11_eRead_247 : decode cX11_eRead 247 = .ok (.iconst 0, 1) := by decide +kernel
theorem dX11_eRead_248 : decode cX11_eRead 248 = .ok (.ireturn, 1) := by decide +kernel
theorem dX11_eRead_249 : decode cX11_eRead 249 = .ok (.iconst 1, 1) := by decide +kernel
theorem dX11_eRead_250 : decode cX11_eRead 250 = .ok (.istore_n 1, 1) := by decide +kernel
theorem dX11_eRead_251 : decode cX11_eRead 251 = .ok (.iload_n 3, 1) := by decide +kernel
theorem dX11_eRead_252 : decode cX11_eRead 252 = .ok (.bipush 12, 2) := by decide +kernel
theorem dX11_eRead_254 : decode cX11_eRead 254 = .ok (.if_icmp .gt 7, 3) := by decide +kernel
theorem dX11_eRead_257 : decode cX11_eRead 257 = .ok (.iconst 1, 1) := by decide +kernel
theorem dX11_eRead_258 : decode cX11_eRead 258 = .ok (.goto 4, 3) := by decide +kernel
theorem dX11_eRead_261 : decode cX11_eRead 261 = .ok (.iconst 0, 1) := by decide +kernel
theorem dX11_eRead_262 : decode cX11_eRead 262 = .ok (.istore_n 2, 1) := by decide +kernel
theorem dX11_eRead_263 : decode cX11_eRead 263 = .ok (.goto (-249), 3) := by decide +kernel
theorem dX11_text_0 : decode cX11_text 0 = .ok (.aload_n 0, 1) := by decide +kernel
theorem dX11_text_1 : decode cX11_text 1 = .ok (.getfield 121, 3) := by decide +kernel
theorem dX11_text_4 : decode cX11_text 4 = .ok (.bipush 6, 2) := by decide +kernel
theorem dX11_text_6 : decode cX11_text 6 = .ok (.if_icmp .ne 6, 3) := by decide +kernel
theorem dX11_text_9 : decode cX11_text 9 = .ok (.bipush (-4), 2) := by decide +kernel
theorem dX11_text_11 : decode cX11_text 11 = .ok (.ireturn, 1) := by decide +kernel
theorem dX11_text_12 : decode cX11_text 12 = .ok (.aload_n 0, 1) := by decide +kernel
theorem dX11_text_13 : decode cX11_text 13 = .ok (.iconst 0, 1) := by decide +kernel
theorem dX11_text_14 : decode cX11_text 14 = .ok (.putfield 131, 3) := by decide +kernel
theorem dX11_text_17 : decode cX11_text 17 = .ok (.aload_n 0, 1) := by decide +kernel
theorem dX11_text_18 : decode cX11_text 18 = .ok (.iconst 0, 1) := by decide +kernel
theorem dX11_text_19 : decode cX11_text 19 = .ok (.putfield 147, 3) := by decide +kernel
theorem dX11_text_22 : decode cX11_text 22 = .ok (.iconst 1, 1) := by decide +kernel
theorem dX11_text_23 : decode cX11_text 23 = .ok (.istore_n 1, 1) := by decide +kernel
theorem dX11_text_24 : decode cX11_text 24 = .ok (.iconst 0, 1) := by decide +kernel
theorem dX11_text_25 : decode cX11_text 25 = .ok (.istore_n 2, 1) := by decide +kernel
theorem dX11_text_26 : decode cX11_text 26 = .ok (.iload_n 2, 1) := by decide +kernel
theorem dX11_text_27 : decode cX11_text 27 = .ok (.iconst 3, 1) := by decide +kernel
theorem dX11_text_28 : decode cX11_text 28 = .ok (.if_icmp .ge 73, 3) := by decide +kernel
theorem dX11_text_31 : decode cX11_text 31 = .ok (.iload_n 1, 1) := by decide +kernel
theorem dX11_text_32 : decode cX11_text 32 = .ok (.ifCond .eq 69, 3) := by decide +kernel
theorem dX11_text_35 : decode cX11_text 35 = .ok (.aload_n 0, 1) := by decide +kernel
theorem dX11_text_36 : decode cX11_text 36 = .ok (.invokevirtual 170, 3) := by decide +kernel
theorem dX11_text_39 : decode cX11_text 39 = .ok (.aload_n 0, 1) := by decide +kernel
theorem dX11_text_40 : decode cX11_text 40 = .ok (.getfield 137, 3) := by decide +kernel
theorem dX11_text_43 : decode cX11_text 43 = .ok (.iconst 3, 1) := by decide +kernel
theorem dX11_text_44 : decode cX11_text 44 = .ok (.if_icmp .ne 15, 3) := by decide +kernel
theorem dX11_text_47 : decode cX11_text 47 = .ok (.aload_n 0, 1) := by decide +kernel
theorem dX11_text_48 : decode cX11_text 48 = .ok (.getfield 140, 3) := by decide +kernel
theorem dX11_text_51 : decode cX11_text 51 = .ok (.iload_n 2, 1) := by decide +kernel
theorem dX11_text_52 : decode cX11_text 52 = .ok (.if_icmp .ne 7, 3) := by decide +kernel
theorem dX11_text_55 : decode cX11_text 55 = .ok (.iconst 1, 1) := by decide +kernel
theorem dX11_text_56 : decode cX11_text 56 = .ok (.goto 4, 3) := by decide +kernel
theorem dX11_text_59 : decode cX11_text 59 = .ok (.iconst 0, 1) := by decide +kernel
theorem dX11_text_60 : decode cX11_text 60 = .ok (.istore_n 1, 1) := by decide +kernel
theorem dX11_text_61 : decode cX11_text 61 = .ok (.aload_n 0, 1) := by decide +kernel
theorem dX11_text_62 : decode cX11_text 62 = .ok (.getfield 40, 3) := by decide +kernel
theorem dX11_text_65 : decode cX11_text 65 = .ok (.iconst 4, 1) := by decide +kernel
theorem dX11_text_66 : decode cX11_text 66 = .ok (.aload_n 0, 1) := by decide +kernel
theorem dX11_text_67 : decode cX11_text 67 = .ok (.getfield 121, 3) := by decide +kernel
theorem dX11_text_70 : decode cX11_text 70 = .ok (.imul, 1) := by decide +kernel
theorem dX11_text_71 : decode cX11_text 71 = .ok (.iload_n 2, 1) := by decide +kernel
theorem dX11_text_72 : decode cX11_text 72 = .ok (.iadd, 1) := by decide +kernel
theorem dX11_text_73 : decode cX11_text 73 = .ok (.aload_n 0, 1) := by decide +kernel
theorem dX11_text_74 : decode cX11_text 74 = .ok (.getfield 147, 3) := by decide +kernel
theorem dX11_text_77 : decode cX11_text 77 = .ok (.iastore, 1) := by decide +kernel
theorem dX11_text_78 : decode cX11_text 78 = .ok (.iload_n 1, 1) := by decide +kernel
theorem dX11_text_79 : decode cX11_text 79 = .ok (.ifCond .eq 14, 3) := by decide +kernel
theorem dX11_text_82 : decode cX11_text 82 = .ok (.aload_n 0, 1) := by decide +kernel
theorem dX11_text_83 : decode cX11_text 83 = .ok (.invokevirtual 183, 3) := by decide +kernel
theorem dX11_text_86 : decode cX11_text 86 = .ok (.ifCond .eq 7, 3) := by decide +kernel
theorem dX11_text_89 : decode cX11_text 89 = .ok (.iconst 1, 1) := by decide +kernel
theorem dX11_text_90 : decode cX11_text 90 = .ok (.goto 4, 3) := by decide +kernel
theorem dX11_text_93 : decode cX11_text 93 = .ok (.iconst 0, 1) := by decide +kernel
theorem dX11_text_94 : decode cX11_text 94 = .ok (.istore_n 1, 1) := by decide +kernel
theorem dX11_text_95 : decode cX11_text 95 = .ok (.iinc 2 1, 3) := by decide +kernel
theorem dX11_text_98 : decode cX11_text 98 = .ok (.goto (-72), 3) := by decide +kernel
theorem dX11_text_101 : decode cX11_text 101 = .ok (.iload_n 1, 1) := by decide +kernel
theorem dX11_text_102 : decode cX11_text 102 = .ok (.ifCond .eq 20, 3) := by decide +kernel
theorem dX11_text_105 : decode cX11_text 105 = .ok (.aload_n 0, 1) := by decide +kernel
theorem dX11_text_106 : decode cX11_text 106 = .ok (.invokevirtual 170, 3) := by decide +kernel
theorem dX11_text_109 : decode cX11_text 109 = .ok (.aload_n 0, 1) := by decide +kernel
theorem dX11_text_110 : decode cX11_text 110 = .ok (.getfield 137, 3) := by decide +kernel
theorem dX11_text_113 : decode cX11_text 113 = .ok (.ifCond .ne 7, 3) := by decide +kernel
theorem dX11_text_116 : decode cX11_text 116 = .ok (.iconst 1, 1) := by decide +kernel
theorem dX11_text_117 : decode cX11_text 117 = .ok (.goto 4, 3) := by decide +kernel
theorem dX11_text_120 : decode cX11_text 120 = .ok (.iconst 0, 1) := by decide +kernel
theorem dX11_text_121 : decode cX11_text 121 = .ok (.istore_n 1, 1) := by decide +kernel
theorem dX11_text_122 : decode cX11_text 122 = .ok (.aload_n 0, 1) := by decide +kernel
theorem dX11_text_123 : decode cX11_text 123 = .ok (.getfield 40, 3) := by decide +kernel
theorem dX11_text_126 : decode cX11_text 126 = .ok (.iconst 4, 1) := by decide +kernel
theorem dX11_text_127 : decode cX11_text 127 = .ok (.aload_n 0, 1) := by decide +kernel
theorem dX11_text_128 : decode cX11_text 128 = .ok (.getfield 121, 3) := by decide +kernel
theorem dX11_text_131 : decode cX11_text 131 = .ok (.imul, 1) := by decide +kernel
theorem dX11_text_132 : decode cX11_text 132 = .ok (.iconst 3, 1) := by decide +kernel
theorem dX11_text_133 : decode cX11_text 133 = .ok (.iadd, 1) := by decide +kernel
theorem dX11_text_134 : decode cX11_text 134 = .ok (.aload_n 0, 1) := by decide +kernel
theorem dX11_text_135 : decode cX11_text 135 = .ok (.getfield 147, 3) := by decide +kernel
theorem dX11_text_138 : decode cX11_text 138 = .ok (.iastore, 1) := by decide +kernel
theorem dX11_text_139 : decode cX11_text 139 = .ok (.aload_n 0, 1) := by decide +kernel
theorem dX11_text_140 : decode cX11_text 140 = .ok (.iconst 0, 1) := by decide +kernel
theorem dX11_text_141 : decode cX11_text 141 = .ok (.putfield 104, 3) := by decide +kernel
theorem dX11_text_144 : decode cX11_text 144 = .ok (.iload_n 1, 1) := by decide +kernel
theorem dX11_text_145 : decode cX11_text 145 = .ok (.ifCond .ne 11, 3) := by decide +kernel
theorem dX11_text_148 : decode cX11_text 148 = .ok (.bipush (-100), 2) := by decide +kernel
theorem dX11_text_150 : decode cX11_text 150 = .ok (.aload_n 0, 1) := by decide +kernel
theorem dX11_text_151 : decode cX11_text 151 = .ok (.getfield 134, 3) := by decide +kernel
theorem dX11_text_154 : decode cX11_text 154 = .ok (.isub, 1) := by decide +kernel
theorem dX11_text_155 : decode cX11_text 155 = .ok (.ireturn, 1) := by decide +kernel
theorem dX11_text_156 : decode cX11_text 156 = .ok (.aload_n 0, 1) := by decide +kernel
theorem dX11_text_157 : decode cX11_text 157 = .ok (.dup, 1) := by decide +kernel
theorem dX11_text_158 : decode cX11_text 158 = .ok (.getfield 121, 3) := by decide +kernel
theorem dX11_text_161 : decode cX11_text 161 = .ok (.iconst 1, 1) := by decide +kernel
theorem dX11_text_162 : decode cX11_text 162 = .ok (.iadd, 1) := by decide +kernel
theorem dX11_text_163 : decode cX11_text 163 = .ok (.putfield 121, 3) := by decide +kernel
theorem dX11_text_166 : decode cX11_text 166 = .ok (.aload_n 0, 1) := by decide +kernel
theorem dX11_text_167 : decode cX11_text 167 = .ok (.getfield 121, 3) := by decide +kernel
theorem dX11_text_170 : decode cX11_text 170 = .ok (.iconst 1, 1) := by decide +kernel
theorem dX11_text_171 : decode cX11_text 171 = .ok (.isub, 1) := by decide +kernel
theorem dX11_text_172 : decode cX11_text 172 = .ok (.ireturn, 1) := by decide +kernel
theorem dX11_two_0 : decode cX11_two 0 = .ok (.iload_n 0, 1) := by decide +kernel
theorem dX11_two_1 : decode cX11_two 1 = .ok (.tableswitch 101 11 17 #[43, 57, 101, 71, 82, 93, 97], 43) := by decide +kernel
theorem dX11_two_44 : decode cX11_two 44 = .ok (.iload_n 1, 1) := by decide +kernel
theorem dX11_two_45 : decode cX11_two 45 = .ok (.ifCond .ne 7, 3) := by decide +kernel
theorem dX11_two_48 : decode cX11_two 48 = .ok (.iload_n 2, 1) := by decide +kernel
theorem dX11_two_49 : decode cX11_two 49 = .ok (.ifCond .eq 7, 3) := by decide +kernel
theorem dX11_two_52 : decode cX11_two 52 = .ok (.iconst 1, 1) := by decide +kernel
theorem dX11_two_53 : decode cX11_two 53 = .ok (.goto 4, 3) := by decide +kernel
theorem dX11_two_56 : decode cX11_two 56 = .ok (.iconst 0, 1) := by decide +kernel
theorem dX11_two_57 : decode cX11_two 57 = .ok (.ireturn, 1) := by decide +kernel
theorem dX11_two_58 : decode cX11_two 58 = .ok (.iload_n 1, 1) := by decide +kernel
theorem dX11_two_59 : decode cX11_two 59 = .ok (.ifCond .eq 11, 3) := by decide +kernel
theorem dX11_two_62 : decode cX11_two 62 = .ok (.iload_n 2, 1) := by decide +kernel
theorem dX11_two_63 : decode cX11_two 63 = .ok (.ifCond .eq 7, 3) := by decide +kernel
theorem dX11_two_66 : decode cX11_two 66 = .ok (.iconst 1, 1) := by decide +kernel
theorem dX11_two_67 : decode cX11_two 67 = .ok (.goto 4, 3) := by decide +kernel
theorem dX11_two_70 : decode cX11_two 70 = .ok (.iconst 0, 1) := by decide +kernel
theorem dX11_two_71 : decode cX11_two 71 = .ok (.ireturn, 1) := by decide +kernel
theorem dX11_two_72 : decode cX11_two 72 = .ok (.iload_n 1, 1) := by decide +kernel
theorem dX11_two_73 : decode cX11_two 73 = .ok (.iload_n 2, 1) := by decide +kernel
theorem dX11_two_74 : decode cX11_two 74 = .ok (.if_icmp .ge 7, 3) := by decide +kernel
theorem dX11_two_77 : decode cX11_two 77 = .ok (.iconst 1, 1) := by decide +kernel
theorem dX11_two_78 : decode cX11_two 78 = .ok (.goto 4, 3) := by decide +kernel
theorem dX11_two_81 : decode cX11_two 81 = .ok (.iconst 0, 1) := by decide +kernel
theorem dX11_two_82 : decode cX11_two 82 = .ok (.ireturn, 1) := by decide +kernel
theorem dX11_two_83 : decode cX11_two 83 = .ok (.iload_n 1, 1) := by decide +kernel
theorem dX11_two_84 : decode cX11_two 84 = .ok (.iload_n 2, 1) := by decide +kernel
theorem dX11_two_85 : decode cX11_two 85 = .ok (.if_icmp .ne 7, 3) := by decide +kernel
theorem dX11_two_88 : decode cX11_two 88 = .ok (.iconst 1, 1) := by decide +kernel
theorem dX11_two_89 : decode cX11_two 89 = .ok (.goto 4, 3) := by decide +kernel
theorem dX11_two_92 : decode cX11_two 92 = .ok (.iconst 0, 1) := by decide +kernel
theorem dX11_two_93 : decode cX11_two 93 = .ok (.ireturn, 1) := by decide +kernel
theorem dX11_two_94 : decode cX11_two 94 = .ok (.iload_n 1, 1) := by decide +kernel
theorem dX11_two_95 : decode cX11_two 95 = .ok (.iload_n 2, 1) := by decide +kernel
theorem dX11_two_96 : decode cX11_two 96 = .ok (.iadd, 1) := by decide +kernel
theorem dX11_two_97 : decode cX11_two 97 = .ok (.ireturn, 1) := by decide +kernel
theorem dX11_two_98 : decode cX11_two 98 = .ok (.iload_n 1, 1) := by decide +kernel
theorem dX11_two_99 : decode cX11_two 99 = .ok (.iload_n 2, 1) := by decide +kernel
theorem dX11_two_100 : decode cX11_two 100 = .ok (.isub, 1) := by decide +kernel
theorem dX11_two_101 : decode cX11_two 101 = .ok (.ireturn, 1) := by decide +kernel
theorem dX11_two_102 : decode cX11_two 102 = .ok (.iload_n 1, 1) := by decide +kernel
theorem dX11_two_103 : decode cX11_two 103 = .ok (.iload_n 2, 1) := by decide +kernel
theorem dX11_two_104 : decode cX11_two 104 = .ok (.imul, 1) := by decide +kernel
theorem dX11_two_105 : decode cX11_two 105 = .ok (.ireturn, 1) := by decide +kernel
theorem dX11_worth_0 : decode cX11_worth 0 = .ok (.iconst 0, 1) := by decide +kernel
theorem dX11_worth_1 : decode cX11_worth 1 = .ok (.istore_n 2, 1) := by decide +kernel
theorem dX11_worth_2 : decode cX11_worth 2 = .ok (.aload_n 0, 1) := by decide +kernel
theorem dX11_worth_3 : decode cX11_worth 3 = .ok (.getfield 40, 3) := by decide +kernel
theorem dX11_worth_6 : decode cX11_worth 6 = .ok (.iconst 4, 1) := by decide +kernel
theorem dX11_worth_7 : decode cX11_worth 7 = .ok (.aload_n 0, 1) := by decide +kernel
theorem dX11_worth_8 : decode cX11_worth 8 = .ok (.getfield 124, 3) := by decide +kernel
theorem dX11_worth_11 : decode cX11_worth 11 = .ok (.imul, 1) := by decide +kernel
theorem dX11_worth_12 : decode cX11_worth 12 = .ok (.iload_n 1, 1) := by decide +kernel
theorem dX11_worth_13 : decode cX11_worth 13 = .ok (.iadd, 1) := by decide +kernel
theorem dX11_worth_14 : decode cX11_worth 14 = .ok (.iaload, 1) := by decide +kernel
theorem dX11_worth_15 : decode cX11_worth 15 = .ok (.istore_n 3, 1) := by decide +kernel
theorem dX11_worth_16 : decode cX11_worth 16 = .ok (.iload_n 3, 1) := by decide +kernel
theorem dX11_worth_17 : decode cX11_worth 17 = .ok (.aload_n 0, 1) := by decide +kernel
theorem dX11_worth_18 : decode cX11_worth 18 = .ok (.getfield 40, 3) := by decide +kernel
theorem dX11_worth_21 : decode cX11_worth 21 = .ok (.iconst 4, 1) := by decide +kernel
theorem dX11_worth_22 : decode cX11_worth 22 = .ok (.aload_n 0, 1) := by decide +kernel
theorem dX11_worth_23 : decode cX11_worth 23 = .ok (.getfield 124, 3) := by decide +kernel
theorem dX11_worth_26 : decode cX11_worth 26 = .ok (.imul, 1) := by decide +kernel
theorem dX11_worth_27 : decode cX11_worth 27 = .ok (.iload_n 1, 1) := by decide +kernel
theorem dX11_worth_28 : decode cX11_worth 28 = .ok (.iadd, 1) := by decide +kernel
theorem dX11_worth_29 : decode cX11_worth 29 = .ok (.iconst 1, 1) := by decide +kernel
theorem dX11_worth_30 : decode cX11_worth 30 = .ok (.iadd, 1) := by decide +kernel
theorem dX11_worth_31 : decode cX11_worth 31 = .ok (.iaload, 1) := by decide +kernel
theorem dX11_worth_32 : decode cX11_worth 32 = .ok (.if_icmp .ge 165, 3) := by decide +kernel
theorem dX11_worth_35 : decode cX11_worth 35 = .ok (.aload_n 0, 1) := by decide +kernel
theorem dX11_worth_36 : decode cX11_worth 36 = .ok (.getfield 37, 3) := by decide +kernel
theorem dX11_worth_39 : decode cX11_worth 39 = .ok (.sipush 200, 3) := by decide +kernel
theorem dX11_worth_42 : decode cX11_worth 42 = .ok (.aload_n 0, 1) := by decide +kernel
theorem dX11_worth_43 : decode cX11_worth 43 = .ok (.getfield 124, 3) := by decide +kernel
theorem dX11_worth_46 : decode cX11_worth 46 = .ok (.imul, 1) := by decide +kernel
theorem dX11_worth_47 : decode cX11_worth 47 = .ok (.iload_n 3, 1) := by decide +kernel
theorem dX11_worth_48 : decode cX11_worth 48 = .ok (.iadd, 1) := by decide +kernel
theorem dX11_worth_49 : decode cX11_worth 49 = .ok (.iaload, 1) := by decide +kernel
theorem dX11_worth_50 : decode cX11_worth 50 = .ok (.istore 4, 2) := by decide +kernel
theorem dX11_worth_52 : decode cX11_worth 52 = .ok (.iload 4, 2) := by decide +kernel
theorem dX11_worth_54 : decode cX11_worth 54 = .ok (.ldc 173, 2) := by decide +kernel
theorem dX11_worth_56 : decode cX11_worth 56 = .ok (.if_icmp .ge 10, 3) := by decide +kernel
theorem dX11_worth_59 : decode cX11_worth 59 = .ok (.iload 4, 2) := by decide +kernel
theorem dX11_worth_61 : decode cX11_worth 61 = .ok (.bipush 11, 2) := by decide +kernel
theorem dX11_worth_63 : decode cX11_worth 63 = .ok (.if_icmp .ge 37, 3) := by decide +kernel
theorem dX11_worth_66 : decode cX11_worth 66 = .ok (.aload_n 0, 1) := by decide +kernel
theorem dX11_worth_67 : decode cX11_worth 67 = .ok (.getfield 73, 3) := by decide +kernel
theorem dX11_worth_70 : decode cX11_worth 70 = .ok (.iload_n 2, 1) := by decide +kernel
theorem dX11_worth_71 : decode cX11_worth 71 = .ok (.iload 4, 2) := by decide +kernel
theorem dX11_worth_73 : decode cX11_worth 73 = .ok (.bipush 11, 2) := by decide +kernel
theorem dX11_worth_75 : decode cX11_worth 75 = .ok (.if_icmp .ge 13, 3) := by decide +kernel
theorem dX11_worth_78 : decode cX11_worth 78 = .ok (.aload_n 0, 1) := by decide +kernel
theorem dX11_worth_79 : decode cX11_worth 79 = .ok (.getfield 76, 3) := by decide +kernel
theorem dX11_worth_82 : decode cX11_worth 82 = .ok (.iload 4, 2) := by decide +kernel
theorem dX11_worth_84 : decode cX11_worth 84 = .ok (.iaload, 1) := by decide +kernel
theorem dX11_worth_85 : decode cX11_worth 85 = .ok (.goto 8, 3) := by decide +kernel
theorem dX11_worth_88 : decode cX11_worth 88 = .ok (.iload 4, 2) := by decide +kernel
theorem dX11_worth_90 : decode cX11_worth 90 = .ok (.ldc 173, 2) := by decide +kernel
theorem dX11_worth_92 : decode cX11_worth 92 = .ok (.isub, 1) := by decide +kernel
theorem dX11_worth_93 : decode cX11_worth 93 = .ok (.iastore, 1) := by decide +kernel
theorem dX11_worth_94 : decode cX11_worth 94 = .ok (.iinc 2 1, 3) := by decide +kernel
theorem dX11_worth_97 : decode cX11_worth 97 = .ok (.goto 94, 3) := by decide +kernel
theorem dX11_worth_100 : decode cX11_worth 100 = .ok (.iload 4, 2) := by decide +kernel
theorem dX11_worth_102 : decode cX11_worth 102 = .ok (.bipush 13, 2) := by decide +kernel
theorem dX11_worth_104 : decode cX11_worth 104 = .ok (.if_icmp .ne 30, 3) := by decide +kernel
theorem dX11_worth_107 : decode cX11_worth 107 = .ok (.aload_n 0, 1) := by decide +kernel
theorem dX11_worth_108 : decode cX11_worth 108 = .ok (.getfield 73, 3) := by decide +kernel
theorem dX11_worth_111 : decode cX11_worth 111 = .ok (.iload_n 2, 1) := by decide +kernel
theorem dX11_worth_112 : decode cX11_worth 112 = .ok (.iconst 1, 1) := by decide +kernel
theorem dX11_worth_113 : decode cX11_worth 113 = .ok (.isub, 1) := by decide +kernel
theorem dX11_worth_114 : decode cX11_worth 114 = .ok (.aload_n 0, 1) := by decide +kernel
theorem dX11_worth_115 : decode cX11_worth 115 = .ok (.getfield 73, 3) := by decide +kernel
theorem dX11_worth_118 : decode cX11_worth 118 = .ok (.iload_n 2, 1) := by decide +kernel
theorem dX11_worth_119 : decode cX11_worth 119 = .ok (.iconst 1, 1) := by decide +kernel
theorem dX11_worth_120 : decode cX11_worth 120 = .ok (.isub, 1) := by decide +kernel
theorem dX11_worth_121 : decode cX11_worth 121 = .ok (.iaload, 1) := by decide +kernel
theorem dX11_worth_122 : decode cX11_worth 122 = .ok (.ifCond .ne 7, 3) := by decide +kernel
theorem dX11_worth_125 : decode cX11_worth 125 = .ok (.iconst 1, 1) := by decide +kernel
theorem dX11_worth_126 : decode cX11_worth 126 = .ok (.goto 4, 3) := by decide +kernel
theorem dX11_worth_129 : decode cX11_worth 129 = .ok (.iconst 0, 1) := by decide +kernel
theorem dX11_worth_130 : decode cX11_worth 130 = .ok (.iastore, 1) := by decide +kernel
theorem dX11_worth_131 : decode cX11_worth 131 = .ok (.goto 60, 3) := by decide +kernel
theorem dX11_worth_134 : decode cX11_worth 134 = .ok (.iload 4, 2) := by decide +kernel
theorem dX11_worth_136 : decode cX11_worth 136 = .ok (.bipush 19, 2) := by decide +kernel
theorem dX11_worth_138 : decode cX11_worth 138 = .ok (.if_icmp .ne 23, 3) := by decide +kernel
theorem dX11_worth_141 : decode cX11_worth 141 = .ok (.aload_n 0, 1) := by decide +kernel
theorem dX11_worth_142 : decode cX11_worth 142 = .ok (.getfield 73, 3) := by decide +kernel
theorem dX11_worth_145 : decode cX11_worth 145 = .ok (.iload_n 2, 1) := by decide +kernel
theorem dX11_worth_146 : decode cX11_worth 146 = .ok (.iconst 1, 1) := by decide +kernel
theorem dX11_worth_147 : decode cX11_worth 147 = .ok (.isub, 1) := by decide +kernel
theorem dX11_worth_148 : decode cX11_worth 148 = .ok (.aload_n 0, 1) := by decide +kernel
theorem dX11_worth_149 : decode cX11_worth 149 = .ok (.getfield 73, 3) := by decide +kernel
theorem dX11_worth_152 : decode cX11_worth 152 = .ok (.iload_n 2, 1) := by decide +kernel
theorem dX11_worth_153 : decode cX11_worth 153 = .ok (.iconst 1, 1) := by decide +kernel
theorem dX11_worth_154 : decode cX11_worth 154 = .ok (.isub, 1) := by decide +kernel
theorem dX11_worth_155 : decode cX11_worth 155 = .ok (.iaload, 1) := by decide +kernel
theorem dX11_worth_156 : decode cX11_worth 156 = .ok (.ineg, 1) := by decide +kernel
theorem dX11_worth_157 : decode cX11_worth 157 = .ok (.iastore, 1) := by decide +kernel
theorem dX11_worth_158 : decode cX11_worth 158 = .ok (.goto 33, 3) := by decide +kernel
theorem dX11_worth_161 : decode cX11_worth 161 = .ok (.iinc 2 (-1), 3) := by decide +kernel
theorem dX11_worth_164 : decode cX11_worth 164 = .ok (.aload_n 0, 1) := by decide +kernel
theorem dX11_worth_165 : decode cX11_worth 165 = .ok (.getfield 73, 3) := by decide +kernel
theorem dX11_worth_168 : decode cX11_worth 168 = .ok (.iload_n 2, 1) := by decide +kernel
theorem dX11_worth_169 : decode cX11_worth 169 = .ok (.iconst 1, 1) := by decide +kernel
theorem dX11_worth_170 : decode cX11_worth 170 = .ok (.isub, 1) := by decide +kernel
theorem dX11_worth_171 : decode cX11_worth 171 = .ok (.iload 4, 2) := by decide +kernel
theorem dX11_worth_173 : decode cX11_worth 173 = .ok (.aload_n 0, 1) := by decide +kernel
theorem dX11_worth_174 : decode cX11_worth 174 = .ok (.getfield 73, 3) := by decide +kernel
theorem dX11_worth_177 : decode cX11_worth 177 = .ok (.iload_n 2, 1) := by decide +kernel
theorem dX11_worth_178 : decode cX11_worth 178 = .ok (.iconst 1, 1) := by decide +kernel
theorem dX11_worth_179 : decode cX11_worth 179 = .ok (.isub, 1) := by decide +kernel
theorem dX11_worth_180 : decode cX11_worth 180 = .ok (.iaload, 1) := by decide +kernel
theorem dX11_worth_181 : decode cX11_worth 181 = .ok (.aload_n 0, 1) := by decide +kernel
theorem dX11_worth_182 : decode cX11_worth 182 = .ok (.getfield 73, 3) := by decide +kernel
theorem dX11_worth_185 : decode cX11_worth 185 = .ok (.iload_n 2, 1) := by decide +kernel
theorem dX11_worth_186 : decode cX11_worth 186 = .ok (.iaload, 1) := by decide +kernel
theorem dX11_worth_187 : decode cX11_worth 187 = .ok (.invokestatic 187, 3) := by decide +kernel
theorem dX11_worth_190 : decode cX11_worth 190 = .ok (.iastore, 1) := by decide +kernel
theorem dX11_worth_191 : decode cX11_worth 191 = .ok (.iinc 3 1, 3) := by decide +kernel
theorem dX11_worth_194 : decode cX11_worth 194 = .ok (.goto (-178), 3) := by decide +kernel
theorem dX11_worth_197 : decode cX11_worth 197 = .ok (.aload_n 0, 1) := by decide +kernel
theorem dX11_worth_198 : decode cX11_worth 198 = .ok (.getfield 73, 3) := by decide +kernel
theorem dX11_worth_201 : decode cX11_worth 201 = .ok (.iconst 0, 1) := by decide +kernel
theorem dX11_worth_202 : decode cX11_worth 202 = .ok (.iaload, 1) := by decide +kernel
theorem dX11_worth_203 : decode cX11_worth 203 = .ok (.ireturn, 1) := by decide +kernel
theorem dX11_force_0 : decode cX11_force 0 = .ok (.iload_n 1, 1) := by decide +kernel
theorem dX11_force_1 : decode cX11_force 1 = .ok (.iconst 0, 1) := by decide +kernel
theorem dX11_force_2 : decode cX11_force 2 = .ok (.aload_n 0, 1) := by decide +kernel
theorem dX11_force_3 : decode cX11_force 3 = .ok (.getfield 121, 3) := by decide +kernel
theorem dX11_force_6 : decode cX11_force 6 = .ok (.iconst 1, 1) := by decide +kernel
theorem dX11_force_7 : decode cX11_force 7 = .ok (.isub, 1) := by decide +kernel
theorem dX11_force_8 : decode cX11_force 8 = .ok (.invokestatic 114, 3) := by decide +kernel
theorem dX11_force_11 : decode cX11_force 11 = .ok (.ifCond .ne 6, 3) := by decide +kernel
theorem dX11_force_14 : decode cX11_force 14 = .ok (.bipush (-2), 2) := by decide +kernel
theorem dX11_force_16 : decode cX11_force 16 = .ok (.ireturn, 1) := by decide +kernel
theorem dX11_force_17 : decode cX11_force 17 = .ok (.aload_n 0, 1) := by decide +kernel
theorem dX11_force_18 : decode cX11_force 18 = .ok (.getfield 124, 3) := by decide +kernel
theorem dX11_force_21 : decode cX11_force 21 = .ok (.istore_n 2, 1) := by decide +kernel
theorem dX11_force_22 : decode cX11_force 22 = .ok (.aload_n 0, 1) := by decide +kernel
theorem dX11_force_23 : decode cX11_force 23 = .ok (.iload_n 1, 1) := by decide +kernel
theorem dX11_force_24 : decode cX11_force 24 = .ok (.putfield 124, 3) := by decide +kernel
theorem dX11_force_27 : decode cX11_force 27 = .ok (.iload_n 2, 1) := by decide +kernel
theorem dX11_force_28 : decode cX11_force 28 = .ok (.ireturn, 1) := by decide +kernel
theorem dX11_asksOf_0 : decode cX11_asksOf 0 = .ok (.aload_n 0, 1) := by decide +kernel
theorem dX11_asksOf_1 : decode cX11_asksOf 1 = .ok (.getfield 76, 3) := by decide +kernel
theorem dX11_asksOf_4 : decode cX11_asksOf 4 = .ok (.iconst 0, 1) := by decide +kernel
theorem dX11_asksOf_5 : decode cX11_asksOf 5 = .ok (.iload_n 2, 1) := by decide +kernel
theorem dX11_asksOf_6 : decode cX11_asksOf 6 = .ok (.iastore, 1) := by decide +kernel
theorem dX11_asksOf_7 : decode cX11_asksOf 7 = .ok (.aload_n 0, 1) := by decide +kernel
theorem dX11_asksOf_8 : decode cX11_asksOf 8 = .ok (.getfield 76, 3) := by decide +kernel
theorem dX11_asksOf_11 : decode cX11_asksOf 11 = .ok (.iconst 1, 1) := by decide +kernel
theorem dX11_asksOf_12 : decode cX11_asksOf 12 = .ok (.iload_n 3, 1) := by decide +kernel
theorem dX11_asksOf_13 : decode cX11_asksOf 13 = .ok (.iastore, 1) := by decide +kernel
theorem dX11_asksOf_14 : decode cX11_asksOf 14 = .ok (.aload_n 0, 1) := by decide +kernel
theorem dX11_asksOf_15 : decode cX11_asksOf 15 = .ok (.getfield 76, 3) := by decide +kernel
theorem dX11_asksOf_18 : decode cX11_asksOf 18 = .ok (.iconst 2, 1) := by decide +kernel
theorem dX11_asksOf_19 : decode cX11_asksOf 19 = .ok (.iload 4, 2) := by decide +kernel
theorem dX11_asksOf_21 : decode cX11_asksOf 21 = .ok (.iastore, 1) := by decide +kernel
theorem dX11_asksOf_22 : decode cX11_asksOf 22 = .ok (.aload_n 0, 1) := by decide +kernel
theorem dX11_asksOf_23 : decode cX11_asksOf 23 = .ok (.getfield 76, 3) := by decide +kernel
theorem dX11_asksOf_26 : decode cX11_asksOf 26 = .ok (.iconst 3, 1) := by decide +kernel
theorem dX11_asksOf_27 : decode cX11_asksOf 27 = .ok (.iload 5, 2) := by decide +kernel
theorem dX11_asksOf_29 : decode cX11_asksOf 29 = .ok (.iastore, 1) := by decide +kernel
theorem dX11_asksOf_30 : decode cX11_asksOf 30 = .ok (.aload_n 0, 1) := by decide +kernel
theorem dX11_asksOf_31 : decode cX11_asksOf 31 = .ok (.getfield 76, 3) := by decide +kernel
theorem dX11_asksOf_34 : decode cX11_asksOf 34 = .ok (.iconst 4, 1) := by decide +kernel
theorem dX11_asksOf_35 : decode cX11_asksOf 35 = .ok (.iload 6, 2) := by decide +kernel
theorem dX11_asksOf_37 : decode cX11_asksOf 37 = .ok (.iastore, 1) := by decide +kernel
theorem dX11_asksOf_38 : decode cX11_asksOf 38 = .ok (.aload_n 0, 1) := by decide +kernel
theorem dX11_asksOf_39 : decode cX11_asksOf 39 = .ok (.getfield 76, 3) := by decide +kernel
theorem dX11_asksOf_42 : decode cX11_asksOf 42 = .ok (.iconst 5, 1) := by decide +kernel
theorem dX11_asksOf_43 : decode cX11_asksOf 43 = .ok (.iload 7, 2) := by decide +kernel
theorem dX11_asksOf_45 : decode cX11_asksOf 45 = .ok (.iastore, 1) := by decide +kernel
theorem dX11_asksOf_46 : decode cX11_asksOf 46 = .ok (.aload_n 0, 1) := by decide +kernel
theorem dX11_asksOf_47 : decode cX11_asksOf 47 = .ok (.iload_n 1, 1) := by decide +kernel
theorem dX11_asksOf_48 : decode cX11_asksOf 48 = .ok (.invokevirtual 191, 3) := by decide +kernel
theorem dX11_asksOf_51 : decode cX11_asksOf 51 = .ok (.istore 8, 2) := by decide +kernel
theorem dX11_asksOf_53 : decode cX11_asksOf 53 = .ok (.iload_n 1, 1) := by decide +kernel
theorem dX11_asksOf_54 : decode cX11_asksOf 54 = .ok (.ifCond .ne 16, 3) := by decide +kernel
theorem dX11_asksOf_57 : decode cX11_asksOf 57 = .ok (.iload 8, 2) := by decide +kernel
theorem dX11_asksOf_59 : decode cX11_asksOf 59 = .ok (.ifCond .ne 7, 3) := by decide +kernel
theorem dX11_asksOf_62 : decode cX11_asksOf 62 = .ok (.iconst 0, 1) := by decide +kernel
theorem dX11_asksOf_63 : decode cX11_asksOf 63 = .ok (.goto 15, 3) := by decide +kernel
theorem dX11_asksOf_66 : decode cX11_asksOf 66 = .ok (.iconst 1, 1) := by decide +kernel
theorem dX11_asksOf_67 : decode cX11_asksOf 67 = .ok (.goto 11, 3) := by decide +kernel
theorem dX11_asksOf_70 : decode cX11_asksOf 70 = .ok (.iload 8, 2) := by decide +kernel
theorem dX11_asksOf_72 : decode cX11_asksOf 72 = .ok (.iconst 0, 1) := by decide +kernel
theorem dX11_asksOf_73 : decode cX11_asksOf 73 = .ok (.bipush 99, 2) := by decide +kernel
theorem dX11_asksOf_75 : decode cX11_asksOf 75 = .ok (.invokestatic 194, 3) := by decide +kernel
theorem dX11_asksOf_78 : decode cX11_asksOf 78 = .ok (.ireturn, 1) := by decide +kernel
theorem dX11_asks_0 : decode cX11_asks 0 = .ok (.iload_n 1, 1) := by decide +kernel
theorem dX11_asks_1 : decode cX11_asks 1 = .ok (.iconst 0, 1) := by decide +kernel
theorem dX11_asks_2 : decode cX11_asks 2 = .ok (.iconst 2, 1) := by decide +kernel
theorem dX11_asks_3 : decode cX11_asks 3 = .ok (.invokestatic 114, 3) := by decide +kernel
theorem dX11_asks_6 : decode cX11_asks 6 = .ok (.ifCond .eq 34, 3) := by decide +kernel
theorem dX11_asks_9 : decode cX11_asks 9 = .ok (.iload_n 2, 1) := by decide +kernel
theorem dX11_asks_10 : decode cX11_asks 10 = .ok (.iconst 0, 1) := by decide +kernel
theorem dX11_asks_11 : decode cX11_asks 11 = .ok (.ldc 197, 2) := by decide +kernel
theorem dX11_asks_13 : decode cX11_asks 13 = .ok (.invokestatic 114, 3) := by decide +kernel
theorem dX11_asks_16 : decode cX11_asks 16 = .ok (.ifCond .eq 24, 3) := by decide +kernel
theorem dX11_asks_19 : decode cX11_asks 19 = .ok (.iload_n 3, 1) := by decide +kernel
theorem dX11_asks_20 : decode cX11_asks 20 = .ok (.iconst 0, 1) := by decide +kernel
theorem dX11_asks_21 : decode cX11_asks 21 = .ok (.bipush 99, 2) := by decide +kernel
theorem dX11_asks_23 : decode cX11_asks 23 = .ok (.invokestatic 114, 3) := by decide +kernel
theorem dX11_asks_26 : decode cX11_asks 26 = .ok (.ifCond .eq 14, 3) := by decide +kernel
theorem dX11_asks_29 : decode cX11_asks 29 = .ok (.iload 4, 2) := by decide +kernel
theorem dX11_asks_31 : decode cX11_asks 31 = .ok (.iconst 0, 1) := by decide +kernel
theorem dX11_asks_32 : decode cX11_asks 32 = .ok (.bipush 99, 2) := by decide +kernel
theorem dX11_asks_34 : decode cX11_asks 34 = .ok (.invokestatic 114, 3) := by decide +kernel
theorem dX11_asks_37 : decode cX11_asks 37 = .ok (.ifCond .ne 6, 3) := by decide +kernel
theorem dX11_asks_40 : decode cX11_asks 40 = .ok (.bipush (-2), 2) := by decide +kernel
theorem dX11_asks_42 : decode cX11_asks 42 = .ok (.ireturn, 1) := by decide +kernel
theorem dX11_asks_43 : decode cX11_asks 43 = .ok (.aload_n 0, 1) := by decide +kernel
theorem dX11_asks_44 : decode cX11_asks 44 = .ok (.iload_n 1, 1) := by decide +kernel
theorem dX11_asks_45 : decode cX11_asks 45 = .ok (.iload_n 2, 1) := by decide +kernel
theorem dX11_asks_46 : decode cX11_asks 46 = .ok (.sipush 1000, 3) := by decide +kernel
theorem dX11_asks_49 : decode cX11_asks 49 = .ok (.idiv, 1) := by decide +kernel
theorem dX11_asks_50 : decode cX11_asks 50 = .ok (.iload_n 2, 1) := by decide +kernel
theorem dX11_asks_51 : decode cX11_asks 51 = .ok (.sipush 1000, 3) := by decide +kernel
theorem dX11_asks_54 : decode cX11_asks 54 = .ok (.irem, 1) := by decide +kernel
theorem dX11_asks_55 : decode cX11_asks 55 = .ok (.iload_n 3, 1) := by decide +kernel
theorem dX11_asks_56 : decode cX11_asks 56 = .ok (.bipush 10, 2) := by decide +kernel
theorem dX11_asks_58 : decode cX11_asks 58 = .ok (.idiv, 1) := by decide +kernel
theorem dX11_asks_59 : decode cX11_asks 59 = .ok (.iload_n 3, 1) := by decide +kernel
theorem dX11_asks_60 : decode cX11_asks 60 = .ok (.bipush 10, 2) := by decide +kernel
theorem dX11_asks_62 : decode cX11_asks 62 = .ok (.irem, 1) := by decide +kernel
theorem dX11_asks_63 : decode cX11_asks 63 = .ok (.iload 4, 2) := by decide +kernel
theorem dX11_asks_65 : decode cX11_asks 65 = .ok (.bipush 10, 2) := by decide +kernel
theorem dX11_asks_67 : decode cX11_asks 67 = .ok (.idiv, 1) := by decide +kernel
theorem dX11_asks_68 : decode cX11_asks 68 = .ok (.iload 4, 2) := by decide +kernel
theorem dX11_asks_70 : decode cX11_asks 70 = .ok (.bipush 10, 2) := by decide +kernel
theorem dX11_asks_72 : decode cX11_asks 72 = .ok (.irem, 1) := by decide +kernel
theorem dX11_asks_73 : decode cX11_asks 73 = .ok (.invokevirtual 198, 3) := by decide +kernel
theorem dX11_asks_76 : decode cX11_asks 76 = .ok (.ireturn, 1) := by decide +kernel
theorem dX11_cart_0 : decode cX11_cart 0 = .ok (.iload_n 1, 1) := by decide +kernel
theorem dX11_cart_1 : decode cX11_cart 1 = .ok (.iconst 0, 1) := by decide +kernel
theorem dX11_cart_2 : decode cX11_cart 2 = .ok (.iconst 1, 1) := by decide +kernel
theorem dX11_cart_3 : decode cX11_cart 3 = .ok (.invokestatic 114, 3) := by decide +kernel
theorem dX11_cart_6 : decode cX11_cart 6 = .ok (.ifCond .eq 48, 3) := by decide +kernel
theorem dX11_cart_9 : decode cX11_cart 9 = .ok (.iload_n 2, 1) := by decide +kernel
theorem dX11_cart_10 : decode cX11_cart 10 = .ok (.iconst 0, 1) := by decide +kernel
theorem dX11_cart_11 : decode cX11_cart 11 = .ok (.iconst 5, 1) := by decide +kernel
theorem dX11_cart_12 : decode cX11_cart 12 = .ok (.invokestatic 114, 3) := by decide +kernel
theorem dX11_cart_15 : decode cX11_cart 15 = .ok (.ifCond .eq 39, 3) := by decide +kernel
theorem dX11_cart_18 : decode cX11_cart 18 = .ok (.iload_n 3, 1) := by decide +kernel
theorem dX11_cart_19 : decode cX11_cart 19 = .ok (.iconst 1, 1) := by decide +kernel
theorem dX11_cart_20 : decode cX11_cart 20 = .ok (.bipush 99, 2) := by decide +kernel
theorem dX11_cart_22 : decode cX11_cart 22 = .ok (.invokestatic 114, 3) := by decide +kernel
theorem dX11_cart_25 : decode cX11_cart 25 = .ok (.ifCond .eq 29, 3) := by decide +kernel
theorem dX11_cart_28 : decode cX11_cart 28 = .ok (.iload 4, 2) := by decide +kernel
theorem dX11_cart_30 : decode cX11_cart 30 = .ok (.iconst 0, 1) := by decide +kernel
theorem dX11_cart_31 : decode cX11_cart 31 = .ok (.bipush 99, 2) := by decide +kernel
theorem dX11_cart_33 : decode cX11_cart 33 = .ok (.invokestatic 114, 3) := by decide +kernel
theorem dX11_cart_36 : decode cX11_cart 36 = .ok (.ifCond .eq 18, 3) := by decide +kernel
theorem dX11_cart_39 : decode cX11_cart 39 = .ok (.iload 5, 2) := by decide +kernel
theorem dX11_cart_41 : decode cX11_cart 41 = .ok (.iconst 0, 1) := by decide +kernel
theorem dX11_cart_42 : decode cX11_cart 42 = .ok (.bipush 9, 2) := by decide +kernel
theorem dX11_cart_44 : decode cX11_cart 44 = .ok (.invokestatic 114, 3) := by decide +kernel
theorem dX11_cart_47 : decode cX11_cart 47 = .ok (.ifCond .eq 7, 3) := by decide +kernel
theorem dX11_cart_50 : decode cX11_cart 50 = .ok (.iconst 1, 1) := by decide +kernel
theorem dX11_cart_51 : decode cX11_cart 51 = .ok (.goto 4, 3) := by decide +kernel
theorem dX11_cart_54 : decode cX11_cart 54 = .ok (.iconst 0, 1) := by decide +kernel
theorem dX11_cart_55 : decode cX11_cart 55 = .ok (.istore 6, 2) := by decide +kernel
theorem dX11_cart_57 : decode cX11_cart 57 = .ok (.iload 6, 2) := by decide +kernel
theorem dX11_cart_59 : decode cX11_cart 59 = .ok (.ifCond .ne 6, 3) := by decide +kernel
theorem dX11_cart_62 : decode cX11_cart 62 = .ok (.bipush (-2), 2) := by decide +kernel
theorem dX11_cart_64 : decode cX11_cart 64 = .ok (.ireturn, 1) := by decide +kernel
theorem dX11_cart_65 : decode cX11_cart 65 = .ok (.aload_n 0, 1) := by decide +kernel
theorem dX11_cart_66 : decode cX11_cart 66 = .ok (.getfield 111, 3) := by decide +kernel
theorem dX11_cart_69 : decode cX11_cart 69 = .ok (.bipush 10, 2) := by decide +kernel
theorem dX11_cart_71 : decode cX11_cart 71 = .ok (.if_icmp .ne 6, 3) := by decide +kernel
theorem dX11_cart_74 : decode cX11_cart 74 = .ok (.bipush (-4), 2) := by decide +kernel
theorem dX11_cart_76 : decode cX11_cart 76 = .ok (.ireturn, 1) := by decide +kernel
theorem dX11_cart_77 : decode cX11_cart 77 = .ok (.aload_n 0, 1) := by decide +kernel
theorem dX11_cart_78 : decode cX11_cart 78 = .ok (.getfield 16, 3) := by decide +kernel
theorem dX11_cart_81 : decode cX11_cart 81 = .ok (.aload_n 0, 1) := by decide +kernel
theorem dX11_cart_82 : decode cX11_cart 82 = .ok (.getfield 111, 3) := by decide +kernel
theorem dX11_cart_85 : decode cX11_cart 85 = .ok (.iload_n 1, 1) := by decide +kernel
theorem dX11_cart_86 : decode cX11_cart 86 = .ok (.iastore, 1) := by decide +kernel
theorem dX11_cart_87 : decode cX11_cart 87 = .ok (.aload_n 0, 1) := by decide +kernel
theorem dX11_cart_88 : decode cX11_cart 88 = .ok (.getfield 19, 3) := by decide +kernel
theorem dX11_cart_91 : decode cX11_cart 91 = .ok (.aload_n 0, 1) := by decide +kernel
theorem dX11_cart_92 : decode cX11_cart 92 = .ok (.getfield 111, 3) := by decide +kernel
theorem dX11_cart_95 : decode cX11_cart 95 = .ok (.iload_n 2, 1) := by decide +kernel
theorem dX11_cart_96 : decode cX11_cart 96 = .ok (.iastore, 1) := by decide +kernel
theorem dX11_cart_97 : decode cX11_cart 97 = .ok (.aload_n 0, 1) := by decide +kernel
theorem dX11_cart_98 : decode cX11_cart 98 = .ok (.getfield 22, 3) := by decide +kernel
theorem dX11_cart_101 : decode cX11_cart 101 = .ok (.aload_n 0, 1) := by decide +kernel
theorem dX11_cart_102 : decode cX11_cart 102 = .ok (.getfield 111, 3) := by decide +kernel
theorem dX11_cart_105 : decode cX11_cart 105 = .ok (.iload_n 3, 1) := by decide +kernel
theorem dX11_cart_106 : decode cX11_cart 106 = .ok (.iastore, 1) := by decide +kernel
theorem dX11_cart_107 : decode cX11_cart 107 = .ok (.aload_n 0, 1) := by decide +kernel
theorem dX11_cart_108 : decode cX11_cart 108 = .ok (.getfield 25, 3) := by decide +kernel
theorem dX11_cart_111 : decode cX11_cart 111 = .ok (.aload_n 0, 1) := by decide +kernel
theorem dX11_cart_112 : decode cX11_cart 112 = .ok (.getfield 111, 3) := by decide +kernel
theorem dX11_cart_115 : decode cX11_cart 115 = .ok (.iload 4, 2) := by decide +kernel
theorem dX11_cart_117 : decode cX11_cart 117 = .ok (.iastore, 1) := by decide +kernel
theorem dX11_cart_118 : decode cX11_cart 118 = .ok (.aload_n 0, 1) := by decide +kernel
theorem dX11_cart_119 : decode cX11_cart 119 = .ok (.getfield 28, 3) := by decide +kernel
theorem dX11_cart_122 : decode cX11_cart 122 = .ok (.aload_n 0, 1) := by decide +kernel
theorem dX11_cart_123 : decode cX11_cart 123 = .ok (.getfield 111, 3) := by decide +kernel
theorem dX11_cart_126 : decode cX11_cart 126 = .ok (.iload 5, 2) := by decide +kernel
theorem dX11_cart_128 : decode cX11_cart 128 = .ok (.iastore, 1) := by decide +kernel
theorem dX11_cart_129 : decode cX11_cart 129 = .ok (.aload_n 0, 1) := by decide +kernel
theorem dX11_cart_130 : decode cX11_cart 130 = .ok (.getfield 31, 3) := by decide +kernel
theorem dX11_cart_133 : decode cX11_cart 133 = .ok (.aload_n 0, 1) := by decide +kernel
theorem dX11_cart_134 : decode cX11_cart 134 = .ok (.getfield 111, 3) := by decide +kernel
theorem dX11_cart_137 : decode cX11_cart 137 = .ok (.iconst 0, 1) := by decide +kernel
theorem dX11_cart_138 : decode cX11_cart 138 = .ok (.iastore, 1) := by decide +kernel
theorem dX11_cart_139 : decode cX11_cart 139 = .ok (.aload_n 0, 1) := by decide +kernel
theorem dX11_cart_140 : decode cX11_cart 140 = .ok (.dup, 1) := by decide +kernel
theorem dX11_cart_141 : decode cX11_cart 141 = .ok (.getfield 111, 3) := by decide +kernel
theorem dX11_cart_144 : decode cX11_cart 144 = .ok (.iconst 1, 1) := by decide +kernel
theorem dX11_cart_145 : decode cX11_cart 145 = .ok (.iadd, 1) := by decide +kernel
theorem dX11_cart_146 : decode cX11_cart 146 = .ok (.putfield 111, 3) := by decide +kernel
theorem dX11_cart_149 : decode cX11_cart 149 = .ok (.aload_n 0, 1) := by decide +kernel
theorem dX11_cart_150 : decode cX11_cart 150 = .ok (.getfield 111, 3) := by decide +kernel
theorem dX11_cart_153 : decode cX11_cart 153 = .ok (.iconst 1, 1) := by decide +kernel
theorem dX11_cart_154 : decode cX11_cart 154 = .ok (.isub, 1) := by decide +kernel
theorem dX11_cart_155 : decode cX11_cart 155 = .ok (.ireturn, 1) := by decide +kernel
theorem dX11_set_0 : decode cX11_set 0 = .ok (.aload_n 0, 1) := by decide +kernel
theorem dX11_set_1 : decode cX11_set 1 = .ok (.iload_n 1, 1) := by decide +kernel
theorem dX11_set_2 : decode cX11_set 2 = .ok (.invokevirtual 202, 3) := by decide +kernel
theorem dX11_set_5 : decode cX11_set 5 = .ok (.ifCond .ne 6, 3) := by decide +kernel
theorem dX11_set_8 : decode cX11_set 8 = .ok (.bipush (-5), 2) := by decide +kernel
theorem dX11_set_10 : decode cX11_set 10 = .ok (.ireturn, 1) := by decide +kernel
theorem dX11_set_11 : decode cX11_set 11 = .ok (.iload_n 2, 1) := by decide +kernel
theorem dX11_set_12 : decode cX11_set 12 = .ok (.iconst 0, 1) := by decide +kernel
theorem dX11_set_13 : decode cX11_set 13 = .ok (.iconst 1, 1) := by decide +kernel
theorem dX11_set_14 : decode cX11_set 14 = .ok (.invokestatic 114, 3) := by decide +kernel
theorem dX11_set_17 : decode cX11_set 17 = .ok (.ifCond .eq 21, 3) := by decide +kernel
theorem dX11_set_20 : decode cX11_set 20 = .ok (.iload_n 3, 1) := by decide +kernel
theorem dX11_set_21 : decode cX11_set 21 = .ok (.iconst 0, 1) := by decide +kernel
theorem dX11_set_22 : decode cX11_set 22 = .ok (.iload_n 2, 1) := by decide +kernel
theorem dX11_set_23 : decode cX11_set 23 = .ok (.ifCond .ne 8, 3) := by decide +kernel
theorem dX11_set_26 : decode cX11_set 26 = .ok (.bipush 9, 2) := by decide +kernel
theorem dX11_set_28 : decode cX11_set 28 = .ok (.goto 4, 3) := by decide +kernel
theorem dX11_set_31 : decode cX11_set 31 = .ok (.iconst 1, 1) := by decide +kernel
theorem dX11_set_32 : decode cX11_set 32 = .ok (.invokestatic 114, 3) := by decide +kernel
theorem dX11_set_35 : decode cX11_set 35 = .ok (.ifCond .ne 6, 3) := by decide +kernel
theorem dX11_set_38 : decode cX11_set 38 = .ok (.bipush (-7), 2) := by decide +kernel
theorem dX11_set_40 : decode cX11_set 40 = .ok (.ireturn, 1) := by decide +kernel
theorem dX11_set_41 : decode cX11_set 41 = .ok (.iload_n 2, 1) := by decide +kernel
theorem dX11_set_42 : decode cX11_set 42 = .ok (.iconst 1, 1) := by decide +kernel
theorem dX11_set_43 : decode cX11_set 43 = .ok (.if_icmp .ne 16, 3) := by decide +kernel
theorem dX11_set_46 : decode cX11_set 46 = .ok (.aload_n 0, 1) := by decide +kernel
theorem dX11_set_47 : decode cX11_set 47 = .ok (.getfield 19, 3) := by decide +kernel
theorem dX11_set_50 : decode cX11_set 50 = .ok (.iload_n 1, 1) := by decide +kernel
theorem dX11_set_51 : decode cX11_set 51 = .ok (.iaload, 1) := by decide +kernel
theorem dX11_set_52 : decode cX11_set 52 = .ok (.iconst 4, 1) := by decide +kernel
theorem dX11_set_53 : decode cX11_set 53 = .ok (.if_icmp .eq 6, 3) := by decide +kernel
theorem dX11_set_56 : decode cX11_set 56 = .ok (.bipush (-3), 2) := by decide +kernel
theorem dX11_set_58 : decode cX11_set 58 = .ok (.ireturn, 1) := by decide +kernel
theorem dX11_set_59 : decode cX11_set 59 = .ok (.iload_n 2, 1) := by decide +kernel
theorem dX11_set_60 : decode cX11_set 60 = .ok (.ifCond .ne 12, 3) := by decide +kernel
theorem dX11_set_63 : decode cX11_set 63 = .ok (.aload_n 0, 1) := by decide +kernel
theorem dX11_set_64 : decode cX11_set 64 = .ok (.getfield 31, 3) := by decide +kernel
theorem dX11_set_67 : decode cX11_set 67 = .ok (.iload_n 1, 1) := by decide +kernel
theorem dX11_set_68 : decode cX11_set 68 = .ok (.iaload, 1) := by decide +kernel
theorem dX11_set_69 : decode cX11_set 69 = .ok (.goto 9, 3) := by decide +kernel
theorem dX11_set_72 : decode cX11_set 72 = .ok (.aload_n 0, 1) := by decide +kernel
theorem dX11_set_73 : decode cX11_set 73 = .ok (.getfield 16, 3) := by decide +kernel
theorem dX11_set_76 : decode cX11_set 76 = .ok (.iload_n 1, 1) := by decide +kernel
theorem dX11_set_77 : decode cX11_set 77 = .ok (.iaload, 1) := by decide +kernel
theorem dX11_set_78 : decode cX11_set 78 = .ok (.istore 4, 2) := by decide +kernel
theorem dX11_set_80 : decode cX11_set 80 = .ok (.aload_n 0, 1) := by decide +kernel
theorem dX11_set_81 : decode cX11_set 81 = .ok (.getfield 31, 3) := by decide +kernel
theorem dX11_set_84 : decode cX11_set 84 = .ok (.iload_n 1, 1) := by decide +kernel
theorem dX11_set_85 : decode cX11_set 85 = .ok (.iload_n 2, 1) := by decide +kernel
theorem dX11_set_86 : decode cX11_set 86 = .ok (.ifCond .ne 7, 3) := by decide +kernel
theorem dX11_set_89 : decode cX11_set 89 = .ok (.iload_n 3, 1) := by decide +kernel
theorem dX11_set_90 : decode cX11_set 90 = .ok (.goto 9, 3) := by decide +kernel
theorem dX11_set_93 : decode cX11_set 93 = .ok (.aload_n 0, 1) := by decide +kernel
theorem dX11_set_94 : decode cX11_set 94 = .ok (.getfield 31, 3) := by decide +kernel
theorem dX11_set_97 : decode cX11_set 97 = .ok (.iload_n 1, 1) := by decide +kernel
theorem dX11_set_98 : decode cX11_set 98 = .ok (.iaload, 1) := by decide +kernel
theorem dX11_set_99 : decode cX11_set 99 = .ok (.iastore, 1) := by decide +kernel
theorem dX11_set_100 : decode cX11_set 100 = .ok (.aload_n 0, 1) := by decide +kernel
theorem dX11_set_101 : decode cX11_set 101 = .ok (.getfield 16, 3) := by decide +kernel
theorem dX11_set_104 : decode cX11_set 104 = .ok (.iload_n 1, 1) := by decide +kernel
theorem dX11_set_105 : decode cX11_set 105 = .ok (.iload_n 2, 1) := by decide +kernel
theorem dX11_set_106 : decode cX11_set 106 = .ok (.iconst 1, 1) := by decide +kernel
theorem dX11_set_107 : decode cX11_set 107 = .ok (.if_icmp .ne 7, 3) := by decide +kernel
theorem dX11_set_110 : decode cX11_set 110 = .ok (.iload_n 3, 1) := by decide +kernel
theorem dX11_set_111 : decode cX11_set 111 = .ok (.goto 9, 3) := by decide +kernel
theorem dX11_set_114 : decode cX11_set 114 = .ok (.aload_n 0, 1) := by decide +kernel
theorem dX11_set_115 : decode cX11_set 115 = .ok (.getfield 16, 3) := by decide +kernel
theorem dX11_set_118 : decode cX11_set 118 = .ok (.iload_n 1, 1) := by decide +kernel
theorem dX11_set_119 : decode cX11_set 119 = .ok (.iaload, 1) := by decide +kernel
theorem dX11_set_120 : decode cX11_set 120 = .ok (.iastore, 1) := by decide +kernel
theorem dX11_set_121 : decode cX11_set 121 = .ok (.iload 4, 2) := by decide +kernel
theorem dX11_set_123 : decode cX11_set 123 = .ok (.ireturn, 1) := by decide +kernel
theorem dX11_cartTold_0 : decode cX11_cartTold 0 = .ok (.aload_n 0, 1) := by decide +kernel
theorem dX11_cartTold_1 : decode cX11_cartTold 1 = .ok (.iload_n 1, 1) := by decide +kernel
theorem dX11_cartTold_2 : decode cX11_cartTold 2 = .ok (.invokevirtual 202, 3) := by decide +kernel
theorem dX11_cartTold_5 : decode cX11_cartTold 5 = .ok (.ifCond .ne 6, 3) := by decide +kernel
theorem dX11_cartTold_8 : decode cX11_cartTold 8 = .ok (.bipush (-5), 2) := by decide +kernel
theorem dX11_cartTold_10 : decode cX11_cartTold 10 = .ok (.ireturn, 1) := by decide +kernel
theorem dX11_cartTold_11 : decode cX11_cartTold 11 = .ok (.iload_n 2, 1) := by decide +kernel
theorem dX11_cartTold_12 : decode cX11_cartTold 12 = .ok (.tableswitch 82 0 5 #[40, 47, 54, 61, 68, 75], 40) := by decide +kernel
theorem dX11_cartTold_52 : decode cX11_cartTold 52 = .ok (.aload_n 0, 1) := by decide +kernel
theorem dX11_cartTold_53 : decode cX11_cartTold 53 = .ok (.getfield 31, 3) := by decide +kernel
theorem dX11_cartTold_56 : decode cX11_cartTold 56 = .ok (.iload_n 1, 1) := by decide +kernel
theorem dX11_cartTold_57 : decode cX11_cartTold 57 = .ok (.iaload, 1) := by decide +kernel
theorem dX11_cartTold_58 : decode cX11_cartTold 58 = .ok (.ireturn, 1) := by decide +kernel
theorem dX11_cartTold_59 : decode cX11_cartTold 59 = .ok (.aload_n 0, 1) := by decide +kernel
theorem dX11_cartTold_60 : decode cX11_cartTold 60 = .ok (.getfield 16, 3) := by decide +kernel
theorem dX11_cartTold_63 : decode cX11_cartTold 63 = .ok (.iload_n 1, 1) := by decide +kernel
theorem dX11_cartTold_64 : decode cX11_cartTold 64 = .ok (.iaload, 1) := by decide +kernel
theorem dX11_cartTold_65 : decode cX11_cartTold 65 = .ok (.ireturn, 1) := by decide +kernel
theorem dX11_cartTold_66 : decode cX11_cartTold 66 = .ok (.aload_n 0, 1) := by decide +kernel
theorem dX11_cartTold_67 : decode cX11_cartTold 67 = .ok (.getfield 19, 3) := by decide +kernel
theorem dX11_cartTold_70 : decode cX11_cartTold 70 = .ok (.iload_n 1, 1) := by decide +kernel
theorem dX11_cartTold_71 : decode cX11_cartTold 71 = .ok (.iaload, 1) := by decide +kernel
theorem dX11_cartTold_72 : decode cX11_cartTold 72 = .ok (.ireturn, 1) := by decide +kernel
theorem dX11_cartTold_73 : decode cX11_cartTold 73 = .ok (.aload_n 0, 1) := by decide +kernel
theorem dX11_cartTold_74 : decode cX11_cartTold 74 = .ok (.getfield 22, 3) := by decide +kernel
theorem dX11_cartTold_77 : decode cX11_cartTold 77 = .ok (.iload_n 1, 1) := by decide +kernel
theorem dX11_cartTold_78 : decode cX11_cartTold 78 = .ok (.iaload, 1) := by decide +kernel
theorem dX11_cartTold_79 : decode cX11_cartTold 79 = .ok (.ireturn, 1) := by decide +kernel
theorem dX11_cartTold_80 : decode cX11_cartTold 80 = .ok (.aload_n 0, 1) := by decide +kernel
theorem dX11_cartTold_81 : decode cX11_cartTold 81 = .ok (.getfield 25, 3) := by decide +kernel
theorem dX11_cartTold_84 : decode cX11_cartTold 84 = .ok (.iload_n 1, 1) := by decide +kernel
theorem dX11_cartTold_85 : decode cX11_cartTold 85 = .ok (.iaload, 1) := by decide +kernel
theorem dX11_cartTold_86 : decode cX11_cartTold 86 = .ok (.ireturn, 1) := by decide +kernel
theorem dX11_cartTold_87 : decode cX11_cartTold 87 = .ok (.aload_n 0, 1) := by decide +kernel
theorem dX11_cartTold_88 : decode cX11_cartTold 88 = .ok (.getfield 28, 3) := by decide +kernel
theorem dX11_cartTold_91 : decode cX11_cartTold 91 = .ok (.iload_n 1, 1) := by decide +kernel
theorem dX11_cartTold_92 : decode cX11_cartTold 92 = .ok (.iaload, 1) := by decide +kernel
theorem dX11_cartTold_93 : decode cX11_cartTold 93 = .ok (.ireturn, 1) := by decide +kernel
theorem dX11_cartTold_94 : decode cX11_cartTold 94 = .ok (.bipush (-7), 2) := by decide +kernel
theorem dX11_cartTold_96 : decode cX11_cartTold 96 = .ok (.ireturn, 1) := by decide +kernel
theorem dX11_waited_0 : decode cX11_waited 0 = .ok (.iload_n 2, 1) := by decide +kernel
theorem dX11_waited_1 : decode cX11_waited 1 = .ok (.aload_n 0, 1) := by decide +kernel
theorem dX11_waited_2 : decode cX11_waited 2 = .ok (.getfield 31, 3) := by decide +kernel
theorem dX11_waited_5 : decode cX11_waited 5 = .ok (.iload_n 1, 1) := by decide +kernel
theorem dX11_waited_6 : decode cX11_waited 6 = .ok (.iaload, 1) := by decide +kernel
theorem dX11_waited_7 : decode cX11_waited 7 = .ok (.if_icmp .ge 7, 3) := by decide +kernel
theorem dX11_waited_10 : decode cX11_waited 10 = .ok (.iconst 0, 1) := by decide +kernel
theorem dX11_waited_11 : decode cX11_waited 11 = .ok (.goto 11, 3) := by decide +kernel
theorem dX11_waited_14 : decode cX11_waited 14 = .ok (.iload_n 2, 1) := by decide +kernel
theorem dX11_waited_15 : decode cX11_waited 15 = .ok (.aload_n 0, 1) := by decide +kernel
theorem dX11_waited_16 : decode cX11_waited 16 = .ok (.getfield 31, 3) := by decide +kernel
theorem dX11_waited_19 : decode cX11_waited 19 = .ok (.iload_n 1, 1) := by decide +kernel
theorem dX11_waited_20 : decode cX11_waited 20 = .ok (.iaload, 1) := by decide +kernel
theorem dX11_waited_21 : decode cX11_waited 21 = .ok (.isub, 1) := by decide +kernel
theorem dX11_waited_22 : decode cX11_waited 22 = .ok (.ireturn, 1) := by decide +kernel
theorem dX11_weighs_0 : decode cX11_weighs 0 = .ok (.aload_n 0, 1) := by decide +kernel
theorem dX11_weighs_1 : decode cX11_weighs 1 = .ok (.getfield 28, 3) := by decide +kernel
theorem dX11_weighs_4 : decode cX11_weighs 4 = .ok (.iload_n 1, 1) := by decide +kernel
theorem dX11_weighs_5 : decode cX11_weighs 5 = .ok (.iaload, 1) := by decide +kernel
theorem dX11_weighs_6 : decode cX11_weighs 6 = .ok (.aload_n 0, 1) := by decide +kernel
theorem dX11_weighs_7 : decode cX11_weighs 7 = .ok (.iload_n 1, 1) := by decide +kernel
theorem dX11_weighs_8 : decode cX11_weighs 8 = .ok (.iload_n 2, 1) := by decide +kernel
theorem dX11_weighs_9 : decode cX11_weighs 9 = .ok (.invokevirtual 205, 3) := by decide +kernel
theorem dX11_weighs_12 : decode cX11_weighs 12 = .ok (.imul, 1) := by decide +kernel
theorem dX11_weighs_13 : decode cX11_weighs 13 = .ok (.istore_n 3, 1) := by decide +kernel
theorem dX11_weighs_14 : decode cX11_weighs 14 = .ok (.aload_n 0, 1) := by decide +kernel
theorem dX11_weighs_15 : decode cX11_weighs 15 = .ok (.getfield 19, 3) := by decide +kernel
theorem dX11_weighs_18 : decode cX11_weighs 18 = .ok (.iload_n 1, 1) := by decide +kernel
theorem dX11_weighs_19 : decode cX11_weighs 19 = .ok (.iaload, 1) := by decide +kernel
theorem dX11_weighs_20 : decode cX11_weighs 20 = .ok (.istore 4, 2) := by decide +kernel
theorem dX11_weighs_22 : decode cX11_weighs 22 = .ok (.iload 4, 2) := by decide +kernel
theorem dX11_weighs_24 : decode cX11_weighs 24 = .ok (.iconst 2, 1) := by decide +kernel
theorem dX11_weighs_25 : decode cX11_weighs 25 = .ok (.if_icmp .ne 14, 3) := by decide +kernel
theorem dX11_weighs_28 : decode cX11_weighs 28 = .ok (.aload_n 0, 1) := by decide +kernel
theorem dX11_weighs_29 : decode cX11_weighs 29 = .ok (.getfield 22, 3) := by decide +kernel
theorem dX11_weighs_32 : decode cX11_weighs 32 = .ok (.iload_n 1, 1) := by decide +kernel
theorem dX11_weighs_33 : decode cX11_weighs 33 = .ok (.iaload, 1) := by decide +kernel
theorem dX11_weighs_34 : decode cX11_weighs 34 = .ok (.iload_n 3, 1) := by decide +kernel
theorem dX11_weighs_35 : decode cX11_weighs 35 = .ok (.iadd, 1) := by decide +kernel
theorem dX11_weighs_36 : decode cX11_weighs 36 = .ok (.goto 33, 3) := by decide +kernel
theorem dX11_weighs_39 : decode cX11_weighs 39 = .ok (.iload 4, 2) := by decide +kernel
theorem dX11_weighs_41 : decode cX11_weighs 41 = .ok (.iconst 5, 1) := by decide +kernel
theorem dX11_weighs_42 : decode cX11_weighs 42 = .ok (.if_icmp .ne 21, 3) := by decide +kernel
theorem dX11_weighs_45 : decode cX11_weighs 45 = .ok (.aload_n 0, 1) := by decide +kernel
theorem dX11_weighs_46 : decode cX11_weighs 46 = .ok (.getfield 22, 3) := by decide +kernel
theorem dX11_weighs_49 : decode cX11_weighs 49 = .ok (.iload_n 1, 1) := by decide +kernel
theorem dX11_weighs_50 : decode cX11_weighs 50 = .ok (.iaload, 1) := by decide +kernel
theorem dX11_weighs_51 : decode cX11_weighs 51 = .ok (.iload_n 3, 1) := by decide +kernel
theorem dX11_weighs_52 : decode cX11_weighs 52 = .ok (.isub, 1) := by decide +kernel
theorem dX11_weighs_53 : decode cX11_weighs 53 = .ok (.iconst 1, 1) := by decide +kernel
theorem dX11_weighs_54 : decode cX11_weighs 54 = .ok (.sipush 999, 3) := by decide +kernel
theorem dX11_weighs_57 : decode cX11_weighs 57 = .ok (.invokestatic 194, 3) := by decide +kernel
theorem dX11_weighs_60 : decode cX11_weighs 60 = .ok (.goto 9, 3) := by decide +kernel
theorem dX11_weighs_63 : decode cX11_weighs 63 = .ok (.aload_n 0, 1) := by decide +kernel
theorem dX11_weighs_64 : decode cX11_weighs 64 = .ok (.getfield 22, 3) := by decide +kernel
theorem dX11_weighs_67 : decode cX11_weighs 67 = .ok (.iload_n 1, 1) := by decide +kernel
theorem dX11_weighs_68 : decode cX11_weighs 68 = .ok (.iaload, 1) := by decide +kernel
theorem dX11_weighs_69 : decode cX11_weighs 69 = .ok (.ireturn, 1) := by decide +kernel
theorem dX11_worthAt_0 : decode cX11_worthAt 0 = .ok (.aload_n 0, 1) := by decide +kernel
theorem dX11_worthAt_1 : decode cX11_worthAt 1 = .ok (.iload_n 1, 1) := by decide +kernel
theorem dX11_worthAt_2 : decode cX11_worthAt 2 = .ok (.iload_n 2, 1) := by decide +kernel
theorem dX11_worthAt_3 : decode cX11_worthAt 3 = .ok (.invokevirtual 205, 3) := by decide +kernel
theorem dX11_worthAt_6 : decode cX11_worthAt 6 = .ok (.istore_n 3, 1) := by decide +kernel
theorem dX11_worthAt_7 : decode cX11_worthAt 7 = .ok (.aload_n 0, 1) := by decide +kernel
theorem dX11_worthAt_8 : decode cX11_worthAt 8 = .ok (.getfield 25, 3) := by decide +kernel
theorem dX11_worthAt_11 : decode cX11_worthAt 11 = .ok (.iload_n 1, 1) := by decide +kernel
theorem dX11_worthAt_12 : decode cX11_worthAt 12 = .ok (.iaload, 1) := by decide +kernel
theorem dX11_worthAt_13 : decode cX11_worthAt 13 = .ok (.aload_n 0, 1) := by decide +kernel
theorem dX11_worthAt_14 : decode cX11_worthAt 14 = .ok (.getfield 28, 3) := by decide +kernel
theorem dX11_worthAt_17 : decode cX11_worthAt 17 = .ok (.iload_n 1, 1) := by decide +kernel
theorem dX11_worthAt_18 : decode cX11_worthAt 18 = .ok (.iaload, 1) := by decide +kernel
theorem dX11_worthAt_19 : decode cX11_worthAt 19 = .ok (.iload_n 3, 1) := by decide +kernel
theorem dX11_worthAt_20 : decode cX11_worthAt 20 = .ok (.imul, 1) := by decide +kernel
theorem dX11_worthAt_21 : decode cX11_worthAt 21 = .ok (.isub, 1) := by decide +kernel
theorem dX11_worthAt_22 : decode cX11_worthAt 22 = .ok (.iconst 0, 1) := by decide +kernel
theorem dX11_worthAt_23 : decode cX11_worthAt 23 = .ok (.sipush 999, 3) := by decide +kernel
theorem dX11_worthAt_26 : decode cX11_worthAt 26 = .ok (.invokestatic 194, 3) := by decide +kernel
theorem dX11_worthAt_29 : decode cX11_worthAt 29 = .ok (.istore 4, 2) := by decide +kernel
theorem dX11_worthAt_31 : decode cX11_worthAt 31 = .ok (.aload_n 0, 1) := by decide +kernel
theorem dX11_worthAt_32 : decode cX11_worthAt 32 = .ok (.getfield 19, 3) := by decide +kernel
theorem dX11_worthAt_35 : decode cX11_worthAt 35 = .ok (.iload_n 1, 1) := by decide +kernel
theorem dX11_worthAt_36 : decode cX11_worthAt 36 = .ok (.iaload, 1) := by decide +kernel
theorem dX11_worthAt_37 : decode cX11_worthAt 37 = .ok (.istore 5, 2) := by decide +kernel
theorem dX11_worthAt_39 : decode cX11_worthAt 39 = .ok (.iload 5, 2) := by decide +kernel
theorem dX11_worthAt_41 : decode cX11_worthAt 41 = .ok (.iconst 1, 1) := by decide +kernel
theorem dX11_worthAt_42 : decode cX11_worthAt 42 = .ok (.if_icmp .ne 8, 3) := by decide +kernel
theorem dX11_worthAt_45 : decode cX11_worthAt 45 = .ok (.iload 4, 2) := by decide +kernel
theorem dX11_worthAt_47 : decode cX11_worthAt 47 = .ok (.goto 60, 3) := by decide +kernel
theorem dX11_worthAt_50 : decode cX11_worthAt 50 = .ok (.iload 5, 2) := by decide +kernel
theorem dX11_worthAt_52 : decode cX11_worthAt 52 = .ok (.iconst 3, 1) := by decide +kernel
theorem dX11_worthAt_53 : decode cX11_worthAt 53 = .ok (.if_icmp .ne 19, 3) := by decide +kernel
theorem dX11_worthAt_56 : decode cX11_worthAt 56 = .ok (.iload_n 3, 1) := by decide +kernel
theorem dX11_worthAt_57 : decode cX11_worthAt 57 = .ok (.iconst 3, 1) := by decide +kernel
theorem dX11_worthAt_58 : decode cX11_worthAt 58 = .ok (.if_icmp .le 7, 3) := by decide +kernel
theorem dX11_worthAt_61 : decode cX11_worthAt 61 = .ok (.iconst 0, 1) := by decide +kernel
theorem dX11_worthAt_62 : decode cX11_worthAt 62 = .ok (.goto 45, 3) := by decide +kernel
theorem dX11_worthAt_65 : decode cX11_worthAt 65 = .ok (.iconst 2, 1) := by decide +kernel
theorem dX11_worthAt_66 : decode cX11_worthAt 66 = .ok (.iload 4, 2) := by decide +kernel
theorem dX11_worthAt_68 : decode cX11_worthAt 68 = .ok (.imul, 1) := by decide +kernel
theorem dX11_worthAt_69 : decode cX11_worthAt 69 = .ok (.goto 38, 3) := by decide +kernel
theorem dX11_worthAt_72 : decode cX11_worthAt 72 = .ok (.iload 5, 2) := by decide +kernel
theorem dX11_worthAt_74 : decode cX11_worthAt 74 = .ok (.iconst 4, 1) := by decide +kernel
theorem dX11_worthAt_75 : decode cX11_worthAt 75 = .ok (.if_icmp .ne 26, 3) := by decide +kernel
theorem dX11_worthAt_78 : decode cX11_worthAt 78 = .ok (.aload_n 0, 1) := by decide +kernel
theorem dX11_worthAt_79 : decode cX11_worthAt 79 = .ok (.getfield 25, 3) := by decide +kernel
theorem dX11_worthAt_82 : decode cX11_worthAt 82 = .ok (.iload_n 1, 1) := by decide +kernel
theorem dX11_worthAt_83 : decode cX11_worthAt 83 = .ok (.iaload, 1) := by decide +kernel
theorem dX11_worthAt_84 : decode cX11_worthAt 84 = .ok (.aload_n 0, 1) := by decide +kernel
theorem dX11_worthAt_85 : decode cX11_worthAt 85 = .ok (.getfield 28, 3) := by decide +kernel
theorem dX11_worthAt_88 : decode cX11_worthAt 88 = .ok (.iload_n 1, 1) := by decide +kernel
theorem dX11_worthAt_89 : decode cX11_worthAt 89 = .ok (.iaload, 1) := by decide +kernel
theorem dX11_worthAt_90 : decode cX11_worthAt 90 = .ok (.isub, 1) := by decide +kernel
theorem dX11_worthAt_91 : decode cX11_worthAt 91 = .ok (.iconst 0, 1) := by decide +kernel
theorem dX11_worthAt_92 : decode cX11_worthAt 92 = .ok (.sipush 999, 3) := by decide +kernel
theorem dX11_worthAt_95 : decode cX11_worthAt 95 = .ok (.invokestatic 194, 3) := by decide +kernel
theorem dX11_worthAt_98 : decode cX11_worthAt 98 = .ok (.goto 9, 3) := by decide +kernel
theorem dX11_worthAt_101 : decode cX11_worthAt 101 = .ok (.aload_n 0, 1) := by decide +kernel
theorem dX11_worthAt_102 : decode cX11_worthAt 102 = .ok (.getfield 25, 3) := by decide +kernel
theorem dX11_worthAt_105 : decode cX11_worthAt 105 = .ok (.iload_n 1, 1) := by decide +kernel
theorem dX11_worthAt_106 : decode cX11_worthAt 106 = .ok (.iaload, 1) := by decide +kernel
theorem dX11_worthAt_107 : decode cX11_worthAt 107 = .ok (.ireturn, 1) := by decide +kernel
theorem dX11_at_0 : decode cX11_at 0 = .ok (.aload_n 0, 1) := by decide +kernel
theorem dX11_at_1 : decode cX11_at 1 = .ok (.iload_n 1, 1) := by decide +kernel
theorem dX11_at_2 : decode cX11_at 2 = .ok (.invokevirtual 202, 3) := by decide +kernel
theorem dX11_at_5 : decode cX11_at 5 = .ok (.ifCond .ne 6, 3) := by decide +kernel
theorem dX11_at_8 : decode cX11_at 8 = .ok (.bipush (-5), 2) := by decide +kernel
theorem dX11_at_10 : decode cX11_at 10 = .ok (.ireturn, 1) := by decide +kernel
theorem dX11_at_11 : decode cX11_at 11 = .ok (.iload_n 2, 1) := by decide +kernel
theorem dX11_at_12 : decode cX11_at 12 = .ok (.invokestatic 208, 3) := by decide +kernel
theorem dX11_at_15 : decode cX11_at 15 = .ok (.ifCond .eq 12, 3) := by decide +kernel
theorem dX11_at_18 : decode cX11_at 18 = .ok (.iload_n 3, 1) := by decide +kernel
theorem dX11_at_19 : decode cX11_at 19 = .ok (.iconst 0, 1) := by decide +kernel
theorem dX11_at_20 : decode cX11_at 20 = .ok (.iconst 1, 1) := by decide +kernel
theorem dX11_at_21 : decode cX11_at 21 = .ok (.invokestatic 114, 3) := by decide +kernel
theorem dX11_at_24 : decode cX11_at 24 = .ok (.ifCond .ne 6, 3) := by decide +kernel
theorem dX11_at_27 : decode cX11_at 27 = .ok (.bipush (-7), 2) := by decide +kernel
theorem dX11_at_29 : decode cX11_at 29 = .ok (.ireturn, 1) := by decide +kernel
theorem dX11_at_30 : decode cX11_at 30 = .ok (.iload_n 3, 1) := by decide +kernel
theorem dX11_at_31 : decode cX11_at 31 = .ok (.ifCond .ne 12, 3) := by decide +kernel
theorem dX11_at_34 : decode cX11_at 34 = .ok (.aload_n 0, 1) := by decide +kernel
theorem dX11_at_35 : decode cX11_at 35 = .ok (.iload_n 1, 1) := by decide +kernel
theorem dX11_at_36 : decode cX11_at 36 = .ok (.iload_n 2, 1) := by decide +kernel
theorem dX11_at_37 : decode cX11_at 37 = .ok (.invokevirtual 211, 3) := by decide +kernel
theorem dX11_at_40 : decode cX11_at 40 = .ok (.goto 9, 3) := by decide +kernel
theorem dX11_at_43 : decode cX11_at 43 = .ok (.aload_n 0, 1) := by decide +kernel
theorem dX11_at_44 : decode cX11_at 44 = .ok (.iload_n 1, 1) := by decide +kernel
theorem dX11_at_45 : decode cX11_at 45 = .ok (.iload_n 2, 1) := by decide +kernel
theorem dX11_at_46 : decode cX11_at 46 = .ok (.invokevirtual 214, 3) := by decide +kernel
theorem dX11_at_49 : decode cX11_at 49 = .ok (.ireturn, 1) := by decide +kernel
theorem dX11_makes_0 : decode cX11_makes 0 = .ok (.iload_n 1, 1) := by decide +kernel
theorem dX11_makes_1 : decode cX11_makes 1 = .ok (.aload_n 0, 1) := by decide +kernel
theorem dX11_makes_2 : decode cX11_makes 2 = .ok (.getfield 118, 3) := by decide +kernel
theorem dX11_makes_5 : decode cX11_makes 5 = .ok (.if_icmp .ne 51, 3) := by decide +kernel
theorem dX11_makes_8 : decode cX11_makes 8 = .ok (.iload_n 2, 1) := by decide +kernel
theorem dX11_makes_9 : decode cX11_makes 9 = .ok (.iconst 0, 1) := by decide +kernel
theorem dX11_makes_10 : decode cX11_makes 10 = .ok (.invokestatic 217, 3) := by decide +kernel
theorem dX11_makes_13 : decode cX11_makes 13 = .ok (.istore 4, 2) := by decide +kernel
theorem dX11_makes_15 : decode cX11_makes 15 = .ok (.aload_n 0, 1) := by decide +kernel
theorem dX11_makes_16 : decode cX11_makes 16 = .ok (.getfield 79, 3) := by decide +kernel
theorem dX11_makes_19 : decode cX11_makes 19 = .ok (.iload 4, 2) := by decide +kernel
theorem dX11_makes_21 : decode cX11_makes 21 = .ok (.aload_n 0, 1) := by decide +kernel
theorem dX11_makes_22 : decode cX11_makes 22 = .ok (.getfield 79, 3) := by decide +kernel
theorem dX11_makes_25 : decode cX11_makes 25 = .ok (.iload 4, 2) := by decide +kernel
theorem dX11_makes_27 : decode cX11_makes 27 = .ok (.iaload, 1) := by decide +kernel
theorem dX11_makes_28 : decode cX11_makes 28 = .ok (.iconst (-1), 1) := by decide +kernel
theorem dX11_makes_29 : decode cX11_makes 29 = .ok (.if_icmp .eq 14, 3) := by decide +kernel
theorem dX11_makes_32 : decode cX11_makes 32 = .ok (.iload_n 3, 1) := by decide +kernel
theorem dX11_makes_33 : decode cX11_makes 33 = .ok (.aload_n 0, 1) := by decide +kernel
theorem dX11_makes_34 : decode cX11_makes 34 = .ok (.getfield 79, 3) := by decide +kernel
theorem dX11_makes_37 : decode cX11_makes 37 = .ok (.iload 4, 2) := by decide +kernel
theorem dX11_makes_39 : decode cX11_makes 39 = .ok (.iaload, 1) := by decide +kernel
theorem dX11_makes_40 : decode cX11_makes 40 = .ok (.if_icmp .ge 7, 3) := by decide +kernel
theorem dX11_makes_43 : decode cX11_makes 43 = .ok (.iload_n 3, 1) := by decide +kernel
theorem dX11_makes_44 : decode cX11_makes 44 = .ok (.goto 10, 3) := by decide +kernel
theorem dX11_makes_47 : decode cX11_makes 47 = .ok (.aload_n 0, 1) := by decide +kernel
theorem dX11_makes_48 : decode cX11_makes 48 = .ok (.getfield 79, 3) := by decide +kernel
theorem dX11_makes_51 : decode cX11_makes 51 = .ok (.iload 4, 2) := by decide +kernel
theorem dX11_makes_53 : decode cX11_makes 53 = .ok (.iaload, 1) := by decide +kernel
theorem dX11_makes_54 : decode cX11_makes 54 = .ok (.iastore, 1) := by decide +kernel
theorem dX11_makes_55 : decode cX11_makes 55 = .ok (.return_, 1) := by decide +kernel
theorem dX11_makes_56 : decode cX11_makes 56 = .ok (.aload_n 0, 1) := by decide +kernel
theorem dX11_makes_57 : decode cX11_makes 57 = .ok (.iload_n 1, 1) := by decide +kernel
theorem dX11_makes_58 : decode cX11_makes 58 = .ok (.iconst 1, 1) := by decide +kernel
theorem dX11_makes_59 : decode cX11_makes 59 = .ok (.iadd, 1) := by decide +kernel
theorem dX11_makes_60 : decode cX11_makes 60 = .ok (.iload_n 2, 1) := by decide +kernel
theorem dX11_makes_61 : decode cX11_makes 61 = .ok (.iload_n 3, 1) := by decide +kernel
theorem dX11_makes_62 : decode cX11_makes 62 = .ok (.invokevirtual 220, 3) := by decide +kernel
theorem dX11_makes_65 : decode cX11_makes 65 = .ok (.aload_n 0, 1) := by decide +kernel
theorem dX11_makes_66 : decode cX11_makes 66 = .ok (.iload_n 1, 1) := by decide +kernel
theorem dX11_makes_67 : decode cX11_makes 67 = .ok (.iconst 1, 1) := by decide +kernel
theorem dX11_makes_68 : decode cX11_makes 68 = .ok (.iadd, 1) := by decide +kernel
theorem dX11_makes_69 : decode cX11_makes 69 = .ok (.iload_n 2, 1) := by decide +kernel
theorem dX11_makes_70 : decode cX11_makes 70 = .ok (.aload_n 0, 1) := by decide +kernel
theorem dX11_makes_71 : decode cX11_makes 71 = .ok (.getfield 13, 3) := by decide +kernel
theorem dX11_makes_74 : decode cX11_makes 74 = .ok (.iload_n 1, 1) := by decide +kernel
theorem dX11_makes_75 : decode cX11_makes 75 = .ok (.iaload, 1) := by decide +kernel
theorem dX11_makes_76 : decode cX11_makes 76 = .ok (.iadd, 1) := by decide +kernel
theorem dX11_makes_77 : decode cX11_makes 77 = .ok (.iload_n 3, 1) := by decide +kernel
theorem dX11_makes_78 : decode cX11_makes 78 = .ok (.iconst 1, 1) := by decide +kernel
theorem dX11_makes_79 : decode cX11_makes 79 = .ok (.iadd, 1) := by decide +kernel
theorem dX11_makes_80 : decode cX11_makes 80 = .ok (.invokevirtual 220, 3) := by decide +kernel
theorem dX11_makes_83 : decode cX11_makes 83 = .ok (.aload_n 0, 1) := by decide +kernel
theorem dX11_makes_84 : decode cX11_makes 84 = .ok (.iload_n 1, 1) := by decide +kernel
theorem dX11_makes_85 : decode cX11_makes 85 = .ok (.iconst 1, 1) := by decide +kernel
theorem dX11_makes_86 : decode cX11_makes 86 = .ok (.iadd, 1) := by decide +kernel
theorem dX11_makes_87 : decode cX11_makes 87 = .ok (.iload_n 2, 1) := by decide +kernel
theorem dX11_makes_88 : decode cX11_makes 88 = .ok (.aload_n 0, 1) := by decide +kernel
theorem dX11_makes_89 : decode cX11_makes 89 = .ok (.getfield 13, 3) := by decide +kernel
theorem dX11_makes_92 : decode cX11_makes 92 = .ok (.iload_n 1, 1) := by decide +kernel
theorem dX11_makes_93 : decode cX11_makes 93 = .ok (.iaload, 1) := by decide +kernel
theorem dX11_makes_94 : decode cX11_makes 94 = .ok (.isub, 1) := by decide +kernel
theorem dX11_makes_95 : decode cX11_makes 95 = .ok (.iload_n 3, 1) := by decide +kernel
theorem dX11_makes_96 : decode cX11_makes 96 = .ok (.iconst 1, 1) := by decide +kernel
theorem dX11_makes_97 : decode cX11_makes 97 = .ok (.iadd, 1) := by decide +kernel
theorem dX11_makes_98 : decode cX11_makes 98 = .ok (.invokevirtual 220, 3) := by decide +kernel
theorem dX11_makes_101 : decode cX11_makes 101 = .ok (.return_, 1) := by decide +kernel
theorem dX11_findsMade_0 : decode cX11_findsMade 0 = .ok (.iconst 0, 1) := by decide +kernel
theorem dX11_findsMade_1 : decode cX11_findsMade 1 = .ok (.istore_n 1, 1) := by decide +kernel
theorem dX11_findsMade_2 : decode cX11_findsMade 2 = .ok (.iload_n 1, 1) := by decide +kernel
theorem dX11_findsMade_3 : decode cX11_findsMade 3 = .ok (.sipush 999, 3) := by decide +kernel
theorem dX11_findsMade_6 : decode cX11_findsMade 6 = .ok (.if_icmp .gt 16, 3) := by decide +kernel
theorem dX11_findsMade_9 : decode cX11_findsMade 9 = .ok (.aload_n 0, 1) := by decide +kernel
theorem dX11_findsMade_10 : decode cX11_findsMade 10 = .ok (.getfield 79, 3) := by decide +kernel
theorem dX11_findsMade_13 : decode cX11_findsMade 13 = .ok (.iload_n 1, 1) := by decide +kernel
theorem dX11_findsMade_14 : decode cX11_findsMade 14 = .ok (.iconst (-1), 1) := by decide +kernel
theorem dX11_findsMade_15 : decode cX11_findsMade 15 = .ok (.iastore, 1) := by decide +kernel
theorem dX11_findsMade_16 : decode cX11_findsMade 16 = .ok (.iinc 1 1, 3) := by decide +kernel
theorem dX11_findsMade_19 : decode cX11_findsMade 19 = .ok (.goto (-17), 3) := by decide +kernel
theorem dX11_findsMade_22 : decode cX11_findsMade 22 = .ok (.aload_n 0, 1) := by decide +kernel
theorem dX11_findsMade_23 : decode cX11_findsMade 23 = .ok (.iconst 0, 1) := by decide +kernel
theorem dX11_findsMade_24 : decode cX11_findsMade 24 = .ok (.iconst 0, 1) := by decide +kernel
theorem dX11_findsMade_25 : decode cX11_findsMade 25 = .ok (.iconst 0, 1) := by decide +kernel
theorem dX11_findsMade_26 : decode cX11_findsMade 26 = .ok (.invokevirtual 220, 3) := by decide +kernel
theorem dX11_findsMade_29 : decode cX11_findsMade 29 = .ok (.return_, 1) := by decide +kernel
theorem dX11_madeBy_0 : decode cX11_madeBy 0 = .ok (.iload_n 1, 1) := by decide +kernel
theorem dX11_madeBy_1 : decode cX11_madeBy 1 = .ok (.iconst 0, 1) := by decide +kernel
theorem dX11_madeBy_2 : decode cX11_madeBy 2 = .ok (.sipush 999, 3) := by decide +kernel
theorem dX11_madeBy_5 : decode cX11_madeBy 5 = .ok (.invokestatic 114, 3) := by decide +kernel
theorem dX11_madeBy_8 : decode cX11_madeBy 8 = .ok (.ifCond .eq 12, 3) := by decide +kernel
theorem dX11_madeBy_11 : decode cX11_madeBy 11 = .ok (.aload_n 0, 1) := by decide +kernel
theorem dX11_madeBy_12 : decode cX11_madeBy 12 = .ok (.getfield 79, 3) := by decide +kernel
theorem dX11_madeBy_15 : decode cX11_madeBy 15 = .ok (.iload_n 1, 1) := by decide +kernel
theorem dX11_madeBy_16 : decode cX11_madeBy 16 = .ok (.iaload, 1) := by decide +kernel
theorem dX11_madeBy_17 : decode cX11_madeBy 17 = .ok (.goto 4, 3) := by decide +kernel
theorem dX11_madeBy_20 : decode cX11_madeBy 20 = .ok (.iconst (-1), 1) := by decide +kernel
theorem dX11_madeBy_21 : decode cX11_madeBy 21 = .ok (.ireturn, 1) := by decide +kernel
theorem dX11_make_0 : decode cX11_make 0 = .ok (.iload_n 1, 1) := by decide +kernel
theorem dX11_make_1 : decode cX11_make 1 = .ok (.iconst 0, 1) := by decide +kernel
theorem dX11_make_2 : decode cX11_make 2 = .ok (.sipush 999, 3) := by decide +kernel
theorem dX11_make_5 : decode cX11_make 5 = .ok (.invokestatic 114, 3) := by decide +kernel
theorem dX11_make_8 : decode cX11_make 8 = .ok (.ifCond .ne 6, 3) := by decide +kernel
theorem dX11_make_11 : decode cX11_make 11 = .ok (.bipush (-2), 2) := by decide +kernel
theorem dX11_make_13 : decode cX11_make 13 = .ok (.ireturn, 1) := by decide +kernel
theorem dX11_make_14 : decode cX11_make 14 = .ok (.aload_n 0, 1) := by decide +kernel
theorem dX11_make_15 : decode cX11_make 15 = .ok (.invokevirtual 224, 3) := by decide +kernel
theorem dX11_make_18 : decode cX11_make 18 = .ok (.aload_n 0, 1) := by decide +kernel
theorem dX11_make_19 : decode cX11_make 19 = .ok (.getfield 79, 3) := by decide +kernel
theorem dX11_make_22 : decode cX11_make 22 = .ok (.iload_n 1, 1) := by decide +kernel
theorem dX11_make_23 : decode cX11_make 23 = .ok (.iaload, 1) := by decide +kernel
theorem dX11_make_24 : decode cX11_make 24 = .ok (.ireturn, 1) := by decide +kernel
theorem dX11_makings_0 : decode cX11_makings 0 = .ok (.iload_n 1, 1) := by decide +kernel
theorem dX11_makings_1 : decode cX11_makings 1 = .ok (.iconst 0, 1) := by decide +kernel
theorem dX11_makings_2 : decode cX11_makings 2 = .ok (.sipush 999, 3) := by decide +kernel
theorem dX11_makings_5 : decode cX11_makings 5 = .ok (.invokestatic 114, 3) := by decide +kernel
theorem dX11_makings_8 : decode cX11_makings 8 = .ok (.ifCond .eq 12, 3) := by decide +kernel
theorem dX11_makings_11 : decode cX11_makings 11 = .ok (.iload_n 2, 1) := by decide +kernel
theorem dX11_makings_12 : decode cX11_makings 12 = .ok (.iconst 0, 1) := by decide +kernel
theorem dX11_makings_13 : decode cX11_makings 13 = .ok (.iconst 1, 1) := by decide +kernel
theorem dX11_makings_14 : decode cX11_makings 14 = .ok (.invokestatic 114, 3) := by decide +kernel
theorem dX11_makings_17 : decode cX11_makings 17 = .ok (.ifCond .ne 6, 3) := by decide +kernel
theorem dX11_makings_20 : decode cX11_makings 20 = .ok (.bipush (-2), 2) := by decide +kernel
theorem dX11_makings_22 : decode cX11_makings 22 = .ok (.ireturn, 1) := by decide +kernel
theorem dX11_makings_23 : decode cX11_makings 23 = .ok (.aload_n 0, 1) := by decide +kernel
theorem dX11_makings_24 : decode cX11_makings 24 = .ok (.invokevirtual 224, 3) := by decide +kernel
theorem dX11_makings_27 : decode cX11_makings 27 = .ok (.iconst 0, 1) := by decide +kernel
theorem dX11_makings_28 : decode cX11_makings 28 = .ok (.istore_n 3, 1) := by decide +kernel
theorem dX11_makings_29 : decode cX11_makings 29 = .ok (.iconst (-1), 1) := by decide +kernel
theorem dX11_makings_30 : decode cX11_makings 30 = .ok (.istore 4, 2) := by decide +kernel
theorem dX11_makings_32 : decode cX11_makings 32 = .ok (.iload_n 1, 1) := by decide +kernel
theorem dX11_makings_33 : decode cX11_makings 33 = .ok (.istore 5, 2) := by decide +kernel
theorem dX11_makings_35 : decode cX11_makings 35 = .ok (.iload 5, 2) := by decide +kernel
theorem dX11_makings_37 : decode cX11_makings 37 = .ok (.iconst 1, 1) := by decide +kernel
theorem dX11_makings_38 : decode cX11_makings 38 = .ok (.if_icmp .lt 48, 3) := by decide +kernel
theorem dX11_makings_41 : decode cX11_makings 41 = .ok (.iload_n 3, 1) := by decide +kernel
theorem dX11_makings_42 : decode cX11_makings 42 = .ok (.aload_n 0, 1) := by decide +kernel
theorem dX11_makings_43 : decode cX11_makings 43 = .ok (.getfield 79, 3) := by decide +kernel
theorem dX11_makings_46 : decode cX11_makings 46 = .ok (.iload 5, 2) := by decide +kernel
theorem dX11_makings_48 : decode cX11_makings 48 = .ok (.iaload, 1) := by decide +kernel
theorem dX11_makings_49 : decode cX11_makings 49 = .ok (.iconst (-1), 1) := by decide +kernel
theorem dX11_makings_50 : decode cX11_makings 50 = .ok (.if_icmp .ne 7, 3) := by decide +kernel
theorem dX11_makings_53 : decode cX11_makings 53 = .ok (.iconst 0, 1) := by decide +kernel
theorem dX11_makings_54 : decode cX11_makings 54 = .ok (.goto 4, 3) := by decide +kernel
theorem dX11_makings_57 : decode cX11_makings 57 = .ok (.iconst 1, 1) := by decide +kernel
theorem dX11_makings_58 : decode cX11_makings 58 = .ok (.iadd, 1) := by decide +kernel
theorem dX11_makings_59 : decode cX11_makings 59 = .ok (.istore_n 3, 1) := by decide +kernel
theorem dX11_makings_60 : decode cX11_makings 60 = .ok (.aload_n 0, 1) := by decide +kernel
theorem dX11_makings_61 : decode cX11_makings 61 = .ok (.getfield 79, 3) := by decide +kernel
theorem dX11_makings_64 : decode cX11_makings 64 = .ok (.iload 5, 2) := by decide +kernel
theorem dX11_makings_66 : decode cX11_makings 66 = .ok (.iaload, 1) := by decide +kernel
theorem dX11_makings_67 : decode cX11_makings 67 = .ok (.iconst (-1), 1) := by decide +kernel
theorem dX11_makings_68 : decode cX11_makings 68 = .ok (.if_icmp .ne 8, 3) := by decide +kernel
theorem dX11_makings_71 : decode cX11_makings 71 = .ok (.iload 5, 2) := by decide +kernel
theorem dX11_makings_73 : decode cX11_makings 73 = .ok (.goto 5, 3) := by decide +kernel
theorem dX11_makings_76 : decode cX11_makings 76 = .ok (.iload 4, 2) := by decide +kernel
theorem dX11_makings_78 : decode cX11_makings 78 = .ok (.istore 4, 2) := by decide +kernel
theorem dX11_makings_80 : decode cX11_makings 80 = .ok (.iinc 5 (-1), 3) := by decide +kernel
theorem dX11_makings_83 : decode cX11_makings 83 = .ok (.goto (-48), 3) := by decide +kernel
theorem dX11_makings_86 : decode cX11_makings 86 = .ok (.iload_n 2, 1) := by decide +kernel
theorem dX11_makings_87 : decode cX11_makings 87 = .ok (.ifCond .ne 7, 3) := by decide +kernel
theorem dX11_makings_90 : decode cX11_makings 90 = .ok (.iload_n 3, 1) := by decide +kernel
theorem dX11_makings_91 : decode cX11_makings 91 = .ok (.goto 5, 3) := by decide +kernel
theorem dX11_makings_94 : decode cX11_makings 94 = .ok (.iload 4, 2) := by decide +kernel
theorem dX11_makings_96 : decode cX11_makings 96 = .ok (.ireturn, 1) := by decide +kernel
theorem dX11_own_0 : decode cX11_own 0 = .ok (.iload_n 1, 1) := by decide +kernel
theorem dX11_own_1 : decode cX11_own 1 = .ok (.iconst 0, 1) := by decide +kernel
theorem dX11_own_2 : decode cX11_own 2 = .ok (.bipush 99, 2) := by decide +kernel
theorem dX11_own_4 : decode cX11_own 4 = .ok (.invokestatic 114, 3) := by decide +kernel
theorem dX11_own_7 : decode cX11_own 7 = .ok (.ifCond .eq 12, 3) := by decide +kernel
theorem dX11_own_10 : decode cX11_own 10 = .ok (.iload_n 2, 1) := by decide +kernel
theorem dX11_own_11 : decode cX11_own 11 = .ok (.iconst 0, 1) := by decide +kernel
theorem dX11_own_12 : decode cX11_own 12 = .ok (.iconst 1, 1) := by decide +kernel
theorem dX11_own_13 : decode cX11_own 13 = .ok (.invokestatic 114, 3) := by decide +kernel
theorem dX11_own_16 : decode cX11_own 16 = .ok (.ifCond .ne 6, 3) := by decide +kernel
theorem dX11_own_19 : decode cX11_own 19 = .ok (.bipush (-2), 2) := by decide +kernel
theorem dX11_own_21 : decode cX11_own 21 = .ok (.ireturn, 1) := by decide +kernel
theorem dX11_own_22 : decode cX11_own 22 = .ok (.aload_n 0, 1) := by decide +kernel
theorem dX11_own_23 : decode cX11_own 23 = .ok (.getfield 118, 3) := by decide +kernel
theorem dX11_own_26 : decode cX11_own 26 = .ok (.iconst 5, 1) := by decide +kernel
theorem dX11_own_27 : decode cX11_own 27 = .ok (.if_icmp .ne 6, 3) := by decide +kernel
theorem dX11_own_30 : decode cX11_own 30 = .ok (.bipush (-3), 2) := by decide +kernel
theorem dX11_own_32 : decode cX11_own 32 = .ok (.ireturn, 1) := by decide +kernel
theorem dX11_own_33 : decode cX11_own 33 = .ok (.aload_n 0, 1) := by decide +kernel
theorem dX11_own_34 : decode cX11_own 34 = .ok (.invokevirtual 224, 3) := by decide +kernel
theorem dX11_own_37 : decode cX11_own 37 = .ok (.iconst 0, 1) := by decide +kernel
theorem dX11_own_38 : decode cX11_own 38 = .ok (.istore_n 3, 1) := by decide +kernel
theorem dX11_own_39 : decode cX11_own 39 = .ok (.iconst (-1), 1) := by decide +kernel
theorem dX11_own_40 : decode cX11_own 40 = .ok (.istore 4, 2) := by decide +kernel
theorem dX11_own_42 : decode cX11_own 42 = .ok (.iconst 1, 1) := by decide +kernel
theorem dX11_own_43 : decode cX11_own 43 = .ok (.istore 5, 2) := by decide +kernel
theorem dX11_own_45 : decode cX11_own 45 = .ok (.iload 5, 2) := by decide +kernel
theorem dX11_own_47 : decode cX11_own 47 = .ok (.bipush 99, 2) := by decide +kernel
theorem dX11_own_49 : decode cX11_own 49 = .ok (.if_icmp .gt 120, 3) := by decide +kernel
theorem dX11_own_52 : decode cX11_own 52 = .ok (.iconst 0, 1) := by decide +kernel
theorem dX11_own_53 : decode cX11_own 53 = .ok (.istore 6, 2) := by decide +kernel
theorem dX11_own_55 : decode cX11_own 55 = .ok (.iconst 1, 1) := by decide +kernel
theorem dX11_own_56 : decode cX11_own 56 = .ok (.istore 7, 2) := by decide +kernel
theorem dX11_own_58 : decode cX11_own 58 = .ok (.iload 7, 2) := by decide +kernel
theorem dX11_own_60 : decode cX11_own 60 = .ok (.iload_n 1, 1) := by decide +kernel
theorem dX11_own_61 : decode cX11_own 61 = .ok (.if_icmp .gt 72, 3) := by decide +kernel
theorem dX11_own_64 : decode cX11_own 64 = .ok (.aload_n 0, 1) := by decide +kernel
theorem dX11_own_65 : decode cX11_own 65 = .ok (.getfield 79, 3) := by decide +kernel
theorem dX11_own_68 : decode cX11_own 68 = .ok (.iload 7, 2) := by decide +kernel
theorem dX11_own_70 : decode cX11_own 70 = .ok (.iaload, 1) := by decide +kernel
theorem dX11_own_71 : decode cX11_own 71 = .ok (.iconst (-1), 1) := by decide +kernel
theorem dX11_own_72 : decode cX11_own 72 = .ok (.if_icmp .ne 33, 3) := by decide +kernel
theorem dX11_own_75 : decode cX11_own 75 = .ok (.aload_n 0, 1) := by decide +kernel
theorem dX11_own_76 : decode cX11_own 76 = .ok (.getfield 79, 3) := by decide +kernel
theorem dX11_own_79 : decode cX11_own 79 = .ok (.iload 7, 2) := by decide +kernel
theorem dX11_own_81 : decode cX11_own 81 = .ok (.iload 5, 2) := by decide +kernel
theorem dX11_own_83 : decode cX11_own 83 = .ok (.invokestatic 217, 3) := by decide +kernel
theorem dX11_own_86 : decode cX11_own 86 = .ok (.iaload, 1) := by decide +kernel
theorem dX11_own_87 : decode cX11_own 87 = .ok (.iconst (-1), 1) := by decide +kernel
theorem dX11_own_88 : decode cX11_own 88 = .ok (.if_icmp .ne 17, 3) := by decide +kernel
theorem dX11_own_91 : decode cX11_own 91 = .ok (.aload_n 0, 1) := by decide +kernel
theorem dX11_own_92 : decode cX11_own 92 = .ok (.getfield 79, 3) := by decide +kernel
theorem dX11_own_95 : decode cX11_own 95 = .ok (.iload 7, 2) := by decide +kernel
theorem dX11_own_97 : decode cX11_own 97 = .ok (.iload 5, 2) := by decide +kernel
theorem dX11_own_99 : decode cX11_own 99 = .ok (.iadd, 1) := by decide +kernel
theorem dX11_own_100 : decode cX11_own 100 = .ok (.iaload, 1) := by decide +kernel
theorem dX11_own_101 : decode cX11_own 101 = .ok (.iconst (-1), 1) := by decide +kernel
theorem dX11_own_102 : decode cX11_own 102 = .ok (.if_icmp .eq 7, 3) := by decide +kernel
theorem dX11_own_105 : decode cX11_own 105 = .ok (.iconst 1, 1) := by decide +kernel
theorem dX11_own_106 : decode cX11_own 106 = .ok (.goto 4, 3) := by decide +kernel
theorem dX11_own_109 : decode cX11_own 109 = .ok (.iconst 0, 1) := by decide +kernel
theorem dX11_own_110 : decode cX11_own 110 = .ok (.istore 8, 2) := by decide +kernel
theorem dX11_own_112 : decode cX11_own 112 = .ok (.iload 6, 2) := by decide +kernel
theorem dX11_own_114 : decode cX11_own 114 = .ok (.iload 8, 2) := by decide +kernel
theorem dX11_own_116 : decode cX11_own 116 = .ok (.ifCond .eq 7, 3) := by decide +kernel
theorem dX11_own_119 : decode cX11_own 119 = .ok (.iconst 1, 1) := by decide +kernel
theorem dX11_own_120 : decode cX11_own 120 = .ok (.goto 4, 3) := by decide +kernel
theorem dX11_own_123 : decode cX11_own 123 = .ok (.iconst 0, 1) := by decide +kernel
theorem dX11_own_124 : decode cX11_own 124 = .ok (.iadd, 1) := by decide +kernel
theorem dX11_own_125 : decode cX11_own 125 = .ok (.istore 6, 2) := by decide +kernel
theorem dX11_own_127 : decode cX11_own 127 = .ok (.iinc 7 1, 3) := by decide +kernel
theorem dX11_own_130 : decode cX11_own 130 = .ok (.goto (-72), 3) := by decide +kernel
theorem dX11_own_133 : decode cX11_own 133 = .ok (.iload 6, 2) := by decide +kernel
theorem dX11_own_135 : decode cX11_own 135 = .ok (.iload 4, 2) := by decide +kernel
theorem dX11_own_137 : decode cX11_own 137 = .ok (.if_icmp .le 8, 3) := by decide +kernel
theorem dX11_own_140 : decode cX11_own 140 = .ok (.iload 5, 2) := by decide +kernel
theorem dX11_own_142 : decode cX11_own 142 = .ok (.goto 4, 3) := by decide +kernel
theorem dX11_own_145 : decode cX11_own 145 = .ok (.iload_n 3, 1) := by decide +kernel
theorem dX11_own_146 : decode cX11_own 146 = .ok (.istore_n 3, 1) := by decide +kernel
theorem dX11_own_147 : decode cX11_own 147 = .ok (.iload 6, 2) := by decide +kernel
theorem dX11_own_149 : decode cX11_own 149 = .ok (.iload 4, 2) := by decide +kernel
theorem dX11_own_151 : decode cX11_own 151 = .ok (.if_icmp .le 8, 3) := by decide +kernel
theorem dX11_own_154 : decode cX11_own 154 = .ok (.iload 6, 2) := by decide +kernel
theorem dX11_own_156 : decode cX11_own 156 = .ok (.goto 5, 3) := by decide +kernel
theorem dX11_own_159 : decode cX11_own 159 = .ok (.iload 4, 2) := by decide +kernel
theorem dX11_own_161 : decode cX11_own 161 = .ok (.istore 4, 2) := by decide +kernel
theorem dX11_own_163 : decode cX11_own 163 = .ok (.iinc 5 1, 3) := by decide +kernel
theorem dX11_own_166 : decode cX11_own 166 = .ok (.goto (-121), 3) := by decide +kernel
theorem dX11_own_169 : decode cX11_own 169 = .ok (.iload_n 2, 1) := by decide +kernel
theorem dX11_own_170 : decode cX11_own 170 = .ok (.ifCond .ne 7, 3) := by decide +kernel
theorem dX11_own_173 : decode cX11_own 173 = .ok (.iload_n 3, 1) := by decide +kernel
theorem dX11_own_174 : decode cX11_own 174 = .ok (.goto 5, 3) := by decide +kernel
theorem dX11_own_177 : decode cX11_own 177 = .ok (.iload 4, 2) := by decide +kernel
theorem dX11_own_179 : decode cX11_own 179 = .ok (.ireturn, 1) := by decide +kernel
theorem dX11_falsely_0 : decode cX11_falsely 0 = .ok (.iload_n 1, 1) := by decide +kernel
theorem dX11_falsely_1 : decode cX11_falsely 1 = .ok (.iconst 0, 1) := by decide +kernel
theorem dX11_falsely_2 : decode cX11_falsely 2 = .ok (.sipush 999, 3) := by decide +kernel
theorem dX11_falsely_5 : decode cX11_falsely 5 = .ok (.invokestatic 114, 3) := by decide +kernel
theorem dX11_falsely_8 : decode cX11_falsely 8 = .ok (.ifCond .ne 6, 3) := by decide +kernel
theorem dX11_falsely_11 : decode cX11_falsely 11 = .ok (.bipush (-2), 2) := by decide +kernel
theorem dX11_falsely_13 : decode cX11_falsely 13 = .ok (.ireturn, 1) := by decide +kernel
theorem dX11_falsely_14 : decode cX11_falsely 14 = .ok (.aload_n 0, 1) := by decide +kernel
theorem dX11_falsely_15 : decode cX11_falsely 15 = .ok (.invokevirtual 224, 3) := by decide +kernel
theorem dX11_falsely_18 : decode cX11_falsely 18 = .ok (.aload_n 0, 1) := by decide +kernel
theorem dX11_falsely_19 : decode cX11_falsely 19 = .ok (.getfield 79, 3) := by decide +kernel
theorem dX11_falsely_22 : decode cX11_falsely 22 = .ok (.iload_n 1, 1) := by decide +kernel
theorem dX11_falsely_23 : decode cX11_falsely 23 = .ok (.iaload, 1) := by decide +kernel
theorem dX11_falsely_24 : decode cX11_falsely 24 = .ok (.iconst (-1), 1) := by decide +kernel
theorem dX11_falsely_25 : decode cX11_falsely 25 = .ok (.if_icmp .eq 5, 3) := by decide +kernel
theorem dX11_falsely_28 : decode cX11_falsely 28 = .ok (.iconst 0, 1) := by decide +kernel
theorem dX11_falsely_29 : decode cX11_falsely 29 = .ok (.ireturn, 1) := by decide +kernel
theorem dX11_falsely_30 : decode cX11_falsely 30 = .ok (.iconst 0, 1) := by decide +kernel
theorem dX11_falsely_31 : decode cX11_falsely 31 = .ok (.istore_n 2, 1) := by decide +kernel
theorem dX11_falsely_32 : decode cX11_falsely 32 = .ok (.iconst 0, 1) := by decide +kernel
theorem dX11_falsely_33 : decode cX11_falsely 33 = .ok (.istore_n 3, 1) := by decide +kernel
theorem dX11_falsely_34 : decode cX11_falsely 34 = .ok (.iload_n 3, 1) := by decide +kernel
theorem dX11_falsely_35 : decode cX11_falsely 35 = .ok (.aload_n 0, 1) := by decide +kernel
theorem dX11_falsely_36 : decode cX11_falsely 36 = .ok (.getfield 118, 3) := by decide +kernel
theorem dX11_falsely_39 : decode cX11_falsely 39 = .ok (.if_icmp .ge 53, 3) := by decide +kernel
theorem dX11_falsely_42 : decode cX11_falsely 42 = .ok (.aload_n 0, 1) := by decide +kernel
theorem dX11_falsely_43 : decode cX11_falsely 43 = .ok (.getfield 13, 3) := by decide +kernel
theorem dX11_falsely_46 : decode cX11_falsely 46 = .ok (.iload_n 3, 1) := by decide +kernel
theorem dX11_falsely_47 : decode cX11_falsely 47 = .ok (.dup2, 1) := by decide +kernel
theorem dX11_falsely_48 : decode cX11_falsely 48 = .ok (.iaload, 1) := by decide +kernel
theorem dX11_falsely_49 : decode cX11_falsely 49 = .ok (.iconst 1, 1) := by decide +kernel
theorem dX11_falsely_50 : decode cX11_falsely 50 = .ok (.iadd, 1) := by decide +kernel
theorem dX11_falsely_51 : decode cX11_falsely 51 = .ok (.iastore, 1) := by decide +kernel
theorem dX11_falsely_52 : decode cX11_falsely 52 = .ok (.aload_n 0, 1) := by decide +kernel
theorem dX11_falsely_53 : decode cX11_falsely 53 = .ok (.invokevirtual 224, 3) := by decide +kernel
theorem dX11_falsely_56 : decode cX11_falsely 56 = .ok (.iload_n 2, 1) := by decide +kernel
theorem dX11_falsely_57 : decode cX11_falsely 57 = .ok (.aload_n 0, 1) := by decide +kernel
theorem dX11_falsely_58 : decode cX11_falsely 58 = .ok (.getfield 79, 3) := by decide +kernel
theorem dX11_falsely_61 : decode cX11_falsely 61 = .ok (.iload_n 1, 1) := by decide +kernel
theorem dX11_falsely_62 : decode cX11_falsely 62 = .ok (.iaload, 1) := by decide +kernel
theorem dX11_falsely_63 : decode cX11_falsely 63 = .ok (.iconst (-1), 1) := by decide +kernel
theorem dX11_falsely_64 : decode cX11_falsely 64 = .ok (.if_icmp .eq 9, 3) := by decide +kernel
theorem dX11_falsely_67 : decode cX11_falsely 67 = .ok (.iconst 1, 1) := by decide +kernel
theorem dX11_falsely_68 : decode cX11_falsely 68 = .ok (.iload_n 3, 1) := by decide +kernel
theorem dX11_falsely_69 : decode cX11_falsely 69 = .ok (.ishl, 1) := by decide +kernel
theorem dX11_falsely_70 : decode cX11_falsely 70 = .ok (.goto 4, 3) := by decide +kernel
theorem dX11_falsely_73 : decode cX11_falsely 73 = .ok (.iconst 0, 1) := by decide +kernel
theorem dX11_falsely_74 : decode cX11_falsely 74 = .ok (.ior, 1) := by decide +kernel
theorem dX11_falsely_75 : decode cX11_falsely 75 = .ok (.istore_n 2, 1) := by decide +kernel
theorem dX11_falsely_76 : decode cX11_falsely 76 = .ok (.aload_n 0, 1) := by decide +kernel
theorem dX11_falsely_77 : decode cX11_falsely 77 = .ok (.getfield 13, 3) := by decide +kernel
theorem dX11_falsely_80 : decode cX11_falsely 80 = .ok (.iload_n 3, 1) := by decide +kernel
theorem dX11_falsely_81 : decode cX11_falsely 81 = .ok (.dup2, 1) := by decide +kernel
theorem dX11_falsely_82 : decode cX11_falsely 82 = .ok (.iaload, 1) := by decide +kernel
theorem dX11_falsely_83 : decode cX11_falsely 83 = .ok (.iconst 1, 1) := by decide +kernel
theorem dX11_falsely_84 : decode cX11_falsely 84 = .ok (.isub, 1) := by decide +kernel
theorem dX11_falsely_85 : decode cX11_falsely 85 = .ok (.iastore, 1) := by decide +kernel
theorem dX11_falsely_86 : decode cX11_falsely 86 = .ok (.iinc 3 1, 3) := by decide +kernel
theorem dX11_falsely_89 : decode cX11_falsely 89 = .ok (.goto (-55), 3) := by decide +kernel
theorem dX11_falsely_92 : decode cX11_falsely 92 = .ok (.iload_n 2, 1) := by decide +kernel
theorem dX11_falsely_93 : decode cX11_falsely 93 = .ok (.ireturn, 1) := by decide +kernel
theorem dX11_fewer_0 : decode cX11_fewer 0 = .ok (.iload_n 0, 1) := by decide +kernel
theorem dX11_fewer_1 : decode cX11_fewer 1 = .ok (.iconst (-1), 1) := by decide +kernel
theorem dX11_fewer_2 : decode cX11_fewer 2 = .ok (.if_icmp .ne 7, 3) := by decide +kernel
theorem dX11_fewer_5 : decode cX11_fewer 5 = .ok (.iload_n 1, 1) := by decide +kernel
theorem dX11_fewer_6 : decode cX11_fewer 6 = .ok (.goto 18, 3) := by decide +kernel
theorem dX11_fewer_9 : decode cX11_fewer 9 = .ok (.iload_n 1, 1) := by decide +kernel
theorem dX11_fewer_10 : decode cX11_fewer 10 = .ok (.iconst (-1), 1) := by decide +kernel
theorem dX11_fewer_11 : decode cX11_fewer 11 = .ok (.if_icmp .eq 8, 3) := by decide +kernel
theorem dX11_fewer_14 : decode cX11_fewer 14 = .ok (.iload_n 0, 1) := by decide +kernel
theorem dX11_fewer_15 : decode cX11_fewer 15 = .ok (.iload_n 1, 1) := by decide +kernel
theorem dX11_fewer_16 : decode cX11_fewer 16 = .ok (.if_icmp .ge 7, 3) := by decide +kernel
theorem dX11_fewer_19 : decode cX11_fewer 19 = .ok (.iload_n 0, 1) := by decide +kernel
theorem dX11_fewer_20 : decode cX11_fewer 20 = .ok (.goto 4, 3) := by decide +kernel
theorem dX11_fewer_23 : decode cX11_fewer 23 = .ok (.iload_n 1, 1) := by decide +kernel
theorem dX11_fewer_24 : decode cX11_fewer 24 = .ok (.ireturn, 1) := by decide +kernel
theorem dX11_weighing_0 : decode cX11_weighing 0 = .ok (.aload_n 0, 1) := by decide +kernel
theorem dX11_weighing_1 : decode cX11_weighing 1 = .ok (.iconst 0, 1) := by decide +kernel
theorem dX11_weighing_2 : decode cX11_weighing 2 = .ok (.putfield 227, 3) := by decide +kernel
theorem dX11_weighing_5 : decode cX11_weighing 5 = .ok (.aload_n 0, 1) := by decide +kernel
theorem dX11_weighing_6 : decode cX11_weighing 6 = .ok (.iconst 0, 1) := by decide +kernel
theorem dX11_weighing_7 : decode cX11_weighing 7 = .ok (.putfield 230, 3) := by decide +kernel
theorem dX11_weighing_10 : decode cX11_weighing 10 = .ok (.iconst 0, 1) := by decide +kernel
theorem dX11_weighing_11 : decode cX11_weighing 11 = .ok (.istore_n 3, 1) := by decide +kernel
theorem dX11_weighing_12 : decode cX11_weighing 12 = .ok (.iconst 0, 1) := by decide +kernel
theorem dX11_weighing_13 : decode cX11_weighing 13 = .ok (.istore 4, 2) := by decide +kernel
theorem dX11_weighing_15 : decode cX11_weighing 15 = .ok (.iconst 0, 1) := by decide +kernel
theorem dX11_weighing_16 : decode cX11_weighing 16 = .ok (.istore 5, 2) := by decide +kernel
theorem dX11_weighing_18 : decode cX11_weighing 18 = .ok (.iconst 1, 1) := by decide +kernel
theorem dX11_weighing_19 : decode cX11_weighing 19 = .ok (.istore 6, 2) := by decide +kernel
theorem dX11_weighing_21 : decode cX11_weighing 21 = .ok (.iconst 0, 1) := by decide +kernel
theorem dX11_weighing_22 : decode cX11_weighing 22 = .ok (.istore 7, 2) := by decide +kernel
theorem dX11_weighing_24 : decode cX11_weighing 24 = .ok (.iload 7, 2) := by decide +kernel
theorem dX11_weighing_26 : decode cX11_weighing 26 = .ok (.aload_n 0, 1) := by decide +kernel
theorem dX11_weighing_27 : decode cX11_weighing 27 = .ok (.getfield 111, 3) := by decide +kernel
theorem dX11_weighing_30 : decode cX11_weighing 30 = .ok (.if_icmp .ge 131, 3) := by decide +kernel
theorem dX11_weighing_33 : decode cX11_weighing 33 = .ok (.iload_n 1, 1) := by decide +kernel
theorem dX11_weighing_34 : decode cX11_weighing 34 = .ok (.iload 7, 2) := by decide +kernel
theorem dX11_weighing_36 : decode cX11_weighing 36 = .ok (.ishr, 1) := by decide +kernel
theorem dX11_weighing_37 : decode cX11_weighing 37 = .ok (.iconst 1, 1) := by decide +kernel
theorem dX11_weighing_38 : decode cX11_weighing 38 = .ok (.iand, 1) := by decide +kernel
theorem dX11_weighing_39 : decode cX11_weighing 39 = .ok (.iconst 1, 1) := by decide +kernel
theorem dX11_weighing_40 : decode cX11_weighing 40 = .ok (.if_icmp .ne 115, 3) := by decide +kernel
theorem dX11_weighing_43 : decode cX11_weighing 43 = .ok (.aload_n 0, 1) := by decide +kernel
theorem dX11_weighing_44 : decode cX11_weighing 44 = .ok (.dup, 1) := by decide +kernel
theorem dX11_weighing_45 : decode cX11_weighing 45 = .ok (.getfield 227, 3) := by decide +kernel
theorem dX11_weighing_48 : decode cX11_weighing 48 = .ok (.aload_n 0, 1) := by decide +kernel
theorem dX11_weighing_49 : decode cX11_weighing 49 = .ok (.getfield 16, 3) := by decide +kernel
theorem dX11_weighing_52 : decode cX11_weighing 52 = .ok (.iload 7, 2) := by decide +kernel
theorem dX11_weighing_54 : decode cX11_weighing 54 = .ok (.iaload, 1) := by decide +kernel
theorem dX11_weighing_55 : decode cX11_weighing 55 = .ok (.iconst 1, 1) := by decide +kernel
theorem dX11_weighing_56 : decode cX11_weighing 56 = .ok (.if_icmp .ne 13, 3) := by decide +kernel
theorem dX11_weighing_59 : decode cX11_weighing 59 = .ok (.aload_n 0, 1) := by decide +kernel
theorem dX11_weighing_60 : decode cX11_weighing 60 = .ok (.iload 7, 2) := by decide +kernel
theorem dX11_weighing_62 : decode cX11_weighing 62 = .ok (.iload_n 2, 1) := by decide +kernel
theorem dX11_weighing_63 : decode cX11_weighing 63 = .ok (.invokevirtual 211, 3) := by decide +kernel
theorem dX11_weighing_66 : decode cX11_weighing 66 = .ok (.goto 4, 3) := by decide +kernel
theorem dX11_weighing_69 : decode cX11_weighing 69 = .ok (.iconst 0, 1) := by decide +kernel
theorem dX11_weighing_70 : decode cX11_weighing 70 = .ok (.iadd, 1) := by decide +kernel
theorem dX11_weighing_71 : decode cX11_weighing 71 = .ok (.putfield 227, 3) := by decide +kernel
theorem dX11_weighing_74 : decode cX11_weighing 74 = .ok (.aload_n 0, 1) := by decide +kernel
theorem dX11_weighing_75 : decode cX11_weighing 75 = .ok (.dup, 1) := by decide +kernel
theorem dX11_weighing_76 : decode cX11_weighing 76 = .ok (.getfield 230, 3) := by decide +kernel
theorem dX11_weighing_79 : decode cX11_weighing 79 = .ok (.aload_n 0, 1) := by decide +kernel
theorem dX11_weighing_80 : decode cX11_weighing 80 = .ok (.getfield 16, 3) := by decide +kernel
theorem dX11_weighing_83 : decode cX11_weighing 83 = .ok (.iload 7, 2) := by decide +kernel
theorem dX11_weighing_85 : decode cX11_weighing 85 = .ok (.iaload, 1) := by decide +kernel
theorem dX11_weighing_86 : decode cX11_weighing 86 = .ok (.iconst 1, 1) := by decide +kernel
theorem dX11_weighing_87 : decode cX11_weighing 87 = .ok (.if_icmp .ne 7, 3) := by decide +kernel
theorem dX11_weighing_90 : decode cX11_weighing 90 = .ok (.iconst 0, 1) := by decide +kernel
theorem dX11_weighing_91 : decode cX11_weighing 91 = .ok (.goto 10, 3) := by decide +kernel
theorem dX11_weighing_94 : decode cX11_weighing 94 = .ok (.aload_n 0, 1) := by decide +kernel
theorem dX11_weighing_95 : decode cX11_weighing 95 = .ok (.iload 7, 2) := by decide +kernel
theorem dX11_weighing_97 : decode cX11_weighing 97 = .ok (.iload_n 2, 1) := by decide +kernel
theorem dX11_weighing_98 : decode cX11_weighing 98 = .ok (.invokevirtual 211, 3) := by decide +kernel
theorem dX11_weighing_101 : decode cX11_weighing 101 = .ok (.iadd, 1) := by decide +kernel
theorem dX11_weighing_102 : decode cX11_weighing 102 = .ok (.putfield 230, 3) := by decide +kernel
theorem dX11_weighing_105 : decode cX11_weighing 105 = .ok (.iinc 3 1, 3) := by decide +kernel
theorem dX11_weighing_108 : decode cX11_weighing 108 = .ok (.iload 4, 2) := by decide +kernel
theorem dX11_weighing_110 : decode cX11_weighing 110 = .ok (.aload_n 0, 1) := by decide +kernel
theorem dX11_weighing_111 : decode cX11_weighing 111 = .ok (.getfield 16, 3) := by decide +kernel
theorem dX11_weighing_114 : decode cX11_weighing 114 = .ok (.iload 7, 2) := by decide +kernel
theorem dX11_weighing_116 : decode cX11_weighing 116 = .ok (.iaload, 1) := by decide +kernel
theorem dX11_weighing_117 : decode cX11_weighing 117 = .ok (.iadd, 1) := by decide +kernel
theorem dX11_weighing_118 : decode cX11_weighing 118 = .ok (.istore 4, 2) := by decide +kernel
theorem dX11_weighing_120 : decode cX11_weighing 120 = .ok (.iload 5, 2) := by decide +kernel
theorem dX11_weighing_122 : decode cX11_weighing 122 = .ok (.aload_n 0, 1) := by decide +kernel
theorem dX11_weighing_123 : decode cX11_weighing 123 = .ok (.iload 7, 2) := by decide +kernel
theorem dX11_weighing_125 : decode cX11_weighing 125 = .ok (.iload_n 2, 1) := by decide +kernel
theorem dX11_weighing_126 : decode cX11_weighing 126 = .ok (.invokevirtual 214, 3) := by decide +kernel
theorem dX11_weighing_129 : decode cX11_weighing 129 = .ok (.iadd, 1) := by decide +kernel
theorem dX11_weighing_130 : decode cX11_weighing 130 = .ok (.istore 5, 2) := by decide +kernel
theorem dX11_weighing_132 : decode cX11_weighing 132 = .ok (.iload 6, 2) := by decide +kernel
theorem dX11_weighing_134 : decode cX11_weighing 134 = .ok (.ifCond .eq 18, 3) := by decide +kernel
theorem dX11_weighing_137 : decode cX11_weighing 137 = .ok (.aload_n 0, 1) := by decide +kernel
theorem dX11_weighing_138 : decode cX11_weighing 138 = .ok (.getfield 31, 3) := by decide +kernel
theorem dX11_weighing_141 : decode cX11_weighing 141 = .ok (.iload 7, 2) := by decide +kernel
theorem dX11_weighing_143 : decode cX11_weighing 143 = .ok (.iaload, 1) := by decide +kernel
theorem dX11_weighing_144 : decode cX11_weighing 144 = .ok (.iload_n 2, 1) := by decide +kernel
theorem dX11_weighing_145 : decode cX11_weighing 145 = .ok (.if_icmp .gt 7, 3) := by decide +kernel
theorem dX11_weighing_148 : decode cX11_weighing 148 = .ok (.iconst 1, 1) := by decide +kernel
theorem dX11_weighing_149 : decode cX11_weighing 149 = .ok (.goto 4, 3) := by decide +kernel
theorem dX11_weighing_152 : decode cX11_weighing 152 = .ok (.iconst 0, 1) := by decide +kernel
theorem dX11_weighing_153 : decode cX11_weighing 153 = .ok (.istore 6, 2) := by decide +kernel
theorem dX11_weighing_155 : decode cX11_weighing 155 = .ok (.iinc 7 1, 3) := by decide +kernel
theorem dX11_weighing_158 : decode cX11_weighing 158 = .ok (.goto (-134), 3) := by decide +kernel
theorem dX11_weighing_161 : decode cX11_weighing 161 = .ok (.aload_n 0, 1) := by decide +kernel
theorem dX11_weighing_162 : decode cX11_weighing 162 = .ok (.getfield 227, 3) := by decide +kernel
theorem dX11_weighing_165 : decode cX11_weighing 165 = .ok (.aload_n 0, 1) := by decide +kernel
theorem dX11_weighing_166 : decode cX11_weighing 166 = .ok (.getfield 7, 3) := by decide +kernel
theorem dX11_weighing_169 : decode cX11_weighing 169 = .ok (.iconst 0, 1) := by decide +kernel
theorem dX11_weighing_170 : decode cX11_weighing 170 = .ok (.iaload, 1) := by decide +kernel
theorem dX11_weighing_171 : decode cX11_weighing 171 = .ok (.imul, 1) := by decide +kernel
theorem dX11_weighing_172 : decode cX11_weighing 172 = .ok (.aload_n 0, 1) := by decide +kernel
theorem dX11_weighing_173 : decode cX11_weighing 173 = .ok (.getfield 230, 3) := by decide +kernel
theorem dX11_weighing_176 : decode cX11_weighing 176 = .ok (.aload_n 0, 1) := by decide +kernel
theorem dX11_weighing_177 : decode cX11_weighing 177 = .ok (.getfield 7, 3) := by decide +kernel
theorem dX11_weighing_180 : decode cX11_weighing 180 = .ok (.iconst 1, 1) := by decide +kernel
theorem dX11_weighing_181 : decode cX11_weighing 181 = .ok (.iaload, 1) := by decide +kernel
theorem dX11_weighing_182 : decode cX11_weighing 182 = .ok (.imul, 1) := by decide +kernel
theorem dX11_weighing_183 : decode cX11_weighing 183 = .ok (.invokestatic 217, 3) := by decide +kernel
theorem dX11_weighing_186 : decode cX11_weighing 186 = .ok (.istore 7, 2) := by decide +kernel
theorem dX11_weighing_188 : decode cX11_weighing 188 = .ok (.aload_n 0, 1) := by decide +kernel
theorem dX11_weighing_189 : decode cX11_weighing 189 = .ok (.iconst (-1), 1) := by decide +kernel
theorem dX11_weighing_190 : decode cX11_weighing 190 = .ok (.putfield 233, 3) := by decide +kernel
theorem dX11_weighing_193 : decode cX11_weighing 193 = .ok (.aload_n 0, 1) := by decide +kernel
theorem dX11_weighing_194 : decode cX11_weighing 194 = .ok (.iconst (-1), 1) := by decide +kernel
theorem dX11_weighing_195 : decode cX11_weighing 195 = .ok (.putfield 236, 3) := by decide +kernel
theorem dX11_weighing_198 : decode cX11_weighing 198 = .ok (.iconst 0, 1) := by decide +kernel
theorem dX11_weighing_199 : decode cX11_weighing 199 = .ok (.istore 8, 2) := by decide +kernel
theorem dX11_weighing_201 : decode cX11_weighing 201 = .ok (.iload 8, 2) := by decide +kernel
theorem dX11_weighing_203 : decode cX11_weighing 203 = .ok (.aload_n 0, 1) := by decide +kernel
theorem dX11_weighing_204 : decode cX11_weighing 204 = .ok (.getfield 7, 3) := by decide +kernel
theorem dX11_weighing_207 : decode cX11_weighing 207 = .ok (.iconst 2, 1) := by decide +kernel
theorem dX11_weighing_208 : decode cX11_weighing 208 = .ok (.iaload, 1) := by decide +kernel
theorem dX11_weighing_209 : decode cX11_weighing 209 = .ok (.if_icmp .gt 60, 3) := by decide +kernel
theorem dX11_weighing_212 : decode cX11_weighing 212 = .ok (.aload_n 0, 1) := by decide +kernel
theorem dX11_weighing_213 : decode cX11_weighing 213 = .ok (.getfield 233, 3) := by decide +kernel
theorem dX11_weighing_216 : decode cX11_weighing 216 = .ok (.iconst (-1), 1) := by decide +kernel
theorem dX11_weighing_217 : decode cX11_weighing 217 = .ok (.if_icmp .ne 52, 3) := by decide +kernel
theorem dX11_weighing_220 : decode cX11_weighing 220 = .ok (.aload_n 0, 1) := by decide +kernel
theorem dX11_weighing_221 : decode cX11_weighing 221 = .ok (.aload_n 0, 1) := by decide +kernel
theorem dX11_weighing_222 : decode cX11_weighing 222 = .ok (.iload 7, 2) := by decide +kernel
theorem dX11_weighing_224 : decode cX11_weighing 224 = .ok (.iload 8, 2) := by decide +kernel
theorem dX11_weighing_226 : decode cX11_weighing 226 = .ok (.isub, 1) := by decide +kernel
theorem dX11_weighing_227 : decode cX11_weighing 227 = .ok (.invokevirtual 239, 3) := by decide +kernel
theorem dX11_weighing_230 : decode cX11_weighing 230 = .ok (.aload_n 0, 1) := by decide +kernel
theorem dX11_weighing_231 : decode cX11_weighing 231 = .ok (.iload 7, 2) := by decide +kernel
theorem dX11_weighing_233 : decode cX11_weighing 233 = .ok (.iload 8, 2) := by decide +kernel
theorem dX11_weighing_235 : decode cX11_weighing 235 = .ok (.iadd, 1) := by decide +kernel
theorem dX11_weighing_236 : decode cX11_weighing 236 = .ok (.invokevirtual 239, 3) := by decide +kernel
theorem dX11_weighing_239 : decode cX11_weighing 239 = .ok (.invokestatic 242, 3) := by decide +kernel
theorem dX11_weighing_242 : decode cX11_weighing 242 = .ok (.putfield 236, 3) := by decide +kernel
theorem dX11_weighing_245 : decode cX11_weighing 245 = .ok (.aload_n 0, 1) := by decide +kernel
theorem dX11_weighing_246 : decode cX11_weighing 246 = .ok (.aload_n 0, 1) := by decide +kernel
theorem dX11_weighing_247 : decode cX11_weighing 247 = .ok (.getfield 236, 3) := by decide +kernel
theorem dX11_weighing_250 : decode cX11_weighing 250 = .ok (.iconst (-1), 1) := by decide +kernel
theorem dX11_weighing_251 : decode cX11_weighing 251 = .ok (.if_icmp .ne 7, 3) := by decide +kernel
theorem dX11_weighing_254 : decode cX11_weighing 254 = .ok (.iconst (-1), 1) := by decide +kernel
theorem dX11_weighing_255 : decode cX11_weighing 255 = .ok (.goto 5, 3) := by decide +kernel
theorem dX11_weighing_258 : decode cX11_weighing 258 = .ok (.iload 8, 2) := by decide +kernel
theorem dX11_weighing_260 : decode cX11_weighing 260 = .ok (.putfield 233, 3) := by decide +kernel
theorem dX11_weighing_263 : decode cX11_weighing 263 = .ok (.iinc 8 1, 3) := by decide +kernel
theorem dX11_weighing_266 : decode cX11_weighing 266 = .ok (.goto (-65), 3) := by decide +kernel
theorem dX11_weighing_269 : decode cX11_weighing 269 = .ok (.aload_n 0, 1) := by decide +kernel
theorem dX11_weighing_270 : decode cX11_weighing 270 = .ok (.aload_n 0, 1) := by decide +kernel
theorem dX11_weighing_271 : decode cX11_weighing 271 = .ok (.getfield 233, 3) := by decide +kernel
theorem dX11_weighing_274 : decode cX11_weighing 274 = .ok (.iconst (-1), 1) := by decide +kernel
theorem dX11_weighing_275 : decode cX11_weighing 275 = .ok (.if_icmp .ne 7, 3) := by decide +kernel
theorem dX11_weighing_278 : decode cX11_weighing 278 = .ok (.iconst 0, 1) := by decide +kernel
theorem dX11_weighing_279 : decode cX11_weighing 279 = .ok (.goto 7, 3) := by decide +kernel
theorem dX11_weighing_282 : decode cX11_weighing 282 = .ok (.aload_n 0, 1) := by decide +kernel
theorem dX11_weighing_283 : decode cX11_weighing 283 = .ok (.getfield 236, 3) := by decide +kernel
theorem dX11_weighing_286 : decode cX11_weighing 286 = .ok (.putfield 236, 3) := by decide +kernel
theorem dX11_weighing_289 : decode cX11_weighing 289 = .ok (.aload_n 0, 1) := by decide +kernel
theorem dX11_weighing_290 : decode cX11_weighing 290 = .ok (.iload 6, 2) := by decide +kernel
theorem dX11_weighing_292 : decode cX11_weighing 292 = .ok (.ifCond .eq 37, 3) := by decide +kernel
theorem dX11_weighing_295 : decode cX11_weighing 295 = .ok (.aload_n 0, 1) := by decide +kernel
theorem dX11_weighing_296 : decode cX11_weighing 296 = .ok (.getfield 233, 3) := by decide +kernel
theorem dX11_weighing_299 : decode cX11_weighing 299 = .ok (.iconst (-1), 1) := by decide +kernel
theorem dX11_weighing_300 : decode cX11_weighing 300 = .ok (.if_icmp .eq 29, 3) := by decide +kernel
theorem dX11_weighing_303 : decode cX11_weighing 303 = .ok (.iload 4, 2) := by decide +kernel
theorem dX11_weighing_305 : decode cX11_weighing 305 = .ok (.iconst 1, 1) := by decide +kernel
theorem dX11_weighing_306 : decode cX11_weighing 306 = .ok (.iconst 2, 1) := by decide +kernel
theorem dX11_weighing_307 : decode cX11_weighing 307 = .ok (.invokestatic 114, 3) := by decide +kernel
theorem dX11_weighing_310 : decode cX11_weighing 310 = .ok (.ifCond .eq 19, 3) := by decide +kernel
theorem dX11_weighing_313 : decode cX11_weighing 313 = .ok (.iload_n 3, 1) := by decide +kernel
theorem dX11_weighing_314 : decode cX11_weighing 314 = .ok (.iload 4, 2) := by decide +kernel
theorem dX11_weighing_316 : decode cX11_weighing 316 = .ok (.isub, 1) := by decide +kernel
theorem dX11_weighing_317 : decode cX11_weighing 317 = .ok (.iconst 1, 1) := by decide +kernel
theorem dX11_weighing_318 : decode cX11_weighing 318 = .ok (.iconst 2, 1) := by decide +kernel
theorem dX11_weighing_319 : decode cX11_weighing 319 = .ok (.invokestatic 114, 3) := by decide +kernel
theorem dX11_weighing_322 : decode cX11_weighing 322 = .ok (.ifCond .eq 7, 3) := by decide +kernel
theorem dX11_weighing_325 : decode cX11_weighing 325 = .ok (.iconst 1, 1) := by decide +kernel
theorem dX11_weighing_326 : decode cX11_weighing 326 = .ok (.goto 4, 3) := by decide +kernel
theorem dX11_weighing_329 : decode cX11_weighing 329 = .ok (.iconst 0, 1) := by decide +kernel
theorem dX11_weighing_330 : decode cX11_weighing 330 = .ok (.putfield 245, 3) := by decide +kernel
theorem dX11_weighing_333 : decode cX11_weighing 333 = .ok (.aload_n 0, 1) := by decide +kernel
theorem dX11_weighing_334 : decode cX11_weighing 334 = .ok (.aload_n 0, 1) := by decide +kernel
theorem dX11_weighing_335 : decode cX11_weighing 335 = .ok (.getfield 245, 3) := by decide +kernel
theorem dX11_weighing_338 : decode cX11_weighing 338 = .ok (.ifCond .eq 34, 3) := by decide +kernel
theorem dX11_weighing_341 : decode cX11_weighing 341 = .ok (.aload_n 0, 1) := by decide +kernel
theorem dX11_weighing_342 : decode cX11_weighing 342 = .ok (.iconst 0, 1) := by decide +kernel
theorem dX11_weighing_343 : decode cX11_weighing 343 = .ok (.aload_n 0, 1) := by decide +kernel
theorem dX11_weighing_344 : decode cX11_weighing 344 = .ok (.getfield 227, 3) := by decide +kernel
theorem dX11_weighing_347 : decode cX11_weighing 347 = .ok (.aload_n 0, 1) := by decide +kernel
theorem dX11_weighing_348 : decode cX11_weighing 348 = .ok (.getfield 230, 3) := by decide +kernel
theorem dX11_weighing_351 : decode cX11_weighing 351 = .ok (.aload_n 0, 1) := by decide +kernel
theorem dX11_weighing_352 : decode cX11_weighing 352 = .ok (.getfield 233, 3) := by decide +kernel
theorem dX11_weighing_355 : decode cX11_weighing 355 = .ok (.iload_n 2, 1) := by decide +kernel
theorem dX11_weighing_356 : decode cX11_weighing 356 = .ok (.iload_n 3, 1) := by decide +kernel
theorem dX11_weighing_357 : decode cX11_weighing 357 = .ok (.aload_n 0, 1) := by decide +kernel
theorem dX11_weighing_358 : decode cX11_weighing 358 = .ok (.getfield 236, 3) := by decide +kernel
theorem dX11_weighing_361 : decode cX11_weighing 361 = .ok (.invokevirtual 198, 3) := by decide +kernel
theorem dX11_weighing_364 : decode cX11_weighing 364 = .ok (.iconst 1, 1) := by decide +kernel
theorem dX11_weighing_365 : decode cX11_weighing 365 = .ok (.if_icmp .ne 7, 3) := by decide +kernel
theorem dX11_weighing_368 : decode cX11_weighing 368 = .ok (.iconst 1, 1) := by decide +kernel
theorem dX11_weighing_369 : decode cX11_weighing 369 = .ok (.goto 4, 3) := by decide +kernel
theorem dX11_weighing_372 : decode cX11_weighing 372 = .ok (.iconst 0, 1) := by decide +kernel
theorem dX11_weighing_373 : decode cX11_weighing 373 = .ok (.putfield 245, 3) := by decide +kernel
theorem dX11_weighing_376 : decode cX11_weighing 376 = .ok (.aload_n 0, 1) := by decide +kernel
theorem dX11_weighing_377 : decode cX11_weighing 377 = .ok (.aload_n 0, 1) := by decide +kernel
theorem dX11_weighing_378 : decode cX11_weighing 378 = .ok (.getfield 245, 3) := by decide +kernel
theorem dX11_weighing_381 : decode cX11_weighing 381 = .ok (.ifCond .eq 56, 3) := by decide +kernel
theorem dX11_weighing_384 : decode cX11_weighing 384 = .ok (.iload 5, 2) := by decide +kernel
theorem dX11_weighing_386 : decode cX11_weighing 386 = .ok (.aload_n 0, 1) := by decide +kernel
theorem dX11_weighing_387 : decode cX11_weighing 387 = .ok (.iconst 1, 1) := by decide +kernel
theorem dX11_weighing_388 : decode cX11_weighing 388 = .ok (.aload_n 0, 1) := by decide +kernel
theorem dX11_weighing_389 : decode cX11_weighing 389 = .ok (.getfield 227, 3) := by decide +kernel
theorem dX11_weighing_392 : decode cX11_weighing 392 = .ok (.aload_n 0, 1) := by decide +kernel
theorem dX11_weighing_393 : decode cX11_weighing 393 = .ok (.getfield 230, 3) := by decide +kernel
theorem dX11_weighing_396 : decode cX11_weighing 396 = .ok (.aload_n 0, 1) := by decide +kernel
theorem dX11_weighing_397 : decode cX11_weighing 397 = .ok (.getfield 233, 3) := by decide +kernel
theorem dX11_weighing_400 : decode cX11_weighing 400 = .ok (.iload_n 2, 1) := by decide +kernel
theorem dX11_weighing_401 : decode cX11_weighing 401 = .ok (.iload_n 3, 1) := by decide +kernel
theorem dX11_weighing_402 : decode cX11_weighing 402 = .ok (.aload_n 0, 1) := by decide +kernel
theorem dX11_weighing_403 : decode cX11_weighing 403 = .ok (.getfield 236, 3) := by decide +kernel
theorem dX11_weighing_406 : decode cX11_weighing 406 = .ok (.invokevirtual 198, 3) := by decide +kernel
theorem dX11_weighing_409 : decode cX11_weighing 409 = .ok (.isub, 1) := by decide +kernel
theorem dX11_weighing_410 : decode cX11_weighing 410 = .ok (.aload_n 0, 1) := by decide +kernel
theorem dX11_weighing_411 : decode cX11_weighing 411 = .ok (.iconst 2, 1) := by decide +kernel
theorem dX11_weighing_412 : decode cX11_weighing 412 = .ok (.aload_n 0, 1) := by decide +kernel
theorem dX11_weighing_413 : decode cX11_weighing 413 = .ok (.getfield 227, 3) := by decide +kernel
theorem dX11_weighing_416 : decode cX11_weighing 416 = .ok (.aload_n 0, 1) := by decide +kernel
theorem dX11_weighing_417 : decode cX11_weighing 417 = .ok (.getfield 230, 3) := by decide +kernel
theorem dX11_weighing_420 : decode cX11_weighing 420 = .ok (.aload_n 0, 1) := by decide +kernel
theorem dX11_weighing_421 : decode cX11_weighing 421 = .ok (.getfield 233, 3) := by decide +kernel
theorem dX11_weighing_424 : decode cX11_weighing 424 = .ok (.iload_n 2, 1) := by decide +kernel
theorem dX11_weighing_425 : decode cX11_weighing 425 = .ok (.iload_n 3, 1) := by decide +kernel
theorem dX11_weighing_426 : decode cX11_weighing 426 = .ok (.aload_n 0, 1) := by decide +kernel
theorem dX11_weighing_427 : decode cX11_weighing 427 = .ok (.getfield 236, 3) := by decide +kernel
theorem dX11_weighing_430 : decode cX11_weighing 430 = .ok (.invokevirtual 198, 3) := by decide +kernel
theorem dX11_weighing_433 : decode cX11_weighing 433 = .ok (.isub, 1) := by decide +kernel
theorem dX11_weighing_434 : decode cX11_weighing 434 = .ok (.goto 4, 3) := by decide +kernel
theorem dX11_weighing_437 : decode cX11_weighing 437 = .ok (.iconst 0, 1) := by decide +kernel
theorem dX11_weighing_438 : decode cX11_weighing 438 = .ok (.putfield 249, 3) := by decide +kernel
theorem dX11_weighing_441 : decode cX11_weighing 441 = .ok (.return_, 1) := by decide +kernel
theorem dX11_scales_0 : decode cX11_scales 0 = .ok (.iload_n 1, 1) := by decide +kernel
theorem dX11_scales_1 : decode cX11_scales 1 = .ok (.iconst 0, 1) := by decide +kernel
theorem dX11_scales_2 : decode cX11_scales 2 = .ok (.aload_n 0, 1) := by decide +kernel
theorem dX11_scales_3 : decode cX11_scales 3 = .ok (.invokevirtual 252, 3) := by decide +kernel
theorem dX11_scales_6 : decode cX11_scales 6 = .ok (.invokestatic 114, 3) := by decide +kernel
theorem dX11_scales_9 : decode cX11_scales 9 = .ok (.ifCond .ne 6, 3) := by decide +kernel
theorem dX11_scales_12 : decode cX11_scales 12 = .ok (.bipush (-5), 2) := by decide +kernel
theorem dX11_scales_14 : decode cX11_scales 14 = .ok (.ireturn, 1) := by decide +kernel
theorem dX11_scales_15 : decode cX11_scales 15 = .ok (.iload_n 2, 1) := by decide +kernel
theorem dX11_scales_16 : decode cX11_scales 16 = .ok (.invokestatic 208, 3) := by decide +kernel
theorem dX11_scales_19 : decode cX11_scales 19 = .ok (.ifCond .eq 12, 3) := by decide +kernel
theorem dX11_scales_22 : decode cX11_scales 22 = .ok (.iload_n 3, 1) := by decide +kernel
theorem dX11_scales_23 : decode cX11_scales 23 = .ok (.iconst 0, 1) := by decide +kernel
theorem dX11_scales_24 : decode cX11_scales 24 = .ok (.iconst 5, 1) := by decide +kernel
theorem dX11_scales_25 : decode cX11_scales 25 = .ok (.invokestatic 114, 3) := by decide +kernel
theorem dX11_scales_28 : decode cX11_scales 28 = .ok (.ifCond .ne 6, 3) := by decide +kernel
theorem dX11_scales_31 : decode cX11_scales 31 = .ok (.bipush (-7), 2) := by decide +kernel
theorem dX11_scales_33 : decode cX11_scales 33 = .ok (.ireturn, 1) := by decide +kernel
theorem dX11_scales_34 : decode cX11_scales 34 = .ok (.aload_n 0, 1) := by decide +kernel
theorem dX11_scales_35 : decode cX11_scales 35 = .ok (.invokevirtual 224, 3) := by decide +kernel
theorem dX11_scales_38 : decode cX11_scales 38 = .ok (.aload_n 0, 1) := by decide +kernel
theorem dX11_scales_39 : decode cX11_scales 39 = .ok (.iload_n 1, 1) := by decide +kernel
theorem dX11_scales_40 : decode cX11_scales 40 = .ok (.iload_n 2, 1) := by decide +kernel
theorem dX11_scales_41 : decode cX11_scales 41 = .ok (.invokevirtual 255, 3) := by decide +kernel
theorem dX11_scales_44 : decode cX11_scales 44 = .ok (.iload_n 3, 1) := by decide +kernel
theorem dX11_scales_45 : decode cX11_scales 45 = .ok (.tableswitch 68 0 4 #[35, 48, 53, 58, 63], 35) := by decide +kernel
theorem dX11_scales_80 : decode cX11_scales 80 = .ok (.aload_n 0, 1) := by decide +kernel
theorem dX11_scales_81 : decode cX11_scales 81 = .ok (.getfield 245, 3) := by decide +kernel
theorem dX11_scales_84 : decode cX11_scales 84 = .ok (.ifCond .eq 7, 3) := by decide +kernel
theorem dX11_scales_87 : decode cX11_scales 87 = .ok (.iconst 1, 1) := by decide +kernel
theorem dX11_scales_88 : decode cX11_scales 88 = .ok (.goto 4, 3) := by decide +kernel
theorem dX11_scales_91 : decode cX11_scales 91 = .ok (.iconst 0, 1) := by decide +kernel
theorem dX11_scales_92 : decode cX11_scales 92 = .ok (.ireturn, 1) := by decide +kernel
theorem dX11_scales_93 : decode cX11_scales 93 = .ok (.aload_n 0, 1) := by decide +kernel
theorem dX11_scales_94 : decode cX11_scales 94 = .ok (.getfield 227, 3) := by decide +kernel
theorem dX11_scales_97 : decode cX11_scales 97 = .ok (.ireturn, 1) := by decide +kernel
theorem dX11_scales_98 : decode cX11_scales 98 = .ok (.aload_n 0, 1) := by decide +kernel
theorem dX11_scales_99 : decode cX11_scales 99 = .ok (.getfield 230, 3) := by decide +kernel
theorem dX11_scales_102 : decode cX11_scales 102 = .ok (.ireturn, 1) := by decide +kernel
theorem dX11_scales_103 : decode cX11_scales 103 = .ok (.aload_n 0, 1) := by decide +kernel
theorem dX11_scales_104 : decode cX11_scales 104 = .ok (.getfield 233, 3) := by decide +kernel
theorem dX11_scales_107 : decode cX11_scales 107 = .ok (.ireturn, 1) := by decide +kernel
theorem dX11_scales_108 : decode cX11_scales 108 = .ok (.aload_n 0, 1) := by decide +kernel
theorem dX11_scales_109 : decode cX11_scales 109 = .ok (.getfield 236, 3) := by decide +kernel
theorem dX11_scales_112 : decode cX11_scales 112 = .ok (.ireturn, 1) := by decide +kernel
theorem dX11_scales_113 : decode cX11_scales 113 = .ok (.aload_n 0, 1) := by decide +kernel
theorem dX11_scales_114 : decode cX11_scales 114 = .ok (.getfield 249, 3) := by decide +kernel
theorem dX11_scales_117 : decode cX11_scales 117 = .ok (.ireturn, 1) := by decide +kernel
theorem dX11_findsTwos_0 : decode cX11_findsTwos 0 = .ok (.aload_n 0, 1) := by decide +kernel
theorem dX11_findsTwos_1 : decode cX11_findsTwos 1 = .ok (.invokevirtual 224, 3) := by decide +kernel
theorem dX11_findsTwos_4 : decode cX11_findsTwos 4 = .ok (.iconst 0, 1) := by decide +kernel
theorem dX11_findsTwos_5 : decode cX11_findsTwos 5 = .ok (.istore_n 2, 1) := by decide +kernel
theorem dX11_findsTwos_6 : decode cX11_findsTwos 6 = .ok (.iload_n 2, 1) := by decide +kernel
theorem dX11_findsTwos_7 : decode cX11_findsTwos 7 = .ok (.bipush 100, 2) := by decide +kernel
theorem dX11_findsTwos_9 : decode cX11_findsTwos 9 = .ok (.if_icmp .ge 110, 3) := by decide +kernel
theorem dX11_findsTwos_12 : decode cX11_findsTwos 12 = .ok (.iload_n 2, 1) := by decide +kernel
theorem dX11_findsTwos_13 : decode cX11_findsTwos 13 = .ok (.bipush 10, 2) := by decide +kernel
theorem dX11_findsTwos_15 : decode cX11_findsTwos 15 = .ok (.idiv, 1) := by decide +kernel
theorem dX11_findsTwos_16 : decode cX11_findsTwos 16 = .ok (.istore_n 3, 1) := by decide +kernel
theorem dX11_findsTwos_17 : decode cX11_findsTwos 17 = .ok (.iload_n 2, 1) := by decide +kernel
theorem dX11_findsTwos_18 : decode cX11_findsTwos 18 = .ok (.bipush 10, 2) := by decide +kernel
theorem dX11_findsTwos_20 : decode cX11_findsTwos 20 = .ok (.irem, 1) := by decide +kernel
theorem dX11_findsTwos_21 : decode cX11_findsTwos 21 = .ok (.istore 4, 2) := by decide +kernel
theorem dX11_findsTwos_23 : decode cX11_findsTwos 23 = .ok (.iload_n 3, 1) := by decide +kernel
theorem dX11_findsTwos_24 : decode cX11_findsTwos 24 = .ok (.aload_n 0, 1) := by decide +kernel
theorem dX11_findsTwos_25 : decode cX11_findsTwos 25 = .ok (.getfield 111, 3) := by decide +kernel
theorem dX11_findsTwos_28 : decode cX11_findsTwos 28 = .ok (.if_icmp .ge 36, 3) := by decide +kernel
theorem dX11_findsTwos_31 : decode cX11_findsTwos 31 = .ok (.iload 4, 2) := by decide +kernel
theorem dX11_findsTwos_33 : decode cX11_findsTwos 33 = .ok (.aload_n 0, 1) := by decide +kernel
theorem dX11_findsTwos_34 : decode cX11_findsTwos 34 = .ok (.getfield 111, 3) := by decide +kernel
theorem dX11_findsTwos_37 : decode cX11_findsTwos 37 = .ok (.if_icmp .ge 27, 3) := by decide +kernel
theorem dX11_findsTwos_40 : decode cX11_findsTwos 40 = .ok (.aload_n 0, 1) := by decide +kernel
theorem dX11_findsTwos_41 : decode cX11_findsTwos 41 = .ok (.getfield 16, 3) := by decide +kernel
theorem dX11_findsTwos_44 : decode cX11_findsTwos 44 = .ok (.iload_n 3, 1) := by decide +kernel
theorem dX11_findsTwos_45 : decode cX11_findsTwos 45 = .ok (.iaload, 1) := by decide +kernel
theorem dX11_findsTwos_46 : decode cX11_findsTwos 46 = .ok (.iconst 1, 1) := by decide +kernel
theorem dX11_findsTwos_47 : decode cX11_findsTwos 47 = .ok (.if_icmp .ne 17, 3) := by decide +kernel
theorem dX11_findsTwos_50 : decode cX11_findsTwos 50 = .ok (.aload_n 0, 1) := by decide +kernel
theorem dX11_findsTwos_51 : decode cX11_findsTwos 51 = .ok (.getfield 16, 3) := by decide +kernel
theorem dX11_findsTwos_54 : decode cX11_findsTwos 54 = .ok (.iload 4, 2) := by decide +kernel
theorem dX11_findsTwos_56 : decode cX11_findsTwos 56 = .ok (.iaload, 1) := by decide +kernel
theorem dX11_findsTwos_57 : decode cX11_findsTwos 57 = .ok (.ifCond .ne 7, 3) := by decide +kernel
theorem dX11_findsTwos_60 : decode cX11_findsTwos 60 = .ok (.iconst 1, 1) := by decide +kernel
theorem dX11_findsTwos_61 : decode cX11_findsTwos 61 = .ok (.goto 4, 3) := by decide +kernel
theorem dX11_findsTwos_64 : decode cX11_findsTwos 64 = .ok (.iconst 0, 1) := by decide +kernel
theorem dX11_findsTwos_65 : decode cX11_findsTwos 65 = .ok (.istore 5, 2) := by decide +kernel
theorem dX11_findsTwos_67 : decode cX11_findsTwos 67 = .ok (.iload 5, 2) := by decide +kernel
theorem dX11_findsTwos_69 : decode cX11_findsTwos 69 = .ok (.ifCond .eq 16, 3) := by decide +kernel
theorem dX11_findsTwos_72 : decode cX11_findsTwos 72 = .ok (.aload_n 0, 1) := by decide +kernel
theorem dX11_findsTwos_73 : decode cX11_findsTwos 73 = .ok (.iconst 1, 1) := by decide +kernel
theorem dX11_findsTwos_74 : decode cX11_findsTwos 74 = .ok (.iload_n 3, 1) := by decide +kernel
theorem dX11_findsTwos_75 : decode cX11_findsTwos 75 = .ok (.ishl, 1) := by decide +kernel
theorem dX11_findsTwos_76 : decode cX11_findsTwos 76 = .ok (.iconst 1, 1) := by decide +kernel
theorem dX11_findsTwos_77 : decode cX11_findsTwos 77 = .ok (.iload 4, 2) := by decide +kernel
theorem dX11_findsTwos_79 : decode cX11_findsTwos 79 = .ok (.ishl, 1) := by decide +kernel
theorem dX11_findsTwos_80 : decode cX11_findsTwos 80 = .ok (.ior, 1) := by decide +kernel
theorem dX11_findsTwos_81 : decode cX11_findsTwos 81 = .ok (.iload_n 1, 1) := by decide +kernel
theorem dX11_findsTwos_82 : decode cX11_findsTwos 82 = .ok (.invokevirtual 255, 3) := by decide +kernel
theorem dX11_findsTwos_85 : decode cX11_findsTwos 85 = .ok (.aload_n 0, 1) := by decide +kernel
theorem dX11_findsTwos_86 : decode cX11_findsTwos 86 = .ok (.getfield 82, 3) := by decide +kernel
theorem dX11_findsTwos_89 : decode cX11_findsTwos 89 = .ok (.iload_n 2, 1) := by decide +kernel
theorem dX11_findsTwos_90 : decode cX11_findsTwos 90 = .ok (.iload 5, 2) := by decide +kernel
theorem dX11_findsTwos_92 : decode cX11_findsTwos 92 = .ok (.ifCond .eq 17, 3) := by decide +kernel
theorem dX11_findsTwos_95 : decode cX11_findsTwos 95 = .ok (.aload_n 0, 1) := by decide +kernel
theorem dX11_findsTwos_96 : decode cX11_findsTwos 96 = .ok (.getfield 245, 3) := by decide +kernel
theorem dX11_findsTwos_99 : decode cX11_findsTwos 99 = .ok (.ifCond .eq 10, 3) := by decide +kernel
theorem dX11_findsTwos_102 : decode cX11_findsTwos 102 = .ok (.aload_n 0, 1) := by decide +kernel
theorem dX11_findsTwos_103 : decode cX11_findsTwos 103 = .ok (.getfield 249, 3) := by decide +kernel
theorem dX11_findsTwos_106 : decode cX11_findsTwos 106 = .ok (.goto 6, 3) := by decide +kernel
theorem dX11_findsTwos_109 : decode cX11_findsTwos 109 = .ok (.ldc_w 259, 3) := by decide +kernel
theorem dX11_findsTwos_112 : decode cX11_findsTwos 112 = .ok (.iastore, 1) := by decide +kernel
theorem dX11_findsTwos_113 : decode cX11_findsTwos 113 = .ok (.iinc 2 1, 3) := by decide +kernel
theorem dX11_findsTwos_116 : decode cX11_findsTwos 116 = .ok (.goto (-110), 3) := by decide +kernel
theorem dX11_findsTwos_119 : decode cX11_findsTwos 119 = .ok (.return_, 1) := by decide +kernel
theorem dX11_pairsFrom_0 : decode cX11_pairsFrom 0 = .ok (.iload_n 1, 1) := by decide +kernel
theorem dX11_pairsFrom_1 : decode cX11_pairsFrom 1 = .ok (.aload_n 0, 1) := by decide +kernel
theorem dX11_pairsFrom_2 : decode cX11_pairsFrom 2 = .ok (.getfield 111, 3) := by decide +kernel
theorem dX11_pairsFrom_5 : decode cX11_pairsFrom 5 = .ok (.if_icmp .ne 69, 3) := by decide +kernel
theorem dX11_pairsFrom_8 : decode cX11_pairsFrom 8 = .ok (.aload_n 0, 1) := by decide +kernel
theorem dX11_pairsFrom_9 : decode cX11_pairsFrom 9 = .ok (.iload_n 3, 1) := by decide +kernel
theorem dX11_pairsFrom_10 : decode cX11_pairsFrom 10 = .ok (.aload_n 0, 1) := by decide +kernel
theorem dX11_pairsFrom_11 : decode cX11_pairsFrom 11 = .ok (.getfield 260, 3) := by decide +kernel
theorem dX11_pairsFrom_14 : decode cX11_pairsFrom 14 = .ok (.if_icmp .le 7, 3) := by decide +kernel
theorem dX11_pairsFrom_17 : decode cX11_pairsFrom 17 = .ok (.iload_n 3, 1) := by decide +kernel
theorem dX11_pairsFrom_18 : decode cX11_pairsFrom 18 = .ok (.goto 7, 3) := by decide +kernel
theorem dX11_pairsFrom_21 : decode cX11_pairsFrom 21 = .ok (.aload_n 0, 1) := by decide +kernel
theorem dX11_pairsFrom_22 : decode cX11_pairsFrom 22 = .ok (.getfield 260, 3) := by decide +kernel
theorem dX11_pairsFrom_25 : decode cX11_pairsFrom 25 = .ok (.putfield 260, 3) := by decide +kernel
theorem dX11_pairsFrom_28 : decode cX11_pairsFrom 28 = .ok (.iload 4, 2) := by decide +kernel
theorem dX11_pairsFrom_30 : decode cX11_pairsFrom 30 = .ok (.aload_n 0, 1) := by decide +kernel
theorem dX11_pairsFrom_31 : decode cX11_pairsFrom 31 = .ok (.getfield 263, 3) := by decide +kernel
theorem dX11_pairsFrom_34 : decode cX11_pairsFrom 34 = .ok (.if_icmp .le 39, 3) := by decide +kernel
theorem dX11_pairsFrom_37 : decode cX11_pairsFrom 37 = .ok (.aload_n 0, 1) := by decide +kernel
theorem dX11_pairsFrom_38 : decode cX11_pairsFrom 38 = .ok (.iload 4, 2) := by decide +kernel
theorem dX11_pairsFrom_40 : decode cX11_pairsFrom 40 = .ok (.putfield 263, 3) := by decide +kernel
theorem dX11_pairsFrom_43 : decode cX11_pairsFrom 43 = .ok (.iconst 0, 1) := by decide +kernel
theorem dX11_pairsFrom_44 : decode cX11_pairsFrom 44 = .ok (.istore 5, 2) := by decide +kernel
theorem dX11_pairsFrom_46 : decode cX11_pairsFrom 46 = .ok (.iload 5, 2) := by decide +kernel
theorem dX11_pairsFrom_48 : decode cX11_pairsFrom 48 = .ok (.bipush 10, 2) := by decide +kernel
theorem dX11_pairsFrom_50 : decode cX11_pairsFrom 50 = .ok (.if_icmp .ge 23, 3) := by decide +kernel
theorem dX11_pairsFrom_53 : decode cX11_pairsFrom 53 = .ok (.aload_n 0, 1) := by decide +kernel
theorem dX11_pairsFrom_54 : decode cX11_pairsFrom 54 = .ok (.getfield 88, 3) := by decide +kernel
theorem dX11_pairsFrom_57 : decode cX11_pairsFrom 57 = .ok (.iload 5, 2) := by decide +kernel
theorem dX11_pairsFrom_59 : decode cX11_pairsFrom 59 = .ok (.aload_n 0, 1) := by decide +kernel
theorem dX11_pairsFrom_60 : decode cX11_pairsFrom 60 = .ok (.getfield 85, 3) := by decide +kernel
theorem dX11_pairsFrom_63 : decode cX11_pairsFrom 63 = .ok (.iload 5, 2) := by decide +kernel
theorem dX11_pairsFrom_65 : decode cX11_pairsFrom 65 = .ok (.iaload, 1) := by decide +kernel
theorem dX11_pairsFrom_66 : decode cX11_pairsFrom 66 = .ok (.iastore, 1) := by decide +kernel
theorem dX11_pairsFrom_67 : decode cX11_pairsFrom 67 = .ok (.iinc 5 1, 3) := by decide +kernel
theorem dX11_pairsFrom_70 : decode cX11_pairsFrom 70 = .ok (.goto (-24), 3) := by decide +kernel
theorem dX11_pairsFrom_73 : decode cX11_pairsFrom 73 = .ok (.return_, 1) := by decide +kernel
theorem dX11_pairsFrom_74 : decode cX11_pairsFrom 74 = .ok (.aload_n 0, 1) := by decide +kernel
theorem dX11_pairsFrom_75 : decode cX11_pairsFrom 75 = .ok (.getfield 85, 3) := by decide +kernel
theorem dX11_pairsFrom_78 : decode cX11_pairsFrom 78 = .ok (.iload_n 1, 1) := by decide +kernel
theorem dX11_pairsFrom_79 : decode cX11_pairsFrom 79 = .ok (.iconst (-1), 1) := by decide +kernel
theorem dX11_pairsFrom_80 : decode cX11_pairsFrom 80 = .ok (.iastore, 1) := by decide +kernel
theorem dX11_pairsFrom_81 : decode cX11_pairsFrom 81 = .ok (.aload_n 0, 1) := by decide +kernel
theorem dX11_pairsFrom_82 : decode cX11_pairsFrom 82 = .ok (.iload_n 1, 1) := by decide +kernel
theorem dX11_pairsFrom_83 : decode cX11_pairsFrom 83 = .ok (.iconst 1, 1) := by decide +kernel
theorem dX11_pairsFrom_84 : decode cX11_pairsFrom 84 = .ok (.iadd, 1) := by decide +kernel
theorem dX11_pairsFrom_85 : decode cX11_pairsFrom 85 = .ok (.iload_n 2, 1) := by decide +kernel
theorem dX11_pairsFrom_86 : decode cX11_pairsFrom 86 = .ok (.iload_n 3, 1) := by decide +kernel
theorem dX11_pairsFrom_87 : decode cX11_pairsFrom 87 = .ok (.iload 4, 2) := by decide +kernel
theorem dX11_pairsFrom_89 : decode cX11_pairsFrom 89 = .ok (.invokevirtual 266, 3) := by decide +kernel
theorem dX11_pairsFrom_92 : decode cX11_pairsFrom 92 = .ok (.iconst 0, 1) := by decide +kernel
theorem dX11_pairsFrom_93 : decode cX11_pairsFrom 93 = .ok (.istore 5, 2) := by decide +kernel
theorem dX11_pairsFrom_95 : decode cX11_pairsFrom 95 = .ok (.iload 5, 2) := by decide +kernel
theorem dX11_pairsFrom_97 : decode cX11_pairsFrom 97 = .ok (.aload_n 0, 1) := by decide +kernel
theorem dX11_pairsFrom_98 : decode cX11_pairsFrom 98 = .ok (.getfield 111, 3) := by decide +kernel
theorem dX11_pairsFrom_101 : decode cX11_pairsFrom 101 = .ok (.if_icmp .ge 85, 3) := by decide +kernel
theorem dX11_pairsFrom_104 : decode cX11_pairsFrom 104 = .ok (.aload_n 0, 1) := by decide +kernel
theorem dX11_pairsFrom_105 : decode cX11_pairsFrom 105 = .ok (.getfield 16, 3) := by decide +kernel
theorem dX11_pairsFrom_108 : decode cX11_pairsFrom 108 = .ok (.iload_n 1, 1) := by decide +kernel
theorem dX11_pairsFrom_109 : decode cX11_pairsFrom 109 = .ok (.iaload, 1) := by decide +kernel
theorem dX11_pairsFrom_110 : decode cX11_pairsFrom 110 = .ok (.iconst 1, 1) := by decide +kernel
theorem dX11_pairsFrom_111 : decode cX11_pairsFrom 111 = .ok (.if_icmp .ne 75, 3) := by decide +kernel
theorem dX11_pairsFrom_114 : decode cX11_pairsFrom 114 = .ok (.aload_n 0, 1) := by decide +kernel
theorem dX11_pairsFrom_115 : decode cX11_pairsFrom 115 = .ok (.getfield 82, 3) := by decide +kernel
theorem dX11_pairsFrom_118 : decode cX11_pairsFrom 118 = .ok (.bipush 10, 2) := by decide +kernel
theorem dX11_pairsFrom_120 : decode cX11_pairsFrom 120 = .ok (.iload_n 1, 1) := by decide +kernel
theorem dX11_pairsFrom_121 : decode cX11_pairsFrom 121 = .ok (.imul, 1) := by decide +kernel
theorem dX11_pairsFrom_122 : decode cX11_pairsFrom 122 = .ok (.iload 5, 2) := by decide +kernel
theorem dX11_pairsFrom_124 : decode cX11_pairsFrom 124 = .ok (.iadd, 1) := by decide +kernel
theorem dX11_pairsFrom_125 : decode cX11_pairsFrom 125 = .ok (.iaload, 1) := by decide +kernel
theorem dX11_pairsFrom_126 : decode cX11_pairsFrom 126 = .ok (.ldc_w 259, 3) := by decide +kernel
theorem dX11_pairsFrom_129 : decode cX11_pairsFrom 129 = .ok (.if_icmp .eq 51, 3) := by decide +kernel
theorem dX11_pairsFrom_132 : decode cX11_pairsFrom 132 = .ok (.iload_n 2, 1) := by decide +kernel
theorem dX11_pairsFrom_133 : decode cX11_pairsFrom 133 = .ok (.iload 5, 2) := by decide +kernel
theorem dX11_pairsFrom_135 : decode cX11_pairsFrom 135 = .ok (.ishr, 1) := by decide +kernel
theorem dX11_pairsFrom_136 : decode cX11_pairsFrom 136 = .ok (.iconst 1, 1) := by decide +kernel
theorem dX11_pairsFrom_137 : decode cX11_pairsFrom 137 = .ok (.iand, 1) := by decide +kernel
theorem dX11_pairsFrom_138 : decode cX11_pairsFrom 138 = .ok (.ifCond .ne 42, 3) := by decide +kernel
theorem dX11_pairsFrom_141 : decode cX11_pairsFrom 141 = .ok (.aload_n 0, 1) := by decide +kernel
theorem dX11_pairsFrom_142 : decode cX11_pairsFrom 142 = .ok (.getfield 85, 3) := by decide +kernel
theorem dX11_pairsFrom_145 : decode cX11_pairsFrom 145 = .ok (.iload_n 1, 1) := by decide +kernel
theorem dX11_pairsFrom_146 : decode cX11_pairsFrom 146 = .ok (.iload 5, 2) := by decide +kernel
theorem dX11_pairsFrom_148 : decode cX11_pairsFrom 148 = .ok (.iastore, 1) := by decide +kernel
theorem dX11_pairsFrom_149 : decode cX11_pairsFrom 149 = .ok (.aload_n 0, 1) := by decide +kernel
theorem dX11_pairsFrom_150 : decode cX11_pairsFrom 150 = .ok (.iload_n 1, 1) := by decide +kernel
theorem dX11_pairsFrom_151 : decode cX11_pairsFrom 151 = .ok (.iconst 1, 1) := by decide +kernel
theorem dX11_pairsFrom_152 : decode cX11_pairsFrom 152 = .ok (.iadd, 1) := by decide +kernel
theorem dX11_pairsFrom_153 : decode cX11_pairsFrom 153 = .ok (.iload_n 2, 1) := by decide +kernel
theorem dX11_pairsFrom_154 : decode cX11_pairsFrom 154 = .ok (.iconst 1, 1) := by decide +kernel
theorem dX11_pairsFrom_155 : decode cX11_pairsFrom 155 = .ok (.iload 5, 2) := by decide +kernel
theorem dX11_pairsFrom_157 : decode cX11_pairsFrom 157 = .ok (.ishl, 1) := by decide +kernel
theorem dX11_pairsFrom_158 : decode cX11_pairsFrom 158 = .ok (.ior, 1) := by decide +kernel
theorem dX11_pairsFrom_159 : decode cX11_pairsFrom 159 = .ok (.iload_n 3, 1) := by decide +kernel
theorem dX11_pairsFrom_160 : decode cX11_pairsFrom 160 = .ok (.iconst 1, 1) := by decide +kernel
theorem dX11_pairsFrom_161 : decode cX11_pairsFrom 161 = .ok (.iadd, 1) := by decide +kernel
theorem dX11_pairsFrom_162 : decode cX11_pairsFrom 162 = .ok (.iload 4, 2) := by decide +kernel
theorem dX11_pairsFrom_164 : decode cX11_pairsFrom 164 = .ok (.aload_n 0, 1) := by decide +kernel
theorem dX11_pairsFrom_165 : decode cX11_pairsFrom 165 = .ok (.getfield 82, 3) := by decide +kernel
theorem dX11_pairsFrom_168 : decode cX11_pairsFrom 168 = .ok (.bipush 10, 2) := by decide +kernel
theorem dX11_pairsFrom_170 : decode cX11_pairsFrom 170 = .ok (.iload_n 1, 1) := by decide +kernel
theorem dX11_pairsFrom_171 : decode cX11_pairsFrom 171 = .ok (.imul, 1) := by decide +kernel
theorem dX11_pairsFrom_172 : decode cX11_pairsFrom 172 = .ok (.iload 5, 2) := by decide +kernel
theorem dX11_pairsFrom_174 : decode cX11_pairsFrom 174 = .ok (.iadd, 1) := by decide +kernel
theorem dX11_pairsFrom_175 : decode cX11_pairsFrom 175 = .ok (.iaload, 1) := by decide +kernel
theorem dX11_pairsFrom_176 : decode cX11_pairsFrom 176 = .ok (.iadd, 1) := by decide +kernel
theorem dX11_pairsFrom_177 : decode cX11_pairsFrom 177 = .ok (.invokevirtual 266, 3) := by decide +kernel
theorem dX11_pairsFrom_180 : decode cX11_pairsFrom 180 = .ok (.iinc 5 1, 3) := by decide +kernel
theorem dX11_pairsFrom_183 : decode cX11_pairsFrom 183 = .ok (.goto (-88), 3) := by decide +kernel
theorem dX11_pairsFrom_186 : decode cX11_pairsFrom 186 = .ok (.aload_n 0, 1) := by decide +kernel
theorem dX11_pairsFrom_187 : decode cX11_pairsFrom 187 = .ok (.getfield 85, 3) := by decide +kernel
theorem dX11_pairsFrom_190 : decode cX11_pairsFrom 190 = .ok (.iload_n 1, 1) := by decide +kernel
theorem dX11_pairsFrom_191 : decode cX11_pairsFrom 191 = .ok (.iconst (-1), 1) := by decide +kernel
theorem dX11_pairsFrom_192 : decode cX11_pairsFrom 192 = .ok (.iastore, 1) := by decide +kernel
theorem dX11_pairsFrom_193 : decode cX11_pairsFrom 193 = .ok (.return_, 1) := by decide +kernel
theorem dX11_findsPairs_0 : decode cX11_findsPairs 0 = .ok (.aload_n 0, 1) := by decide +kernel
theorem dX11_findsPairs_1 : decode cX11_findsPairs 1 = .ok (.iload_n 1, 1) := by decide +kernel
theorem dX11_findsPairs_2 : decode cX11_findsPairs 2 = .ok (.invokevirtual 270, 3) := by decide +kernel
theorem dX11_findsPairs_5 : decode cX11_findsPairs 5 = .ok (.aload_n 0, 1) := by decide +kernel
theorem dX11_findsPairs_6 : decode cX11_findsPairs 6 = .ok (.iconst 0, 1) := by decide +kernel
theorem dX11_findsPairs_7 : decode cX11_findsPairs 7 = .ok (.putfield 260, 3) := by decide +kernel
theorem dX11_findsPairs_10 : decode cX11_findsPairs 10 = .ok (.aload_n 0, 1) := by decide +kernel
theorem dX11_findsPairs_11 : decode cX11_findsPairs 11 = .ok (.ldc_w 259, 3) := by decide +kernel
theorem dX11_findsPairs_14 : decode cX11_findsPairs 14 = .ok (.putfield 263, 3) := by decide +kernel
theorem dX11_findsPairs_17 : decode cX11_findsPairs 17 = .ok (.aload_n 0, 1) := by decide +kernel
theorem dX11_findsPairs_18 : decode cX11_findsPairs 18 = .ok (.iconst 0, 1) := by decide +kernel
theorem dX11_findsPairs_19 : decode cX11_findsPairs 19 = .ok (.iconst 0, 1) := by decide +kernel
theorem dX11_findsPairs_20 : decode cX11_findsPairs 20 = .ok (.iconst 0, 1) := by decide +kernel
theorem dX11_findsPairs_21 : decode cX11_findsPairs 21 = .ok (.iconst 0, 1) := by decide +kernel
theorem dX11_findsPairs_22 : decode cX11_findsPairs 22 = .ok (.invokevirtual 266, 3) := by decide +kernel
theorem dX11_findsPairs_25 : decode cX11_findsPairs 25 = .ok (.return_, 1) := by decide +kernel
theorem dX11_pairs_0 : decode cX11_pairs 0 = .ok (.iload_n 1, 1) := by decide +kernel
theorem dX11_pairs_1 : decode cX11_pairs 1 = .ok (.invokestatic 208, 3) := by decide +kernel
theorem dX11_pairs_4 : decode cX11_pairs 4 = .ok (.ifCond .ne 6, 3) := by decide +kernel
theorem dX11_pairs_7 : decode cX11_pairs 7 = .ok (.bipush (-5), 2) := by decide +kernel
theorem dX11_pairs_9 : decode cX11_pairs 9 = .ok (.ireturn, 1) := by decide +kernel
theorem dX11_pairs_10 : decode cX11_pairs 10 = .ok (.iload_n 2, 1) := by decide +kernel
theorem dX11_pairs_11 : decode cX11_pairs 11 = .ok (.iconst 0, 1) := by decide +kernel
theorem dX11_pairs_12 : decode cX11_pairs 12 = .ok (.iconst 1, 1) := by decide +kernel
theorem dX11_pairs_13 : decode cX11_pairs 13 = .ok (.invokestatic 114, 3) := by decide +kernel
theorem dX11_pairs_16 : decode cX11_pairs 16 = .ok (.ifCond .ne 6, 3) := by decide +kernel
theorem dX11_pairs_19 : decode cX11_pairs 19 = .ok (.bipush (-7), 2) := by decide +kernel
theorem dX11_pairs_21 : decode cX11_pairs 21 = .ok (.ireturn, 1) := by decide +kernel
theorem dX11_pairs_22 : decode cX11_pairs 22 = .ok (.aload_n 0, 1) := by decide +kernel
theorem dX11_pairs_23 : decode cX11_pairs 23 = .ok (.iload_n 1, 1) := by decide +kernel
theorem dX11_pairs_24 : decode cX11_pairs 24 = .ok (.invokevirtual 273, 3) := by decide +kernel
theorem dX11_pairs_27 : decode cX11_pairs 27 = .ok (.iload_n 2, 1) := by decide +kernel
theorem dX11_pairs_28 : decode cX11_pairs 28 = .ok (.ifCond .ne 10, 3) := by decide +kernel
theorem dX11_pairs_31 : decode cX11_pairs 31 = .ok (.aload_n 0, 1) := by decide +kernel
theorem dX11_pairs_32 : decode cX11_pairs 32 = .ok (.getfield 260, 3) := by decide +kernel
theorem dX11_pairs_35 : decode cX11_pairs 35 = .ok (.goto 7, 3) := by decide +kernel
theorem dX11_pairs_38 : decode cX11_pairs 38 = .ok (.aload_n 0, 1) := by decide +kernel
theorem dX11_pairs_39 : decode cX11_pairs 39 = .ok (.getfield 263, 3) := by decide +kernel
theorem dX11_pairs_42 : decode cX11_pairs 42 = .ok (.ireturn, 1) := by decide +kernel
theorem dX11_against_0 : decode cX11_against 0 = .ok (.iload_n 1, 1) := by decide +kernel
theorem dX11_against_1 : decode cX11_against 1 = .ok (.invokestatic 208, 3) := by decide +kernel
theorem dX11_against_4 : decode cX11_against 4 = .ok (.ifCond .eq 11, 3) := by decide +kernel
theorem dX11_against_7 : decode cX11_against 7 = .ok (.aload_n 0, 1) := by decide +kernel
theorem dX11_against_8 : decode cX11_against 8 = .ok (.iload_n 2, 1) := by decide +kernel
theorem dX11_against_9 : decode cX11_against 9 = .ok (.invokevirtual 202, 3) := by decide +kernel
theorem dX11_against_12 : decode cX11_against 12 = .ok (.ifCond .ne 6, 3) := by decide +kernel
theorem dX11_against_15 : decode cX11_against 15 = .ok (.bipush (-5), 2) := by decide +kernel
theorem dX11_against_17 : decode cX11_against 17 = .ok (.ireturn, 1) := by decide +kernel
theorem dX11_against_18 : decode cX11_against 18 = .ok (.aload_n 0, 1) := by decide +kernel
theorem dX11_against_19 : decode cX11_against 19 = .ok (.iload_n 1, 1) := by decide +kernel
theorem dX11_against_20 : decode cX11_against 20 = .ok (.invokevirtual 273, 3) := by decide +kernel
theorem dX11_against_23 : decode cX11_against 23 = .ok (.aload_n 0, 1) := by decide +kernel
theorem dX11_against_24 : decode cX11_against 24 = .ok (.getfield 16, 3) := by decide +kernel
theorem dX11_against_27 : decode cX11_against 27 = .ok (.iload_n 2, 1) := by decide +kernel
theorem dX11_against_28 : decode cX11_against 28 = .ok (.iaload, 1) := by decide +kernel
theorem dX11_against_29 : decode cX11_against 29 = .ok (.iconst 1, 1) := by decide +kernel
theorem dX11_against_30 : decode cX11_against 30 = .ok (.if_icmp .ne 10, 3) := by decide +kernel
theorem dX11_against_33 : decode cX11_against 33 = .ok (.aload_n 0, 1) := by decide +kernel
theorem dX11_against_34 : decode cX11_against 34 = .ok (.getfield 88, 3) := by decide +kernel
theorem dX11_against_37 : decode cX11_against 37 = .ok (.iload_n 2, 1) := by decide +kernel
theorem dX11_against_38 : decode cX11_against 38 = .ok (.iaload, 1) := by decide +kernel
theorem dX11_against_39 : decode cX11_against 39 = .ok (.ireturn, 1) := by decide +kernel
theorem dX11_against_40 : decode cX11_against 40 = .ok (.iconst 0, 1) := by decide +kernel
theorem dX11_against_41 : decode cX11_against 41 = .ok (.istore_n 3, 1) := by decide +kernel
theorem dX11_against_42 : decode cX11_against 42 = .ok (.iload_n 3, 1) := by decide +kernel
theorem dX11_against_43 : decode cX11_against 43 = .ok (.aload_n 0, 1) := by decide +kernel
theorem dX11_against_44 : decode cX11_against 44 = .ok (.getfield 111, 3) := by decide +kernel
theorem dX11_against_47 : decode cX11_against 47 = .ok (.if_icmp .ge 21, 3) := by decide +kernel
theorem dX11_against_50 : decode cX11_against 50 = .ok (.aload_n 0, 1) := by decide +kernel
theorem dX11_against_51 : decode cX11_against 51 = .ok (.getfield 88, 3) := by decide +kernel
theorem dX11_against_54 : decode cX11_against 54 = .ok (.iload_n 3, 1) := by decide +kernel
theorem dX11_against_55 : decode cX11_against 55 = .ok (.iaload, 1) := by decide +kernel
theorem dX11_against_56 : decode cX11_against 56 = .ok (.iload_n 2, 1) := by decide +kernel
theorem dX11_against_57 : decode cX11_against 57 = .ok (.if_icmp .ne 5, 3) := by decide +kernel
theorem dX11_against_60 : decode cX11_against 60 = .ok (.iload_n 3, 1) := by decide +kernel
theorem dX11_against_61 : decode cX11_against 61 = .ok (.ireturn, 1) := by decide +kernel
theorem dX11_against_62 : decode cX11_against 62 = .ok (.iinc 3 1, 3) := by decide +kernel
theorem dX11_against_65 : decode cX11_against 65 = .ok (.goto (-23), 3) := by decide +kernel
theorem dX11_against_68 : decode cX11_against 68 = .ok (.iconst (-1), 1) := by decide +kernel
theorem dX11_against_69 : decode cX11_against 69 = .ok (.ireturn, 1) := by decide +kernel
theorem dX11_findsBest_0 : decode cX11_findsBest 0 = .ok (.aload_n 0, 1) := by decide +kernel
theorem dX11_findsBest_1 : decode cX11_findsBest 1 = .ok (.iconst 0, 1) := by decide +kernel
theorem dX11_findsBest_2 : decode cX11_findsBest 2 = .ok (.putfield 276, 3) := by decide +kernel
theorem dX11_findsBest_5 : decode cX11_findsBest 5 = .ok (.aload_n 0, 1) := by decide +kernel
theorem dX11_findsBest_6 : decode cX11_findsBest 6 = .ok (.iconst 0, 1) := by decide +kernel
theorem dX11_findsBest_7 : decode cX11_findsBest 7 = .ok (.putfield 279, 3) := by decide +kernel
theorem dX11_findsBest_10 : decode cX11_findsBest 10 = .ok (.iconst 1, 1) := by decide +kernel
theorem dX11_findsBest_11 : decode cX11_findsBest 11 = .ok (.istore_n 3, 1) := by decide +kernel
theorem dX11_findsBest_12 : decode cX11_findsBest 12 = .ok (.iload_n 3, 1) := by decide +kernel
theorem dX11_findsBest_13 : decode cX11_findsBest 13 = .ok (.aload_n 0, 1) := by decide +kernel
theorem dX11_findsBest_14 : decode cX11_findsBest 14 = .ok (.invokevirtual 252, 3) := by decide +kernel
theorem dX11_findsBest_17 : decode cX11_findsBest 17 = .ok (.if_icmp .gt 64, 3) := by decide +kernel
theorem dX11_findsBest_20 : decode cX11_findsBest 20 = .ok (.iload_n 3, 1) := by decide +kernel
theorem dX11_findsBest_21 : decode cX11_findsBest 21 = .ok (.iload_n 2, 1) := by decide +kernel
theorem dX11_findsBest_22 : decode cX11_findsBest 22 = .ok (.iand, 1) := by decide +kernel
theorem dX11_findsBest_23 : decode cX11_findsBest 23 = .ok (.ifCond .ne 52, 3) := by decide +kernel
theorem dX11_findsBest_26 : decode cX11_findsBest 26 = .ok (.iload_n 3, 1) := by decide +kernel
theorem dX11_findsBest_27 : decode cX11_findsBest 27 = .ok (.invokestatic 282, 3) := by decide +kernel
theorem dX11_findsBest_30 : decode cX11_findsBest 30 = .ok (.iconst 2, 1) := by decide +kernel
theorem dX11_findsBest_31 : decode cX11_findsBest 31 = .ok (.iconst 4, 1) := by decide +kernel
theorem dX11_findsBest_32 : decode cX11_findsBest 32 = .ok (.invokestatic 114, 3) := by decide +kernel
theorem dX11_findsBest_35 : decode cX11_findsBest 35 = .ok (.ifCond .eq 40, 3) := by decide +kernel
theorem dX11_findsBest_38 : decode cX11_findsBest 38 = .ok (.aload_n 0, 1) := by decide +kernel
theorem dX11_findsBest_39 : decode cX11_findsBest 39 = .ok (.iload_n 3, 1) := by decide +kernel
theorem dX11_findsBest_40 : decode cX11_findsBest 40 = .ok (.iload_n 1, 1) := by decide +kernel
theorem dX11_findsBest_41 : decode cX11_findsBest 41 = .ok (.invokevirtual 255, 3) := by decide +kernel
theorem dX11_findsBest_44 : decode cX11_findsBest 44 = .ok (.aload_n 0, 1) := by decide +kernel
theorem dX11_findsBest_45 : decode cX11_findsBest 45 = .ok (.getfield 245, 3) := by decide +kernel
theorem dX11_findsBest_48 : decode cX11_findsBest 48 = .ok (.ifCond .eq 27, 3) := by decide +kernel
theorem dX11_findsBest_51 : decode cX11_findsBest 51 = .ok (.aload_n 0, 1) := by decide +kernel
theorem dX11_findsBest_52 : decode cX11_findsBest 52 = .ok (.getfield 249, 3) := by decide +kernel
theorem dX11_findsBest_55 : decode cX11_findsBest 55 = .ok (.aload_n 0, 1) := by decide +kernel
theorem dX11_findsBest_56 : decode cX11_findsBest 56 = .ok (.getfield 279, 3) := by decide +kernel
theorem dX11_findsBest_59 : decode cX11_findsBest 59 = .ok (.if_icmp .le 16, 3) := by decide +kernel
theorem dX11_findsBest_62 : decode cX11_findsBest 62 = .ok (.aload_n 0, 1) := by decide +kernel
theorem dX11_findsBest_63 : decode cX11_findsBest 63 = .ok (.iload_n 3, 1) := by decide +kernel
theorem dX11_findsBest_64 : decode cX11_findsBest 64 = .ok (.putfield 276, 3) := by decide +kernel
theorem dX11_findsBest_67 : decode cX11_findsBest 67 = .ok (.aload_n 0, 1) := by decide +kernel
theorem dX11_findsBest_68 : decode cX11_findsBest 68 = .ok (.aload_n 0, 1) := by decide +kernel
theorem dX11_findsBest_69 : decode cX11_findsBest 69 = .ok (.getfield 249, 3) := by decide +kernel
theorem dX11_findsBest_72 : decode cX11_findsBest 72 = .ok (.putfield 279, 3) := by decide +kernel
theorem dX11_findsBest_75 : decode cX11_findsBest 75 = .ok (.iinc 3 1, 3) := by decide +kernel
theorem dX11_findsBest_78 : decode cX11_findsBest 78 = .ok (.goto (-66), 3) := by decide +kernel
theorem dX11_findsBest_81 : decode cX11_findsBest 81 = .ok (.return_, 1) := by decide +kernel
theorem dX11_best_0 : decode cX11_best 0 = .ok (.iload_n 1, 1) := by decide +kernel
theorem dX11_best_1 : decode cX11_best 1 = .ok (.invokestatic 208, 3) := by decide +kernel
theorem dX11_best_4 : decode cX11_best 4 = .ok (.ifCond .ne 6, 3) := by decide +kernel
theorem dX11_best_7 : decode cX11_best 7 = .ok (.bipush (-5), 2) := by decide +kernel
theorem dX11_best_9 : decode cX11_best 9 = .ok (.ireturn, 1) := by decide +kernel
theorem dX11_best_10 : decode cX11_best 10 = .ok (.iload_n 2, 1) := by decide +kernel
theorem dX11_best_11 : decode cX11_best 11 = .ok (.iconst 0, 1) := by decide +kernel
theorem dX11_best_12 : decode cX11_best 12 = .ok (.iconst 1, 1) := by decide +kernel
theorem dX11_best_13 : decode cX11_best 13 = .ok (.invokestatic 114, 3) := by decide +kernel
theorem dX11_best_16 : decode cX11_best 16 = .ok (.ifCond .ne 6, 3) := by decide +kernel
theorem dX11_best_19 : decode cX11_best 19 = .ok (.bipush (-7), 2) := by decide +kernel
theorem dX11_best_21 : decode cX11_best 21 = .ok (.ireturn, 1) := by decide +kernel
theorem dX11_best_22 : decode cX11_best 22 = .ok (.aload_n 0, 1) := by decide +kernel
theorem dX11_best_23 : decode cX11_best 23 = .ok (.invokevirtual 224, 3) := by decide +kernel
theorem dX11_best_26 : decode cX11_best 26 = .ok (.aload_n 0, 1) := by decide +kernel
theorem dX11_best_27 : decode cX11_best 27 = .ok (.iload_n 1, 1) := by decide +kernel
theorem dX11_best_28 : decode cX11_best 28 = .ok (.iconst 0, 1) := by decide +kernel
theorem dX11_best_29 : decode cX11_best 29 = .ok (.invokevirtual 285, 3) := by decide +kernel
theorem dX11_best_32 : decode cX11_best 32 = .ok (.iload_n 2, 1) := by decide +kernel
theorem dX11_best_33 : decode cX11_best 33 = .ok (.ifCond .ne 10, 3) := by decide +kernel
theorem dX11_best_36 : decode cX11_best 36 = .ok (.aload_n 0, 1) := by decide +kernel
theorem dX11_best_37 : decode cX11_best 37 = .ok (.getfield 276, 3) := by decide +kernel
theorem dX11_best_40 : decode cX11_best 40 = .ok (.goto 7, 3) := by decide +kernel
theorem dX11_best_43 : decode cX11_best 43 = .ok (.aload_n 0, 1) := by decide +kernel
theorem dX11_best_44 : decode cX11_best 44 = .ok (.getfield 279, 3) := by decide +kernel
theorem dX11_best_47 : decode cX11_best 47 = .ok (.ireturn, 1) := by decide +kernel
theorem dX11_lives_0 : decode cX11_lives 0 = .ok (.aload_n 0, 1) := by decide +kernel
theorem dX11_lives_1 : decode cX11_lives 1 = .ok (.invokevirtual 224, 3) := by decide +kernel
theorem dX11_lives_4 : decode cX11_lives 4 = .ok (.aload_n 0, 1) := by decide +kernel
theorem dX11_lives_5 : decode cX11_lives 5 = .ok (.aload_n 0, 1) := by decide +kernel
theorem dX11_lives_6 : decode cX11_lives 6 = .ok (.getfield 288, 3) := by decide +kernel
theorem dX11_lives_9 : decode cX11_lives 9 = .ok (.putfield 291, 3) := by decide +kernel
theorem dX11_lives_12 : decode cX11_lives 12 = .ok (.aload_n 0, 1) := by decide +kernel
theorem dX11_lives_13 : decode cX11_lives 13 = .ok (.iconst 0, 1) := by decide +kernel
theorem dX11_lives_14 : decode cX11_lives 14 = .ok (.putfield 294, 3) := by decide +kernel
theorem dX11_lives_17 : decode cX11_lives 17 = .ok (.aload_n 0, 1) := by decide +kernel
theorem dX11_lives_18 : decode cX11_lives 18 = .ok (.iconst 0, 1) := by decide +kernel
theorem dX11_lives_19 : decode cX11_lives 19 = .ok (.putfield 297, 3) := by decide +kernel
theorem dX11_lives_22 : decode cX11_lives 22 = .ok (.iconst 0, 1) := by decide +kernel
theorem dX11_lives_23 : decode cX11_lives 23 = .ok (.istore_n 2, 1) := by decide +kernel
theorem dX11_lives_24 : decode cX11_lives 24 = .ok (.iload_n 2, 1) := by decide +kernel
theorem dX11_lives_25 : decode cX11_lives 25 = .ok (.bipush 10, 2) := by decide +kernel
theorem dX11_lives_27 : decode cX11_lives 27 = .ok (.if_icmp .ge 23, 3) := by decide +kernel
theorem dX11_lives_30 : decode cX11_lives 30 = .ok (.aload_n 0, 1) := by decide +kernel
theorem dX11_lives_31 : decode cX11_lives 31 = .ok (.getfield 91, 3) := by decide +kernel
theorem dX11_lives_34 : decode cX11_lives 34 = .ok (.iload_n 2, 1) := by decide +kernel
theorem dX11_lives_35 : decode cX11_lives 35 = .ok (.iconst (-1), 1) := by decide +kernel
theorem dX11_lives_36 : decode cX11_lives 36 = .ok (.iastore, 1) := by decide +kernel
theorem dX11_lives_37 : decode cX11_lives 37 = .ok (.aload_n 0, 1) := by decide +kernel
theorem dX11_lives_38 : decode cX11_lives 38 = .ok (.getfield 94, 3) := by decide +kernel
theorem dX11_lives_41 : decode cX11_lives 41 = .ok (.iload_n 2, 1) := by decide +kernel
theorem dX11_lives_42 : decode cX11_lives 42 = .ok (.iconst 0, 1) := by decide +kernel
theorem dX11_lives_43 : decode cX11_lives 43 = .ok (.iastore, 1) := by decide +kernel
theorem dX11_lives_44 : decode cX11_lives 44 = .ok (.iinc 2 1, 3) := by decide +kernel
theorem dX11_lives_47 : decode cX11_lives 47 = .ok (.goto (-23), 3) := by decide +kernel
theorem dX11_lives_50 : decode cX11_lives 50 = .ok (.iconst 0, 1) := by decide +kernel
theorem dX11_lives_51 : decode cX11_lives 51 = .ok (.istore_n 2, 1) := by decide +kernel
theorem dX11_lives_52 : decode cX11_lives 52 = .ok (.iload_n 2, 1) := by decide +kernel
theorem dX11_lives_53 : decode cX11_lives 53 = .ok (.iload_n 1, 1) := by decide +kernel
theorem dX11_lives_54 : decode cX11_lives 54 = .ok (.if_icmp .ge 31, 3) := by decide +kernel
theorem dX11_lives_57 : decode cX11_lives 57 = .ok (.iload_n 2, 1) := by decide +kernel
theorem dX11_lives_58 : decode cX11_lives 58 = .ok (.aload_n 0, 1) := by decide +kernel
theorem dX11_lives_59 : decode cX11_lives 59 = .ok (.getfield 97, 3) := by decide +kernel
theorem dX11_lives_62 : decode cX11_lives 62 = .ok (.if_icmp .eq 17, 3) := by decide +kernel
theorem dX11_lives_65 : decode cX11_lives 65 = .ok (.aload_n 0, 1) := by decide +kernel
theorem dX11_lives_66 : decode cX11_lives 66 = .ok (.iload_n 2, 1) := by decide +kernel
theorem dX11_lives_67 : decode cX11_lives 67 = .ok (.aload_n 0, 1) := by decide +kernel
theorem dX11_lives_68 : decode cX11_lives 68 = .ok (.getfield 291, 3) := by decide +kernel
theorem dX11_lives_71 : decode cX11_lives 71 = .ok (.invokevirtual 285, 3) := by decide +kernel
theorem dX11_lives_74 : decode cX11_lives 74 = .ok (.aload_n 0, 1) := by decide +kernel
theorem dX11_lives_75 : decode cX11_lives 75 = .ok (.iload_n 2, 1) := by decide +kernel
theorem dX11_lives_76 : decode cX11_lives 76 = .ok (.invokevirtual 300, 3) := by decide +kernel
theorem dX11_lives_79 : decode cX11_lives 79 = .ok (.iinc 2 1, 3) := by decide +kernel
theorem dX11_lives_82 : decode cX11_lives 82 = .ok (.goto (-30), 3) := by decide +kernel
theorem dX11_lives_85 : decode cX11_lives 85 = .ok (.aload_n 0, 1) := by decide +kernel
theorem dX11_lives_86 : decode cX11_lives 86 = .ok (.dup, 1) := by decide +kernel
theorem dX11_lives_87 : decode cX11_lives 87 = .ok (.getfield 291, 3) := by decide +kernel
theorem dX11_lives_90 : decode cX11_lives 90 = .ok (.aload_n 0, 1) := by decide +kernel
theorem dX11_lives_91 : decode cX11_lives 91 = .ok (.getfield 288, 3) := by decide +kernel
theorem dX11_lives_94 : decode cX11_lives 94 = .ok (.iconst (-1), 1) := by decide +kernel
theorem dX11_lives_95 : decode cX11_lives 95 = .ok (.ixor, 1) := by decide +kernel
theorem dX11_lives_96 : decode cX11_lives 96 = .ok (.iand, 1) := by decide +kernel
theorem dX11_lives_97 : decode cX11_lives 97 = .ok (.putfield 291, 3) := by decide +kernel
theorem dX11_lives_100 : decode cX11_lives 100 = .ok (.return_, 1) := by decide +kernel
theorem dX11_goesThrough_0 : decode cX11_goesThrough 0 = .ok (.aload_n 0, 1) := by decide +kernel
theorem dX11_goesThrough_1 : decode cX11_goesThrough 1 = .ok (.getfield 276, 3) := by decide +kernel
theorem dX11_goesThrough_4 : decode cX11_goesThrough 4 = .ok (.ifCond .eq 110, 3) := by decide +kernel
theorem dX11_goesThrough_7 : decode cX11_goesThrough 7 = .ok (.aload_n 0, 1) := by decide +kernel
theorem dX11_goesThrough_8 : decode cX11_goesThrough 8 = .ok (.aload_n 0, 1) := by decide +kernel
theorem dX11_goesThrough_9 : decode cX11_goesThrough 9 = .ok (.getfield 276, 3) := by decide +kernel
theorem dX11_goesThrough_12 : decode cX11_goesThrough 12 = .ok (.iload_n 1, 1) := by decide +kernel
theorem dX11_goesThrough_13 : decode cX11_goesThrough 13 = .ok (.invokevirtual 255, 3) := by decide +kernel
theorem dX11_goesThrough_16 : decode cX11_goesThrough 16 = .ok (.aload_n 0, 1) := by decide +kernel
theorem dX11_goesThrough_17 : decode cX11_goesThrough 17 = .ok (.dup, 1) := by decide +kernel
theorem dX11_goesThrough_18 : decode cX11_goesThrough 18 = .ok (.getfield 291, 3) := by decide +kernel
theorem dX11_goesThrough_21 : decode cX11_goesThrough 21 = .ok (.aload_n 0, 1) := by decide +kernel
theorem dX11_goesThrough_22 : decode cX11_goesThrough 22 = .ok (.getfield 276, 3) := by decide +kernel
theorem dX11_goesThrough_25 : decode cX11_goesThrough 25 = .ok (.ior, 1) := by decide +kernel
theorem dX11_goesThrough_26 : decode cX11_goesThrough 26 = .ok (.putfield 291, 3) := by decide +kernel
theorem dX11_goesThrough_29 : decode cX11_goesThrough 29 = .ok (.aload_n 0, 1) := by decide +kernel
theorem dX11_goesThrough_30 : decode cX11_goesThrough 30 = .ok (.dup, 1) := by decide +kernel
theorem dX11_goesThrough_31 : decode cX11_goesThrough 31 = .ok (.getfield 294, 3) := by decide +kernel
theorem dX11_goesThrough_34 : decode cX11_goesThrough 34 = .ok (.aload_n 0, 1) := by decide +kernel
theorem dX11_goesThrough_35 : decode cX11_goesThrough 35 = .ok (.getfield 279, 3) := by decide +kernel
theorem dX11_goesThrough_38 : decode cX11_goesThrough 38 = .ok (.iadd, 1) := by decide +kernel
theorem dX11_goesThrough_39 : decode cX11_goesThrough 39 = .ok (.putfield 294, 3) := by decide +kernel
theorem dX11_goesThrough_42 : decode cX11_goesThrough 42 = .ok (.aload_n 0, 1) := by decide +kernel
theorem dX11_goesThrough_43 : decode cX11_goesThrough 43 = .ok (.dup, 1) := by decide +kernel
theorem dX11_goesThrough_44 : decode cX11_goesThrough 44 = .ok (.getfield 297, 3) := by decide +kernel
theorem dX11_goesThrough_47 : decode cX11_goesThrough 47 = .ok (.aload_n 0, 1) := by decide +kernel
theorem dX11_goesThrough_48 : decode cX11_goesThrough 48 = .ok (.getfield 227, 3) := by decide +kernel
theorem dX11_goesThrough_51 : decode cX11_goesThrough 51 = .ok (.aload_n 0, 1) := by decide +kernel
theorem dX11_goesThrough_52 : decode cX11_goesThrough 52 = .ok (.getfield 230, 3) := by decide +kernel
theorem dX11_goesThrough_55 : decode cX11_goesThrough 55 = .ok (.isub, 1) := by decide +kernel
theorem dX11_goesThrough_56 : decode cX11_goesThrough 56 = .ok (.iadd, 1) := by decide +kernel
theorem dX11_goesThrough_57 : decode cX11_goesThrough 57 = .ok (.putfield 297, 3) := by decide +kernel
theorem dX11_goesThrough_60 : decode cX11_goesThrough 60 = .ok (.aload_n 0, 1) := by decide +kernel
theorem dX11_goesThrough_61 : decode cX11_goesThrough 61 = .ok (.getfield 94, 3) := by decide +kernel
theorem dX11_goesThrough_64 : decode cX11_goesThrough 64 = .ok (.iload_n 1, 1) := by decide +kernel
theorem dX11_goesThrough_65 : decode cX11_goesThrough 65 = .ok (.aload_n 0, 1) := by decide +kernel
theorem dX11_goesThrough_66 : decode cX11_goesThrough 66 = .ok (.getfield 276, 3) := by decide +kernel
theorem dX11_goesThrough_69 : decode cX11_goesThrough 69 = .ok (.iastore, 1) := by decide +kernel
theorem dX11_goesThrough_70 : decode cX11_goesThrough 70 = .ok (.iconst 0, 1) := by decide +kernel
theorem dX11_goesThrough_71 : decode cX11_goesThrough 71 = .ok (.istore_n 2, 1) := by decide +kernel
theorem dX11_goesThrough_72 : decode cX11_goesThrough 72 = .ok (.iload_n 2, 1) := by decide +kernel
theorem dX11_goesThrough_73 : decode cX11_goesThrough 73 = .ok (.aload_n 0, 1) := by decide +kernel
theorem dX11_goesThrough_74 : decode cX11_goesThrough 74 = .ok (.getfield 111, 3) := by decide +kernel
theorem dX11_goesThrough_77 : decode cX11_goesThrough 77 = .ok (.if_icmp .ge 37, 3) := by decide +kernel
theorem dX11_goesThrough_80 : decode cX11_goesThrough 80 = .ok (.aload_n 0, 1) := by decide +kernel
theorem dX11_goesThrough_81 : decode cX11_goesThrough 81 = .ok (.getfield 91, 3) := by decide +kernel
theorem dX11_goesThrough_84 : decode cX11_goesThrough 84 = .ok (.iload_n 2, 1) := by decide +kernel
theorem dX11_goesThrough_85 : decode cX11_goesThrough 85 = .ok (.aload_n 0, 1) := by decide +kernel
theorem dX11_goesThrough_86 : decode cX11_goesThrough 86 = .ok (.getfield 276, 3) := by decide +kernel
theorem dX11_goesThrough_89 : decode cX11_goesThrough 89 = .ok (.iload_n 2, 1) := by decide +kernel
theorem dX11_goesThrough_90 : decode cX11_goesThrough 90 = .ok (.ishr, 1) := by decide +kernel
theorem dX11_goesThrough_91 : decode cX11_goesThrough 91 = .ok (.iconst 1, 1) := by decide +kernel
theorem dX11_goesThrough_92 : decode cX11_goesThrough 92 = .ok (.iand, 1) := by decide +kernel
theorem dX11_goesThrough_93 : decode cX11_goesThrough 93 = .ok (.iconst 1, 1) := by decide +kernel
theorem dX11_goesThrough_94 : decode cX11_goesThrough 94 = .ok (.if_icmp .ne 7, 3) := by decide +kernel
theorem dX11_goesThrough_97 : decode cX11_goesThrough 97 = .ok (.iload_n 1, 1) := by decide +kernel
theorem dX11_goesThrough_98 : decode cX11_goesThrough 98 = .ok (.goto 9, 3) := by decide +kernel
theorem dX11_goesThrough_101 : decode cX11_goesThrough 101 = .ok (.aload_n 0, 1) := by decide +kernel
theorem dX11_goesThrough_102 : decode cX11_goesThrough 102 = .ok (.getfield 91, 3) := by decide +kernel
theorem dX11_goesThrough_105 : decode cX11_goesThrough 105 = .ok (.iload_n 2, 1) := by decide +kernel
theorem dX11_goesThrough_106 : decode cX11_goesThrough 106 = .ok (.iaload, 1) := by decide +kernel
theorem dX11_goesThrough_107 : decode cX11_goesThrough 107 = .ok (.iastore, 1) := by decide +kernel
theorem dX11_goesThrough_108 : decode cX11_goesThrough 108 = .ok (.iinc 2 1, 3) := by decide +kernel
theorem dX11_goesThrough_111 : decode cX11_goesThrough 111 = .ok (.goto (-39), 3) := by decide +kernel
theorem dX11_goesThrough_114 : decode cX11_goesThrough 114 = .ok (.return_, 1) := by decide +kernel
theorem dX11_earnedBy_0 : decode cX11_earnedBy 0 = .ok (.aload_n 0, 1) := by decide +kernel
theorem dX11_earnedBy_1 : decode cX11_earnedBy 1 = .ok (.bipush 10, 2) := by decide +kernel
theorem dX11_earnedBy_3 : decode cX11_earnedBy 3 = .ok (.invokevirtual 303, 3) := by decide +kernel
theorem dX11_earnedBy_6 : decode cX11_earnedBy 6 = .ok (.aload_n 0, 1) := by decide +kernel
theorem dX11_earnedBy_7 : decode cX11_earnedBy 7 = .ok (.getfield 294, 3) := by decide +kernel
theorem dX11_earnedBy_10 : decode cX11_earnedBy 10 = .ok (.ireturn, 1) := by decide +kernel
theorem dX11_dusk_0 : decode cX11_dusk 0 = .ok (.iload_n 1, 1) := by decide +kernel
theorem dX11_dusk_1 : decode cX11_dusk 1 = .ok (.iconst 0, 1) := by decide +kernel
theorem dX11_dusk_2 : decode cX11_dusk 2 = .ok (.bipush 10, 2) := by decide +kernel
theorem dX11_dusk_4 : decode cX11_dusk 4 = .ok (.invokestatic 114, 3) := by decide +kernel
theorem dX11_dusk_7 : decode cX11_dusk 7 = .ok (.ifCond .ne 6, 3) := by decide +kernel
theorem dX11_dusk_10 : decode cX11_dusk 10 = .ok (.bipush (-5), 2) := by decide +kernel
theorem dX11_dusk_12 : decode cX11_dusk 12 = .ok (.ireturn, 1) := by decide +kernel
theorem dX11_dusk_13 : decode cX11_dusk 13 = .ok (.iload_n 2, 1) := by decide +kernel
theorem dX11_dusk_14 : decode cX11_dusk 14 = .ok (.iconst 0, 1) := by decide +kernel
theorem dX11_dusk_15 : decode cX11_dusk 15 = .ok (.iconst 4, 1) := by decide +kernel
theorem dX11_dusk_16 : decode cX11_dusk 16 = .ok (.invokestatic 114, 3) := by decide +kernel
theorem dX11_dusk_19 : decode cX11_dusk 19 = .ok (.ifCond .ne 6, 3) := by decide +kernel
theorem dX11_dusk_22 : decode cX11_dusk 22 = .ok (.bipush (-7), 2) := by decide +kernel
theorem dX11_dusk_24 : decode cX11_dusk 24 = .ok (.ireturn, 1) := by decide +kernel
theorem dX11_dusk_25 : decode cX11_dusk 25 = .ok (.aload_n 0, 1) := by decide +kernel
theorem dX11_dusk_26 : decode cX11_dusk 26 = .ok (.iload_n 1, 1) := by decide +kernel
theorem dX11_dusk_27 : decode cX11_dusk 27 = .ok (.invokevirtual 303, 3) := by decide +kernel
theorem dX11_dusk_30 : decode cX11_dusk 30 = .ok (.iconst 0, 1) := by decide +kernel
theorem dX11_dusk_31 : decode cX11_dusk 31 = .ok (.istore_n 3, 1) := by decide +kernel
theorem dX11_dusk_32 : decode cX11_dusk 32 = .ok (.iconst 0, 1) := by decide +kernel
theorem dX11_dusk_33 : decode cX11_dusk 33 = .ok (.istore 4, 2) := by decide +kernel
theorem dX11_dusk_35 : decode cX11_dusk 35 = .ok (.iconst 0, 1) := by decide +kernel
theorem dX11_dusk_36 : decode cX11_dusk 36 = .ok (.istore 5, 2) := by decide +kernel
theorem dX11_dusk_38 : decode cX11_dusk 38 = .ok (.iload 5, 2) := by decide +kernel
theorem dX11_dusk_40 : decode cX11_dusk 40 = .ok (.aload_n 0, 1) := by decide +kernel
theorem dX11_dusk_41 : decode cX11_dusk 41 = .ok (.getfield 111, 3) := by decide +kernel
theorem dX11_dusk_44 : decode cX11_dusk 44 = .ok (.if_icmp .ge 105, 3) := by decide +kernel
theorem dX11_dusk_47 : decode cX11_dusk 47 = .ok (.aload_n 0, 1) := by decide +kernel
theorem dX11_dusk_48 : decode cX11_dusk 48 = .ok (.getfield 91, 3) := by decide +kernel
theorem dX11_dusk_51 : decode cX11_dusk 51 = .ok (.iload 5, 2) := by decide +kernel
theorem dX11_dusk_53 : decode cX11_dusk 53 = .ok (.iaload, 1) := by decide +kernel
theorem dX11_dusk_54 : decode cX11_dusk 54 = .ok (.iconst (-1), 1) := by decide +kernel
theorem dX11_dusk_55 : decode cX11_dusk 55 = .ok (.if_icmp .ne 7, 3) := by decide +kernel
theorem dX11_dusk_58 : decode cX11_dusk 58 = .ok (.iconst 0, 1) := by decide +kernel
theorem dX11_dusk_59 : decode cX11_dusk 59 = .ok (.goto 16, 3) := by decide +kernel
theorem dX11_dusk_62 : decode cX11_dusk 62 = .ok (.aload_n 0, 1) := by decide +kernel
theorem dX11_dusk_63 : decode cX11_dusk 63 = .ok (.iload 5, 2) := by decide +kernel
theorem dX11_dusk_65 : decode cX11_dusk 65 = .ok (.aload_n 0, 1) := by decide +kernel
theorem dX11_dusk_66 : decode cX11_dusk 66 = .ok (.getfield 91, 3) := by decide +kernel
theorem dX11_dusk_69 : decode cX11_dusk 69 = .ok (.iload 5, 2) := by decide +kernel
theorem dX11_dusk_71 : decode cX11_dusk 71 = .ok (.iaload, 1) := by decide +kernel
theorem dX11_dusk_72 : decode cX11_dusk 72 = .ok (.invokevirtual 205, 3) := by decide +kernel
theorem dX11_dusk_75 : decode cX11_dusk 75 = .ok (.istore 6, 2) := by decide +kernel
theorem dX11_dusk_77 : decode cX11_dusk 77 = .ok (.aload_n 0, 1) := by decide +kernel
theorem dX11_dusk_78 : decode cX11_dusk 78 = .ok (.getfield 91, 3) := by decide +kernel
theorem dX11_dusk_81 : decode cX11_dusk 81 = .ok (.iload 5, 2) := by decide +kernel
theorem dX11_dusk_83 : decode cX11_dusk 83 = .ok (.iaload, 1) := by decide +kernel
theorem dX11_dusk_84 : decode cX11_dusk 84 = .ok (.iconst (-1), 1) := by decide +kernel
theorem dX11_dusk_85 : decode cX11_dusk 85 = .ok (.if_icmp .ne 26, 3) := by decide +kernel
theorem dX11_dusk_88 : decode cX11_dusk 88 = .ok (.iload_n 1, 1) := by decide +kernel
theorem dX11_dusk_89 : decode cX11_dusk 89 = .ok (.aload_n 0, 1) := by decide +kernel
theorem dX11_dusk_90 : decode cX11_dusk 90 = .ok (.getfield 31, 3) := by decide +kernel
theorem dX11_dusk_93 : decode cX11_dusk 93 = .ok (.iload 5, 2) := by decide +kernel
theorem dX11_dusk_95 : decode cX11_dusk 95 = .ok (.iaload, 1) := by decide +kernel
theorem dX11_dusk_96 : decode cX11_dusk 96 = .ok (.if_icmp .le 15, 3) := by decide +kernel
theorem dX11_dusk_99 : decode cX11_dusk 99 = .ok (.iload_n 1, 1) := by decide +kernel
theorem dX11_dusk_100 : decode cX11_dusk 100 = .ok (.aload_n 0, 1) := by decide +kernel
theorem dX11_dusk_101 : decode cX11_dusk 101 = .ok (.getfield 31, 3) := by decide +kernel
theorem dX11_dusk_104 : decode cX11_dusk 104 = .ok (.iload 5, 2) := by decide +kernel
theorem dX11_dusk_106 : decode cX11_dusk 106 = .ok (.iaload, 1) := by decide +kernel
theorem dX11_dusk_107 : decode cX11_dusk 107 = .ok (.isub, 1) := by decide +kernel
theorem dX11_dusk_108 : decode cX11_dusk 108 = .ok (.goto 4, 3) := by decide +kernel
theorem dX11_dusk_111 : decode cX11_dusk 111 = .ok (.iconst 0, 1) := by decide +kernel
theorem dX11_dusk_112 : decode cX11_dusk 112 = .ok (.istore 7, 2) := by decide +kernel
theorem dX11_dusk_114 : decode cX11_dusk 114 = .ok (.iload 6, 2) := by decide +kernel
theorem dX11_dusk_116 : decode cX11_dusk 116 = .ok (.iload_n 3, 1) := by decide +kernel
theorem dX11_dusk_117 : decode cX11_dusk 117 = .ok (.if_icmp .le 8, 3) := by decide +kernel
theorem dX11_dusk_120 : decode cX11_dusk 120 = .ok (.iload 6, 2) := by decide +kernel
theorem dX11_dusk_122 : decode cX11_dusk 122 = .ok (.goto 4, 3) := by decide +kernel
theorem dX11_dusk_125 : decode cX11_dusk 125 = .ok (.iload_n 3, 1) := by decide +kernel
theorem dX11_dusk_126 : decode cX11_dusk 126 = .ok (.istore_n 3, 1) := by decide +kernel
theorem dX11_dusk_127 : decode cX11_dusk 127 = .ok (.iload 7, 2) := by decide +kernel
theorem dX11_dusk_129 : decode cX11_dusk 129 = .ok (.iload 4, 2) := by decide +kernel
theorem dX11_dusk_131 : decode cX11_dusk 131 = .ok (.if_icmp .le 8, 3) := by decide +kernel
theorem dX11_dusk_134 : decode cX11_dusk 134 = .ok (.iload 7, 2) := by decide +kernel
theorem dX11_dusk_136 : decode cX11_dusk 136 = .ok (.goto 5, 3) := by decide +kernel
theorem dX11_dusk_139 : decode cX11_dusk 139 = .ok (.iload 4, 2) := by decide +kernel
theorem dX11_dusk_141 : decode cX11_dusk 141 = .ok (.istore 4, 2) := by decide +kernel
theorem dX11_dusk_143 : decode cX11_dusk 143 = .ok (.iinc 5 1, 3) := by decide +kernel
theorem dX11_dusk_146 : decode cX11_dusk 146 = .ok (.goto (-108), 3) := by decide +kernel
theorem dX11_dusk_149 : decode cX11_dusk 149 = .ok (.iload_n 2, 1) := by decide +kernel
theorem dX11_dusk_150 : decode cX11_dusk 150 = .ok (.ifCond .ne 10, 3) := by decide +kernel
theorem dX11_dusk_153 : decode cX11_dusk 153 = .ok (.aload_n 0, 1) := by decide +kernel
theorem dX11_dusk_154 : decode cX11_dusk 154 = .ok (.getfield 294, 3) := by decide +kernel
theorem dX11_dusk_157 : decode cX11_dusk 157 = .ok (.goto 38, 3) := by decide +kernel
theorem dX11_dusk_160 : decode cX11_dusk 160 = .ok (.iload_n 2, 1) := by decide +kernel
theorem dX11_dusk_161 : decode cX11_dusk 161 = .ok (.iconst 1, 1) := by decide +kernel
theorem dX11_dusk_162 : decode cX11_dusk 162 = .ok (.if_icmp .ne 10, 3) := by decide +kernel
theorem dX11_dusk_165 : decode cX11_dusk 165 = .ok (.aload_n 0, 1) := by decide +kernel
theorem dX11_dusk_166 : decode cX11_dusk 166 = .ok (.getfield 291, 3) := by decide +kernel
theorem dX11_dusk_169 : decode cX11_dusk 169 = .ok (.goto 26, 3) := by decide +kernel
theorem dX11_dusk_172 : decode cX11_dusk 172 = .ok (.iload_n 2, 1) := by decide +kernel
theorem dX11_dusk_173 : decode cX11_dusk 173 = .ok (.iconst 2, 1) := by decide +kernel
theorem dX11_dusk_174 : decode cX11_dusk 174 = .ok (.if_icmp .ne 10, 3) := by decide +kernel
theorem dX11_dusk_177 : decode cX11_dusk 177 = .ok (.aload_n 0, 1) := by decide +kernel
theorem dX11_dusk_178 : decode cX11_dusk 178 = .ok (.getfield 297, 3) := by decide +kernel
theorem dX11_dusk_181 : decode cX11_dusk 181 = .ok (.goto 14, 3) := by decide +kernel
theorem dX11_dusk_184 : decode cX11_dusk 184 = .ok (.iload_n 2, 1) := by decide +kernel
theorem dX11_dusk_185 : decode cX11_dusk 185 = .ok (.iconst 3, 1) := by decide +kernel
theorem dX11_dusk_186 : decode cX11_dusk 186 = .ok (.if_icmp .ne 7, 3) := by decide +kernel
theorem dX11_dusk_189 : decode cX11_dusk 189 = .ok (.iload_n 3, 1) := by decide +kernel
theorem dX11_dusk_190 : decode cX11_dusk 190 = .ok (.goto 5, 3) := by decide +kernel
theorem dX11_dusk_193 : decode cX11_dusk 193 = .ok (.iload 4, 2) := by decide +kernel
theorem dX11_dusk_195 : decode cX11_dusk 195 = .ok (.ireturn, 1) := by decide +kernel
theorem dX11_goes_0 : decode cX11_goes 0 = .ok (.iload_n 2, 1) := by decide +kernel
theorem dX11_goes_1 : decode cX11_goes 1 = .ok (.iconst 0, 1) := by decide +kernel
theorem dX11_goes_2 : decode cX11_goes 2 = .ok (.iconst 1, 1) := by decide +kernel
theorem dX11_goes_3 : decode cX11_goes 3 = .ok (.invokestatic 114, 3) := by decide +kernel
theorem dX11_goes_6 : decode cX11_goes 6 = .ok (.ifCond .ne 6, 3) := by decide +kernel
theorem dX11_goes_9 : decode cX11_goes 9 = .ok (.bipush (-2), 2) := by decide +kernel
theorem dX11_goes_11 : decode cX11_goes 11 = .ok (.ireturn, 1) := by decide +kernel
theorem dX11_goes_12 : decode cX11_goes 12 = .ok (.iload_n 2, 1) := by decide +kernel
theorem dX11_goes_13 : decode cX11_goes 13 = .ok (.ifCond .ne 14, 3) := by decide +kernel
theorem dX11_goes_16 : decode cX11_goes 16 = .ok (.aload_n 0, 1) := by decide +kernel
theorem dX11_goes_17 : decode cX11_goes 17 = .ok (.iload_n 1, 1) := by decide +kernel
theorem dX11_goes_18 : decode cX11_goes 18 = .ok (.invokevirtual 202, 3) := by decide +kernel
theorem dX11_goes_21 : decode cX11_goes 21 = .ok (.ifCond .ne 16, 3) := by decide +kernel
theorem dX11_goes_24 : decode cX11_goes 24 = .ok (.goto 10, 3) := by decide +kernel
theorem dX11_goes_27 : decode cX11_goes 27 = .ok (.iload_n 1, 1) := by decide +kernel
theorem dX11_goes_28 : decode cX11_goes 28 = .ok (.invokestatic 208, 3) := by decide +kernel
theorem dX11_goes_31 : decode cX11_goes 31 = .ok (.ifCond .ne 6, 3) := by decide +kernel
theorem dX11_goes_34 : decode cX11_goes 34 = .ok (.bipush (-5), 2) := by decide +kernel
theorem dX11_goes_36 : decode cX11_goes 36 = .ok (.ireturn, 1) := by decide +kernel
theorem dX11_goes_37 : decode cX11_goes 37 = .ok (.aload_n 0, 1) := by decide +kernel
theorem dX11_goes_38 : decode cX11_goes 38 = .ok (.bipush 10, 2) := by decide +kernel
theorem dX11_goes_40 : decode cX11_goes 40 = .ok (.invokevirtual 303, 3) := by decide +kernel
theorem dX11_goes_43 : decode cX11_goes 43 = .ok (.iload_n 2, 1) := by decide +kernel
theorem dX11_goes_44 : decode cX11_goes 44 = .ok (.ifCond .ne 12, 3) := by decide +kernel
theorem dX11_goes_47 : decode cX11_goes 47 = .ok (.aload_n 0, 1) := by decide +kernel
theorem dX11_goes_48 : decode cX11_goes 48 = .ok (.getfield 91, 3) := by decide +kernel
theorem dX11_goes_51 : decode cX11_goes 51 = .ok (.iload_n 1, 1) := by decide +kernel
theorem dX11_goes_52 : decode cX11_goes 52 = .ok (.iaload, 1) := by decide +kernel
theorem dX11_goes_53 : decode cX11_goes 53 = .ok (.goto 9, 3) := by decide +kernel
theorem dX11_goes_56 : decode cX11_goes 56 = .ok (.aload_n 0, 1) := by decide +kernel
theorem dX11_goes_57 : decode cX11_goes 57 = .ok (.getfield 94, 3) := by decide +kernel
theorem dX11_goes_60 : decode cX11_goes 60 = .ok (.iload_n 1, 1) := by decide +kernel
theorem dX11_goes_61 : decode cX11_goes 61 = .ok (.iaload, 1) := by decide +kernel
theorem dX11_goes_62 : decode cX11_goes 62 = .ok (.ireturn, 1) := by decide +kernel
theorem dX11_hold_0 : decode cX11_hold 0 = .ok (.iload_n 1, 1) := by decide +kernel
theorem dX11_hold_1 : decode cX11_hold 1 = .ok (.iconst 0, 1) := by decide +kernel
theorem dX11_hold_2 : decode cX11_hold 2 = .ok (.iconst 1, 1) := by decide +kernel
theorem dX11_hold_3 : decode cX11_hold 3 = .ok (.invokestatic 114, 3) := by decide +kernel
theorem dX11_hold_6 : decode cX11_hold 6 = .ok (.ifCond .ne 6, 3) := by decide +kernel
theorem dX11_hold_9 : decode cX11_hold 9 = .ok (.bipush (-2), 2) := by decide +kernel
theorem dX11_hold_11 : decode cX11_hold 11 = .ok (.ireturn, 1) := by decide +kernel
theorem dX11_hold_12 : decode cX11_hold 12 = .ok (.iconst (-1), 1) := by decide +kernel
theorem dX11_hold_13 : decode cX11_hold 13 = .ok (.istore_n 2, 1) := by decide +kernel
theorem dX11_hold_14 : decode cX11_hold 14 = .ok (.aload_n 0, 1) := by decide +kernel
theorem dX11_hold_15 : decode cX11_hold 15 = .ok (.invokevirtual 306, 3) := by decide +kernel
theorem dX11_hold_18 : decode cX11_hold 18 = .ok (.istore_n 3, 1) := by decide +kernel
theorem dX11_hold_19 : decode cX11_hold 19 = .ok (.iconst 0, 1) := by decide +kernel
theorem dX11_hold_20 : decode cX11_hold 20 = .ok (.istore 4, 2) := by decide +kernel
theorem dX11_hold_22 : decode cX11_hold 22 = .ok (.iload 4, 2) := by decide +kernel
theorem dX11_hold_24 : decode cX11_hold 24 = .ok (.bipush 10, 2) := by decide +kernel
theorem dX11_hold_26 : decode cX11_hold 26 = .ok (.if_icmp .ge 47, 3) := by decide +kernel
theorem dX11_hold_29 : decode cX11_hold 29 = .ok (.aload_n 0, 1) := by decide +kernel
theorem dX11_hold_30 : decode cX11_hold 30 = .ok (.iload 4, 2) := by decide +kernel
theorem dX11_hold_32 : decode cX11_hold 32 = .ok (.putfield 97, 3) := by decide +kernel
theorem dX11_hold_35 : decode cX11_hold 35 = .ok (.aload_n 0, 1) := by decide +kernel
theorem dX11_hold_36 : decode cX11_hold 36 = .ok (.invokevirtual 306, 3) := by decide +kernel
theorem dX11_hold_39 : decode cX11_hold 39 = .ok (.istore 5, 2) := by decide +kernel
theorem dX11_hold_41 : decode cX11_hold 41 = .ok (.iload 5, 2) := by decide +kernel
theorem dX11_hold_43 : decode cX11_hold 43 = .ok (.iload_n 3, 1) := by decide +kernel
theorem dX11_hold_44 : decode cX11_hold 44 = .ok (.if_icmp .le 8, 3) := by decide +kernel
theorem dX11_hold_47 : decode cX11_hold 47 = .ok (.iload 4, 2) := by decide +kernel
theorem dX11_hold_49 : decode cX11_hold 49 = .ok (.goto 4, 3) := by decide +kernel
theorem dX11_hold_52 : decode cX11_hold 52 = .ok (.iload_n 2, 1) := by decide +kernel
theorem dX11_hold_53 : decode cX11_hold 53 = .ok (.istore_n 2, 1) := by decide +kernel
theorem dX11_hold_54 : decode cX11_hold 54 = .ok (.iload 5, 2) := by decide +kernel
theorem dX11_hold_56 : decode cX11_hold 56 = .ok (.iload_n 3, 1) := by decide +kernel
theorem dX11_hold_57 : decode cX11_hold 57 = .ok (.if_icmp .le 8, 3) := by decide +kernel
theorem dX11_hold_60 : decode cX11_hold 60 = .ok (.iload 5, 2) := by decide +kernel
theorem dX11_hold_62 : decode cX11_hold 62 = .ok (.goto 4, 3) := by decide +kernel
theorem dX11_hold_65 : decode cX11_hold 65 = .ok (.iload_n 3, 1) := by decide +kernel
theorem dX11_hold_66 : decode cX11_hold 66 = .ok (.istore_n 3, 1) := by decide +kernel
theorem dX11_hold_67 : decode cX11_hold 67 = .ok (.iinc 4 1, 3) := by decide +kernel
theorem dX11_hold_70 : decode cX11_hold 70 = .ok (.goto (-48), 3) := by decide +kernel
theorem dX11_hold_73 : decode cX11_hold 73 = .ok (.aload_n 0, 1) := by decide +kernel
theorem dX11_hold_74 : decode cX11_hold 74 = .ok (.iconst (-1), 1) := by decide +kernel
theorem dX11_hold_75 : decode cX11_hold 75 = .ok (.putfield 97, 3) := by decide +kernel
theorem dX11_hold_78 : decode cX11_hold 78 = .ok (.iload_n 1, 1) := by decide +kernel
theorem dX11_hold_79 : decode cX11_hold 79 = .ok (.ifCond .ne 7, 3) := by decide +kernel
theorem dX11_hold_82 : decode cX11_hold 82 = .ok (.iload_n 2, 1) := by decide +kernel
theorem dX11_hold_83 : decode cX11_hold 83 = .ok (.goto 4, 3) := by decide +kernel
theorem dX11_hold_86 : decode cX11_hold 86 = .ok (.iload_n 3, 1) := by decide +kernel
theorem dX11_hold_87 : decode cX11_hold 87 = .ok (.ireturn, 1) := by decide +kernel
theorem dX11_gain_0 : decode cX11_gain 0 = .ok (.aload_n 0, 1) := by decide +kernel
theorem dX11_gain_1 : decode cX11_gain 1 = .ok (.iload_n 1, 1) := by decide +kernel
theorem dX11_gain_2 : decode cX11_gain 2 = .ok (.invokevirtual 202, 3) := by decide +kernel
theorem dX11_gain_5 : decode cX11_gain 5 = .ok (.ifCond .ne 7, 3) := by decide +kernel
theorem dX11_gain_8 : decode cX11_gain 8 = .ok (.ldc_w 259, 3) := by decide +kernel
theorem dX11_gain_11 : decode cX11_gain 11 = .ok (.ireturn, 1) := by decide +kernel
theorem dX11_gain_12 : decode cX11_gain 12 = .ok (.aload_n 0, 1) := by decide +kernel
theorem dX11_gain_13 : decode cX11_gain 13 = .ok (.invokevirtual 306, 3) := by decide +kernel
theorem dX11_gain_16 : decode cX11_gain 16 = .ok (.istore_n 2, 1) := by decide +kernel
theorem dX11_gain_17 : decode cX11_gain 17 = .ok (.aload_n 0, 1) := by decide +kernel
theorem dX11_gain_18 : decode cX11_gain 18 = .ok (.iconst 1, 1) := by decide +kernel
theorem dX11_gain_19 : decode cX11_gain 19 = .ok (.iload_n 1, 1) := by decide +kernel
theorem dX11_gain_20 : decode cX11_gain 20 = .ok (.ishl, 1) := by decide +kernel
theorem dX11_gain_21 : decode cX11_gain 21 = .ok (.putfield 288, 3) := by decide +kernel
theorem dX11_gain_24 : decode cX11_gain 24 = .ok (.aload_n 0, 1) := by decide +kernel
theorem dX11_gain_25 : decode cX11_gain 25 = .ok (.invokevirtual 306, 3) := by decide +kernel
theorem dX11_gain_28 : decode cX11_gain 28 = .ok (.istore_n 3, 1) := by decide +kernel
theorem dX11_gain_29 : decode cX11_gain 29 = .ok (.aload_n 0, 1) := by decide +kernel
theorem dX11_gain_30 : decode cX11_gain 30 = .ok (.iconst 0, 1) := by decide +kernel
theorem dX11_gain_31 : decode cX11_gain 31 = .ok (.putfield 288, 3) := by decide +kernel
theorem dX11_gain_34 : decode cX11_gain 34 = .ok (.iload_n 2, 1) := by decide +kernel
theorem dX11_gain_35 : decode cX11_gain 35 = .ok (.iload_n 3, 1) := by decide +kernel
theorem dX11_gain_36 : decode cX11_gain 36 = .ok (.isub, 1) := by decide +kernel
theorem dX11_gain_37 : decode cX11_gain 37 = .ok (.ireturn, 1) := by decide +kernel
theorem dX11_bring_0 : decode cX11_bring 0 = .ok (.aload_n 0, 1) := by decide +kernel
theorem dX11_bring_1 : decode cX11_bring 1 = .ok (.iload_n 1, 1) := by decide +kernel
theorem dX11_bring_2 : decode cX11_bring 2 = .ok (.invokevirtual 202, 3) := by decide +kernel
theorem dX11_bring_5 : decode cX11_bring 5 = .ok (.ifCond .ne 6, 3) := by decide +kernel
theorem dX11_bring_8 : decode cX11_bring 8 = .ok (.bipush (-5), 2) := by decide +kernel
theorem dX11_bring_10 : decode cX11_bring 10 = .ok (.ireturn, 1) := by decide +kernel
theorem dX11_bring_11 : decode cX11_bring 11 = .ok (.iload_n 2, 1) := by decide +kernel
theorem dX11_bring_12 : decode cX11_bring 12 = .ok (.iconst 0, 1) := by decide +kernel
theorem dX11_bring_13 : decode cX11_bring 13 = .ok (.iconst 1, 1) := by decide +kernel
theorem dX11_bring_14 : decode cX11_bring 14 = .ok (.invokestatic 114, 3) := by decide +kernel
theorem dX11_bring_17 : decode cX11_bring 17 = .ok (.ifCond .ne 6, 3) := by decide +kernel
theorem dX11_bring_20 : decode cX11_bring 20 = .ok (.bipush (-7), 2) := by decide +kernel
theorem dX11_bring_22 : decode cX11_bring 22 = .ok (.ireturn, 1) := by decide +kernel
theorem dX11_bring_23 : decode cX11_bring 23 = .ok (.aload_n 0, 1) := by decide +kernel
theorem dX11_bring_24 : decode cX11_bring 24 = .ok (.getfield 31, 3) := by decide +kernel
theorem dX11_bring_27 : decode cX11_bring 27 = .ok (.iload_n 1, 1) := by decide +kernel
theorem dX11_bring_28 : decode cX11_bring 28 = .ok (.iaload, 1) := by decide +kernel
theorem dX11_bring_29 : decode cX11_bring 29 = .ok (.istore_n 3, 1) := by decide +kernel
theorem dX11_bring_30 : decode cX11_bring 30 = .ok (.iconst 0, 1) := by decide +kernel
theorem dX11_bring_31 : decode cX11_bring 31 = .ok (.istore 4, 2) := by decide +kernel
theorem dX11_bring_33 : decode cX11_bring 33 = .ok (.ldc_w 259, 3) := by decide +kernel
theorem dX11_bring_36 : decode cX11_bring 36 = .ok (.istore 5, 2) := by decide +kernel
theorem dX11_bring_38 : decode cX11_bring 38 = .ok (.iconst 0, 1) := by decide +kernel
theorem dX11_bring_39 : decode cX11_bring 39 = .ok (.istore 6, 2) := by decide +kernel
theorem dX11_bring_41 : decode cX11_bring 41 = .ok (.iload 6, 2) := by decide +kernel
theorem dX11_bring_43 : decode cX11_bring 43 = .ok (.bipush 10, 2) := by decide +kernel
theorem dX11_bring_45 : decode cX11_bring 45 = .ok (.if_icmp .ge 55, 3) := by decide +kernel
theorem dX11_bring_48 : decode cX11_bring 48 = .ok (.aload_n 0, 1) := by decide +kernel
theorem dX11_bring_49 : decode cX11_bring 49 = .ok (.getfield 31, 3) := by decide +kernel
theorem dX11_bring_52 : decode cX11_bring 52 = .ok (.iload_n 1, 1) := by decide +kernel
theorem dX11_bring_53 : decode cX11_bring 53 = .ok (.iload 6, 2) := by decide +kernel
theorem dX11_bring_55 : decode cX11_bring 55 = .ok (.iastore, 1) := by decide +kernel
theorem dX11_bring_56 : decode cX11_bring 56 = .ok (.aload_n 0, 1) := by decide +kernel
theorem dX11_bring_57 : decode cX11_bring 57 = .ok (.invokevirtual 306, 3) := by decide +kernel
theorem dX11_bring_60 : decode cX11_bring 60 = .ok (.istore 7, 2) := by decide +kernel
theorem dX11_bring_62 : decode cX11_bring 62 = .ok (.iload 7, 2) := by decide +kernel
theorem dX11_bring_64 : decode cX11_bring 64 = .ok (.iload 5, 2) := by decide +kernel
theorem dX11_bring_66 : decode cX11_bring 66 = .ok (.if_icmp .lt 8, 3) := by decide +kernel
theorem dX11_bring_69 : decode cX11_bring 69 = .ok (.iload 6, 2) := by decide +kernel
theorem dX11_bring_71 : decode cX11_bring 71 = .ok (.goto 5, 3) := by decide +kernel
theorem dX11_bring_74 : decode cX11_bring 74 = .ok (.iload 4, 2) := by decide +kernel
theorem dX11_bring_76 : decode cX11_bring 76 = .ok (.istore 4, 2) := by decide +kernel
theorem dX11_bring_78 : decode cX11_bring 78 = .ok (.iload 7, 2) := by decide +kernel
theorem dX11_bring_80 : decode cX11_bring 80 = .ok (.iload 5, 2) := by decide +kernel
theorem dX11_bring_82 : decode cX11_bring 82 = .ok (.if_icmp .lt 8, 3) := by decide +kernel
theorem dX11_bring_85 : decode cX11_bring 85 = .ok (.iload 7, 2) := by decide +kernel
theorem dX11_bring_87 : decode cX11_bring 87 = .ok (.goto 5, 3) := by decide +kernel
theorem dX11_bring_90 : decode cX11_bring 90 = .ok (.iload 5, 2) := by decide +kernel
theorem dX11_bring_92 : decode cX11_bring 92 = .ok (.istore 5, 2) := by decide +kernel
theorem dX11_bring_94 : decode cX11_bring 94 = .ok (.iinc 6 1, 3) := by decide +kernel
theorem dX11_bring_97 : decode cX11_bring 97 = .ok (.goto (-56), 3) := by decide +kernel
theorem dX11_bring_100 : decode cX11_bring 100 = .ok (.aload_n 0, 1) := by decide +kernel
theorem dX11_bring_101 : decode cX11_bring 101 = .ok (.getfield 31, 3) := by decide +kernel
theorem dX11_bring_104 : decode cX11_bring 104 = .ok (.iload_n 1, 1) := by decide +kernel
theorem dX11_bring_105 : decode cX11_bring 105 = .ok (.iload_n 3, 1) := by decide +kernel
theorem dX11_bring_106 : decode cX11_bring 106 = .ok (.iastore, 1) := by decide +kernel
theorem dX11_bring_107 : decode cX11_bring 107 = .ok (.iload_n 2, 1) := by decide +kernel
theorem dX11_bring_108 : decode cX11_bring 108 = .ok (.ifCond .ne 8, 3) := by decide +kernel
theorem dX11_bring_111 : decode cX11_bring 111 = .ok (.iload 4, 2) := by decide +kernel
theorem dX11_bring_113 : decode cX11_bring 113 = .ok (.goto 5, 3) := by decide +kernel
theorem dX11_bring_116 : decode cX11_bring 116 = .ok (.iload 5, 2) := by decide +kernel
theorem dX11_bring_118 : decode cX11_bring 118 = .ok (.ireturn, 1) := by decide +kernel
theorem dX11_sheetWrong_0 : decode cX11_sheetWrong 0 = .ok (.iload_n 1, 1) := by decide +kernel
theorem dX11_sheetWrong_1 : decode cX11_sheetWrong 1 = .ok (.iconst 0, 1) := by decide +kernel
theorem dX11_sheetWrong_2 : decode cX11_sheetWrong 2 = .ok (.iconst 3, 1) := by decide +kernel
theorem dX11_sheetWrong_3 : decode cX11_sheetWrong 3 = .ok (.invokestatic 114, 3) := by decide +kernel
theorem dX11_sheetWrong_6 : decode cX11_sheetWrong 6 = .ok (.ifCond .ne 6, 3) := by decide +kernel
theorem dX11_sheetWrong_9 : decode cX11_sheetWrong 9 = .ok (.bipush (-2), 2) := by decide +kernel
theorem dX11_sheetWrong_11 : decode cX11_sheetWrong 11 = .ok (.ireturn, 1) := by decide +kernel
theorem dX11_sheetWrong_12 : decode cX11_sheetWrong 12 = .ok (.aload_n 0, 1) := by decide +kernel
theorem dX11_sheetWrong_13 : decode cX11_sheetWrong 13 = .ok (.getfield 55, 3) := by decide +kernel
theorem dX11_sheetWrong_16 : decode cX11_sheetWrong 16 = .ok (.iload_n 1, 1) := by decide +kernel
theorem dX11_sheetWrong_17 : decode cX11_sheetWrong 17 = .ok (.iaload, 1) := by decide +kernel
theorem dX11_sheetWrong_18 : decode cX11_sheetWrong 18 = .ok (.iconst (-1), 1) := by decide +kernel
theorem dX11_sheetWrong_19 : decode cX11_sheetWrong 19 = .ok (.if_icmp .ne 6, 3) := by decide +kernel
theorem dX11_sheetWrong_22 : decode cX11_sheetWrong 22 = .ok (.bipush (-11), 2) := by decide +kernel
theorem dX11_sheetWrong_24 : decode cX11_sheetWrong 24 = .ok (.ireturn, 1) := by decide +kernel
theorem dX11_sheetWrong_25 : decode cX11_sheetWrong 25 = .ok (.aload_n 0, 1) := by decide +kernel
theorem dX11_sheetWrong_26 : decode cX11_sheetWrong 26 = .ok (.getfield 58, 3) := by decide +kernel
theorem dX11_sheetWrong_29 : decode cX11_sheetWrong 29 = .ok (.iload_n 1, 1) := by decide +kernel
theorem dX11_sheetWrong_30 : decode cX11_sheetWrong 30 = .ok (.iaload, 1) := by decide +kernel
theorem dX11_sheetWrong_31 : decode cX11_sheetWrong 31 = .ok (.iconst 2, 1) := by decide +kernel
theorem dX11_sheetWrong_32 : decode cX11_sheetWrong 32 = .ok (.irem, 1) := by decide +kernel
theorem dX11_sheetWrong_33 : decode cX11_sheetWrong 33 = .ok (.ifCond .ne 7, 3) := by decide +kernel
theorem dX11_sheetWrong_36 : decode cX11_sheetWrong 36 = .ok (.iconst 0, 1) := by decide +kernel
theorem dX11_sheetWrong_37 : decode cX11_sheetWrong 37 = .ok (.goto 5, 3) := by decide +kernel
theorem dX11_sheetWrong_40 : decode cX11_sheetWrong 40 = .ok (.bipush (-2), 2) := by decide +kernel
theorem dX11_sheetWrong_42 : decode cX11_sheetWrong 42 = .ok (.ireturn, 1) := by decide +kernel
theorem dX11_isRow_0 : decode cX11_isRow 0 = .ok (.aload_n 0, 1) := by decide +kernel
theorem dX11_isRow_1 : decode cX11_isRow 1 = .ok (.getfield 61, 3) := by decide +kernel
theorem dX11_isRow_4 : decode cX11_isRow 4 = .ok (.bipush 40, 2) := by decide +kernel
theorem dX11_isRow_6 : decode cX11_isRow 6 = .ok (.iload_n 1, 1) := by decide +kernel
theorem dX11_isRow_7 : decode cX11_isRow 7 = .ok (.imul, 1) := by decide +kernel
theorem dX11_isRow_8 : decode cX11_isRow 8 = .ok (.iconst 2, 1) := by decide +kernel
theorem dX11_isRow_9 : decode cX11_isRow 9 = .ok (.iload_n 2, 1) := by decide +kernel
theorem dX11_isRow_10 : decode cX11_isRow 10 = .ok (.imul, 1) := by decide +kernel
theorem dX11_isRow_11 : decode cX11_isRow 11 = .ok (.iadd, 1) := by decide +kernel
theorem dX11_isRow_12 : decode cX11_isRow 12 = .ok (.iaload, 1) := by decide +kernel
theorem dX11_isRow_13 : decode cX11_isRow 13 = .ok (.istore 5, 2) := by decide +kernel
theorem dX11_isRow_15 : decode cX11_isRow 15 = .ok (.aload_n 0, 1) := by decide +kernel
theorem dX11_isRow_16 : decode cX11_isRow 16 = .ok (.getfield 61, 3) := by decide +kernel
theorem dX11_isRow_19 : decode cX11_isRow 19 = .ok (.bipush 40, 2) := by decide +kernel
theorem dX11_isRow_21 : decode cX11_isRow 21 = .ok (.iload_n 1, 1) := by decide +kernel
theorem dX11_isRow_22 : decode cX11_isRow 22 = .ok (.imul, 1) := by decide +kernel
theorem dX11_isRow_23 : decode cX11_isRow 23 = .ok (.iconst 2, 1) := by decide +kernel
theorem dX11_isRow_24 : decode cX11_isRow 24 = .ok (.iload_n 2, 1) := by decide +kernel
theorem dX11_isRow_25 : decode cX11_isRow 25 = .ok (.imul, 1) := by decide +kernel
theorem dX11_isRow_26 : decode cX11_isRow 26 = .ok (.iadd, 1) := by decide +kernel
theorem dX11_isRow_27 : decode cX11_isRow 27 = .ok (.iconst 1, 1) := by decide +kernel
theorem dX11_isRow_28 : decode cX11_isRow 28 = .ok (.iadd, 1) := by decide +kernel
theorem dX11_isRow_29 : decode cX11_isRow 29 = .ok (.iaload, 1) := by decide +kernel
theorem dX11_isRow_30 : decode cX11_isRow 30 = .ok (.istore 6, 2) := by decide +kernel
theorem dX11_isRow_32 : decode cX11_isRow 32 = .ok (.iload 5, 2) := by decide +kernel
theorem dX11_isRow_34 : decode cX11_isRow 34 = .ok (.invokestatic 208, 3) := by decide +kernel
theorem dX11_isRow_37 : decode cX11_isRow 37 = .ok (.ifCond .eq 30, 3) := by decide +kernel
theorem dX11_isRow_40 : decode cX11_isRow 40 = .ok (.iload 6, 2) := by decide +kernel
theorem dX11_isRow_42 : decode cX11_isRow 42 = .ok (.iconst 1, 1) := by decide +kernel
theorem dX11_isRow_43 : decode cX11_isRow 43 = .ok (.aload_n 0, 1) := by decide +kernel
theorem dX11_isRow_44 : decode cX11_isRow 44 = .ok (.invokevirtual 252, 3) := by decide +kernel
theorem dX11_isRow_47 : decode cX11_isRow 47 = .ok (.invokestatic 114, 3) := by decide +kernel
theorem dX11_isRow_50 : decode cX11_isRow 50 = .ok (.ifCond .eq 17, 3) := by decide +kernel
theorem dX11_isRow_53 : decode cX11_isRow 53 = .ok (.iload 5, 2) := by decide +kernel
theorem dX11_isRow_55 : decode cX11_isRow 55 = .ok (.iload_n 3, 1) := by decide +kernel
theorem dX11_isRow_56 : decode cX11_isRow 56 = .ok (.if_icmp .le 11, 3) := by decide +kernel
theorem dX11_isRow_59 : decode cX11_isRow 59 = .ok (.iload 6, 2) := by decide +kernel
theorem dX11_isRow_61 : decode cX11_isRow 61 = .ok (.iload 4, 2) := by decide +kernel
theorem dX11_isRow_63 : decode cX11_isRow 63 = .ok (.iand, 1) := by decide +kernel
theorem dX11_isRow_64 : decode cX11_isRow 64 = .ok (.ifCond .eq 5, 3) := by decide +kernel
theorem dX11_isRow_67 : decode cX11_isRow 67 = .ok (.iconst 0, 1) := by decide +kernel
theorem dX11_isRow_68 : decode cX11_isRow 68 = .ok (.ireturn, 1) := by decide +kernel
theorem dX11_isRow_69 : decode cX11_isRow 69 = .ok (.aload_n 0, 1) := by decide +kernel
theorem dX11_isRow_70 : decode cX11_isRow 70 = .ok (.iload 6, 2) := by decide +kernel
theorem dX11_isRow_72 : decode cX11_isRow 72 = .ok (.iload 5, 2) := by decide +kernel
theorem dX11_isRow_74 : decode cX11_isRow 74 = .ok (.invokevirtual 255, 3) := by decide +kernel
theorem dX11_isRow_77 : decode cX11_isRow 77 = .ok (.aload_n 0, 1) := by decide +kernel
theorem dX11_isRow_78 : decode cX11_isRow 78 = .ok (.getfield 245, 3) := by decide +kernel
theorem dX11_isRow_81 : decode cX11_isRow 81 = .ok (.ireturn, 1) := by decide +kernel
theorem dX11_judge_0 : decode cX11_judge 0 = .ok (.aload_n 0, 1) := by decide +kernel
theorem dX11_judge_1 : decode cX11_judge 1 = .ok (.iload_n 1, 1) := by decide +kernel
theorem dX11_judge_2 : decode cX11_judge 2 = .ok (.invokevirtual 309, 3) := by decide +kernel
theorem dX11_judge_5 : decode cX11_judge 5 = .ok (.istore_n 2, 1) := by decide +kernel
theorem dX11_judge_6 : decode cX11_judge 6 = .ok (.iload_n 2, 1) := by decide +kernel
theorem dX11_judge_7 : decode cX11_judge 7 = .ok (.ifCond .eq 5, 3) := by decide +kernel
theorem dX11_judge_10 : decode cX11_judge 10 = .ok (.iload_n 2, 1) := by decide +kernel
theorem dX11_judge_11 : decode cX11_judge 11 = .ok (.ireturn, 1) := by decide +kernel
theorem dX11_judge_12 : decode cX11_judge 12 = .ok (.aload_n 0, 1) := by decide +kernel
theorem dX11_judge_13 : decode cX11_judge 13 = .ok (.invokevirtual 224, 3) := by decide +kernel
theorem dX11_judge_16 : decode cX11_judge 16 = .ok (.iconst (-1), 1) := by decide +kernel
theorem dX11_judge_17 : decode cX11_judge 17 = .ok (.istore_n 3, 1) := by decide +kernel
theorem dX11_judge_18 : decode cX11_judge 18 = .ok (.iconst 0, 1) := by decide +kernel
theorem dX11_judge_19 : decode cX11_judge 19 = .ok (.istore 4, 2) := by decide +kernel
theorem dX11_judge_21 : decode cX11_judge 21 = .ok (.iconst 0, 1) := by decide +kernel
theorem dX11_judge_22 : decode cX11_judge 22 = .ok (.istore 5, 2) := by decide +kernel
theorem dX11_judge_24 : decode cX11_judge 24 = .ok (.iload 5, 2) := by decide +kernel
theorem dX11_judge_26 : decode cX11_judge 26 = .ok (.aload_n 0, 1) := by decide +kernel
theorem dX11_judge_27 : decode cX11_judge 27 = .ok (.getfield 58, 3) := by decide +kernel
theorem dX11_judge_30 : decode cX11_judge 30 = .ok (.iload_n 1, 1) := by decide +kernel
theorem dX11_judge_31 : decode cX11_judge 31 = .ok (.iaload, 1) := by decide +kernel
theorem dX11_judge_32 : decode cX11_judge 32 = .ok (.iconst 2, 1) := by decide +kernel
theorem dX11_judge_33 : decode cX11_judge 33 = .ok (.idiv, 1) := by decide +kernel
theorem dX11_judge_34 : decode cX11_judge 34 = .ok (.if_icmp .ge 61, 3) := by decide +kernel
theorem dX11_judge_37 : decode cX11_judge 37 = .ok (.aload_n 0, 1) := by decide +kernel
theorem dX11_judge_38 : decode cX11_judge 38 = .ok (.iload_n 1, 1) := by decide +kernel
theorem dX11_judge_39 : decode cX11_judge 39 = .ok (.iload 5, 2) := by decide +kernel
theorem dX11_judge_41 : decode cX11_judge 41 = .ok (.iload_n 3, 1) := by decide +kernel
theorem dX11_judge_42 : decode cX11_judge 42 = .ok (.iload 4, 2) := by decide +kernel
theorem dX11_judge_44 : decode cX11_judge 44 = .ok (.invokevirtual 312, 3) := by decide +kernel
theorem dX11_judge_47 : decode cX11_judge 47 = .ok (.ifCond .ne 6, 3) := by decide +kernel
theorem dX11_judge_50 : decode cX11_judge 50 = .ok (.iload 5, 2) := by decide +kernel
theorem dX11_judge_52 : decode cX11_judge 52 = .ok (.ireturn, 1) := by decide +kernel
theorem dX11_judge_53 : decode cX11_judge 53 = .ok (.aload_n 0, 1) := by decide +kernel
theorem dX11_judge_54 : decode cX11_judge 54 = .ok (.getfield 61, 3) := by decide +kernel
theorem dX11_judge_57 : decode cX11_judge 57 = .ok (.bipush 40, 2) := by decide +kernel
theorem dX11_judge_59 : decode cX11_judge 59 = .ok (.iload_n 1, 1) := by decide +kernel
theorem dX11_judge_60 : decode cX11_judge 60 = .ok (.imul, 1) := by decide +kernel
theorem dX11_judge_61 : decode cX11_judge 61 = .ok (.iconst 2, 1) := by decide +kernel
theorem dX11_judge_62 : decode cX11_judge 62 = .ok (.iload 5, 2) := by decide +kernel
theorem dX11_judge_64 : decode cX11_judge 64 = .ok (.imul, 1) := by decide +kernel
theorem dX11_judge_65 : decode cX11_judge 65 = .ok (.iadd, 1) := by decide +kernel
theorem dX11_judge_66 : decode cX11_judge 66 = .ok (.iaload, 1) := by decide +kernel
theorem dX11_judge_67 : decode cX11_judge 67 = .ok (.istore_n 3, 1) := by decide +kernel
theorem dX11_judge_68 : decode cX11_judge 68 = .ok (.iload 4, 2) := by decide +kernel
theorem dX11_judge_70 : decode cX11_judge 70 = .ok (.aload_n 0, 1) := by decide +kernel
theorem dX11_judge_71 : decode cX11_judge 71 = .ok (.getfield 61, 3) := by decide +kernel
theorem dX11_judge_74 : decode cX11_judge 74 = .ok (.bipush 40, 2) := by decide +kernel
theorem dX11_judge_76 : decode cX11_judge 76 = .ok (.iload_n 1, 1) := by decide +kernel
theorem dX11_judge_77 : decode cX11_judge 77 = .ok (.imul, 1) := by decide +kernel
theorem dX11_judge_78 : decode cX11_judge 78 = .ok (.iconst 2, 1) := by decide +kernel
theorem dX11_judge_79 : decode cX11_judge 79 = .ok (.iload 5, 2) := by decide +kernel
theorem dX11_judge_81 : decode cX11_judge 81 = .ok (.imul, 1) := by decide +kernel
theorem dX11_judge_82 : decode cX11_judge 82 = .ok (.iadd, 1) := by decide +kernel
theorem dX11_judge_83 : decode cX11_judge 83 = .ok (.iconst 1, 1) := by decide +kernel
theorem dX11_judge_84 : decode cX11_judge 84 = .ok (.iadd, 1) := by decide +kernel
theorem dX11_judge_85 : decode cX11_judge 85 = .ok (.iaload, 1) := by decide +kernel
theorem dX11_judge_86 : decode cX11_judge 86 = .ok (.ior, 1) := by decide +kernel
theorem dX11_judge_87 : decode cX11_judge 87 = .ok (.istore 4, 2) := by decide +kernel
theorem dX11_judge_89 : decode cX11_judge 89 = .ok (.iinc 5 1, 3) := by decide +kernel
theorem dX11_judge_92 : decode cX11_judge 92 = .ok (.goto (-68), 3) := by decide +kernel
theorem dX11_judge_95 : decode cX11_judge 95 = .ok (.iconst (-1), 1) := by decide +kernel
theorem dX11_judge_96 : decode cX11_judge 96 = .ok (.ireturn, 1) := by decide +kernel
theorem dX11_rowsOfDay_0 : decode cX11_rowsOfDay 0 = .ok (.iconst 0, 1) := by decide +kernel
theorem dX11_rowsOfDay_1 : decode cX11_rowsOfDay 1 = .ok (.istore_n 1, 1) := by decide +kernel
theorem dX11_rowsOfDay_2 : decode cX11_rowsOfDay 2 = .ok (.iconst 0, 1) := by decide +kernel
theorem dX11_rowsOfDay_3 : decode cX11_rowsOfDay 3 = .ok (.istore_n 2, 1) := by decide +kernel
theorem dX11_rowsOfDay_4 : decode cX11_rowsOfDay 4 = .ok (.iload_n 2, 1) := by decide +kernel
theorem dX11_rowsOfDay_5 : decode cX11_rowsOfDay 5 = .ok (.bipush 10, 2) := by decide +kernel
theorem dX11_rowsOfDay_7 : decode cX11_rowsOfDay 7 = .ok (.if_icmp .ge 26, 3) := by decide +kernel
theorem dX11_rowsOfDay_10 : decode cX11_rowsOfDay 10 = .ok (.iload_n 1, 1) := by decide +kernel
theorem dX11_rowsOfDay_11 : decode cX11_rowsOfDay 11 = .ok (.aload_n 0, 1) := by decide +kernel
theorem dX11_rowsOfDay_12 : decode cX11_rowsOfDay 12 = .ok (.getfield 94, 3) := by decide +kernel
theorem dX11_rowsOfDay_15 : decode cX11_rowsOfDay 15 = .ok (.iload_n 2, 1) := by decide +kernel
theorem dX11_rowsOfDay_16 : decode cX11_rowsOfDay 16 = .ok (.iaload, 1) := by decide +kernel
theorem dX11_rowsOfDay_17 : decode cX11_rowsOfDay 17 = .ok (.ifCond .eq 7, 3) := by decide +kernel
theorem dX11_rowsOfDay_20 : decode cX11_rowsOfDay 20 = .ok (.iconst 1, 1) := by decide +kernel
theorem dX11_rowsOfDay_21 : decode cX11_rowsOfDay 21 = .ok (.goto 4, 3) := by decide +kernel
theorem dX11_rowsOfDay_24 : decode cX11_rowsOfDay 24 = .ok (.iconst 0, 1) := by decide +kernel
theorem dX11_rowsOfDay_25 : decode cX11_rowsOfDay 25 = .ok (.iadd, 1) := by decide +kernel
theorem dX11_rowsOfDay_26 : decode cX11_rowsOfDay 26 = .ok (.istore_n 1, 1) := by decide +kernel
theorem dX11_rowsOfDay_27 : decode cX11_rowsOfDay 27 = .ok (.iinc 2 1, 3) := by decide +kernel
theorem dX11_rowsOfDay_30 : decode cX11_rowsOfDay 30 = .ok (.goto (-26), 3) := by decide +kernel
theorem dX11_rowsOfDay_33 : decode cX11_rowsOfDay 33 = .ok (.iload_n 1, 1) := by decide +kernel
theorem dX11_rowsOfDay_34 : decode cX11_rowsOfDay 34 = .ok (.ireturn, 1) := by decide +kernel
theorem dX11_areRows_0 : decode cX11_areRows 0 = .ok (.aload_n 0, 1) := by decide +kernel
theorem dX11_areRows_1 : decode cX11_areRows 1 = .ok (.bipush 10, 2) := by decide +kernel
theorem dX11_areRows_3 : decode cX11_areRows 3 = .ok (.invokevirtual 303, 3) := by decide +kernel
theorem dX11_areRows_6 : decode cX11_areRows 6 = .ok (.iconst 0, 1) := by decide +kernel
theorem dX11_areRows_7 : decode cX11_areRows 7 = .ok (.istore_n 2, 1) := by decide +kernel
theorem dX11_areRows_8 : decode cX11_areRows 8 = .ok (.iconst 0, 1) := by decide +kernel
theorem dX11_areRows_9 : decode cX11_areRows 9 = .ok (.istore_n 3, 1) := by decide +kernel
theorem dX11_areRows_10 : decode cX11_areRows 10 = .ok (.iload_n 3, 1) := by decide +kernel
theorem dX11_areRows_11 : decode cX11_areRows 11 = .ok (.bipush 10, 2) := by decide +kernel
theorem dX11_areRows_13 : decode cX11_areRows 13 = .ok (.if_icmp .ge 76, 3) := by decide +kernel
theorem dX11_areRows_16 : decode cX11_areRows 16 = .ok (.aload_n 0, 1) := by decide +kernel
theorem dX11_areRows_17 : decode cX11_areRows 17 = .ok (.getfield 94, 3) := by decide +kernel
theorem dX11_areRows_20 : decode cX11_areRows 20 = .ok (.iload_n 3, 1) := by decide +kernel
theorem dX11_areRows_21 : decode cX11_areRows 21 = .ok (.iaload, 1) := by decide +kernel
theorem dX11_areRows_22 : decode cX11_areRows 22 = .ok (.ifCond .eq 61, 3) := by decide +kernel
theorem dX11_areRows_25 : decode cX11_areRows 25 = .ok (.iconst 2, 1) := by decide +kernel
theorem dX11_areRows_26 : decode cX11_areRows 26 = .ok (.iload_n 2, 1) := by decide +kernel
theorem dX11_areRows_27 : decode cX11_areRows 27 = .ok (.imul, 1) := by decide +kernel
theorem dX11_areRows_28 : decode cX11_areRows 28 = .ok (.aload_n 0, 1) := by decide +kernel
theorem dX11_areRows_29 : decode cX11_areRows 29 = .ok (.getfield 58, 3) := by decide +kernel
theorem dX11_areRows_32 : decode cX11_areRows 32 = .ok (.iload_n 1, 1) := by decide +kernel
theorem dX11_areRows_33 : decode cX11_areRows 33 = .ok (.iaload, 1) := by decide +kernel
theorem dX11_areRows_34 : decode cX11_areRows 34 = .ok (.if_icmp .ge 44, 3) := by decide +kernel
theorem dX11_areRows_37 : decode cX11_areRows 37 = .ok (.aload_n 0, 1) := by decide +kernel
theorem dX11_areRows_38 : decode cX11_areRows 38 = .ok (.getfield 61, 3) := by decide +kernel
theorem dX11_areRows_41 : decode cX11_areRows 41 = .ok (.bipush 40, 2) := by decide +kernel
theorem dX11_areRows_43 : decode cX11_areRows 43 = .ok (.iload_n 1, 1) := by decide +kernel
theorem dX11_areRows_44 : decode cX11_areRows 44 = .ok (.imul, 1) := by decide +kernel
theorem dX11_areRows_45 : decode cX11_areRows 45 = .ok (.iconst 2, 1) := by decide +kernel
theorem dX11_areRows_46 : decode cX11_areRows 46 = .ok (.iload_n 2, 1) := by decide +kernel
theorem dX11_areRows_47 : decode cX11_areRows 47 = .ok (.imul, 1) := by decide +kernel
theorem dX11_areRows_48 : decode cX11_areRows 48 = .ok (.iadd, 1) := by decide +kernel
theorem dX11_areRows_49 : decode cX11_areRows 49 = .ok (.iaload, 1) := by decide +kernel
theorem dX11_areRows_50 : decode cX11_areRows 50 = .ok (.iload_n 3, 1) := by decide +kernel
theorem dX11_areRows_51 : decode cX11_areRows 51 = .ok (.if_icmp .ne 27, 3) := by decide +kernel
theorem dX11_areRows_54 : decode cX11_areRows 54 = .ok (.aload_n 0, 1) := by decide +kernel
theorem dX11_areRows_55 : decode cX11_areRows 55 = .ok (.getfield 61, 3) := by decide +kernel
theorem dX11_areRows_58 : decode cX11_areRows 58 = .ok (.bipush 40, 2) := by decide +kernel
theorem dX11_areRows_60 : decode cX11_areRows 60 = .ok (.iload_n 1, 1) := by decide +kernel
theorem dX11_areRows_61 : decode cX11_areRows 61 = .ok (.imul, 1) := by decide +kernel
theorem dX11_areRows_62 : decode cX11_areRows 62 = .ok (.iconst 2, 1) := by decide +kernel
theorem dX11_areRows_63 : decode cX11_areRows 63 = .ok (.iload_n 2, 1) := by decide +kernel
theorem dX11_areRows_64 : decode cX11_areRows 64 = .ok (.imul, 1) := by decide +kernel
theorem dX11_areRows_65 : decode cX11_areRows 65 = .ok (.iadd, 1) := by decide +kernel
theorem dX11_areRows_66 : decode cX11_areRows 66 = .ok (.iconst 1, 1) := by decide +kernel
theorem dX11_areRows_67 : decode cX11_areRows 67 = .ok (.iadd, 1) := by decide +kernel
theorem dX11_areRows_68 : decode cX11_areRows 68 = .ok (.iaload, 1) := by decide +kernel
theorem dX11_areRows_69 : decode cX11_areRows 69 = .ok (.aload_n 0, 1) := by decide +kernel
theorem dX11_areRows_70 : decode cX11_areRows 70 = .ok (.getfield 94, 3) := by decide +kernel
theorem dX11_areRows_73 : decode cX11_areRows 73 = .ok (.iload_n 3, 1) := by decide +kernel
theorem dX11_areRows_74 : decode cX11_areRows 74 = .ok (.iaload, 1) := by decide +kernel
theorem dX11_areRows_75 : decode cX11_areRows 75 = .ok (.if_icmp .eq 5, 3) := by decide +kernel
theorem dX11_areRows_78 : decode cX11_areRows 78 = .ok (.iconst 0, 1) := by decide +kernel
theorem dX11_areRows_79 : decode cX11_areRows 79 = .ok (.ireturn, 1) := by decide +kernel
theorem dX11_areRows_80 : decode cX11_areRows 80 = .ok (.iinc 2 1, 3) := by decide +kernel
theorem dX11_areRows_83 : decode cX11_areRows 83 = .ok (.iinc 3 1, 3) := by decide +kernel
theorem dX11_areRows_86 : decode cX11_areRows 86 = .ok (.goto (-76), 3) := by decide +kernel
theorem dX11_areRows_89 : decode cX11_areRows 89 = .ok (.iconst 2, 1) := by decide +kernel
theorem dX11_areRows_90 : decode cX11_areRows 90 = .ok (.iload_n 2, 1) := by decide +kernel
theorem dX11_areRows_91 : decode cX11_areRows 91 = .ok (.imul, 1) := by decide +kernel
theorem dX11_areRows_92 : decode cX11_areRows 92 = .ok (.aload_n 0, 1) := by decide +kernel
theorem dX11_areRows_93 : decode cX11_areRows 93 = .ok (.getfield 58, 3) := by decide +kernel
theorem dX11_areRows_96 : decode cX11_areRows 96 = .ok (.iload_n 1, 1) := by decide +kernel
theorem dX11_areRows_97 : decode cX11_areRows 97 = .ok (.iaload, 1) := by decide +kernel
theorem dX11_areRows_98 : decode cX11_areRows 98 = .ok (.if_icmp .ne 7, 3) := by decide +kernel
theorem dX11_areRows_101 : decode cX11_areRows 101 = .ok (.iconst 1, 1) := by decide +kernel
theorem dX11_areRows_102 : decode cX11_areRows 102 = .ok (.goto 4, 3) := by decide +kernel
theorem dX11_areRows_105 : decode cX11_areRows 105 = .ok (.iconst 0, 1) := by decide +kernel
theorem dX11_areRows_106 : decode cX11_areRows 106 = .ok (.ireturn, 1) := by decide +kernel
theorem dX11_laws_0 : decode cX11_laws 0 = .ok (.aload_n 0, 1) := by decide +kernel
theorem dX11_laws_1 : decode cX11_laws 1 = .ok (.iload_n 1, 1) := by decide +kernel
theorem dX11_laws_2 : decode cX11_laws 2 = .ok (.invokevirtual 309, 3) := by decide +kernel
theorem dX11_laws_5 : decode cX11_laws 5 = .ok (.istore_n 2, 1) := by decide +kernel
theorem dX11_laws_6 : decode cX11_laws 6 = .ok (.iload_n 2, 1) := by decide +kernel
theorem dX11_laws_7 : decode cX11_laws 7 = .ok (.ifCond .eq 5, 3) := by decide +kernel
theorem dX11_laws_10 : decode cX11_laws 10 = .ok (.iload_n 2, 1) := by decide +kernel
theorem dX11_laws_11 : decode cX11_laws 11 = .ok (.ireturn, 1) := by decide +kernel
theorem dX11_laws_12 : decode cX11_laws 12 = .ok (.aload_n 0, 1) := by decide +kernel
theorem dX11_laws_13 : decode cX11_laws 13 = .ok (.getfield 124, 3) := by decide +kernel
theorem dX11_laws_16 : decode cX11_laws 16 = .ok (.istore_n 3, 1) := by decide +kernel
theorem dX11_laws_17 : decode cX11_laws 17 = .ok (.iconst 0, 1) := by decide +kernel
theorem dX11_laws_18 : decode cX11_laws 18 = .ok (.istore 4, 2) := by decide +kernel
theorem dX11_laws_20 : decode cX11_laws 20 = .ok (.iconst 0, 1) := by decide +kernel
theorem dX11_laws_21 : decode cX11_laws 21 = .ok (.istore 5, 2) := by decide +kernel
theorem dX11_laws_23 : decode cX11_laws 23 = .ok (.iload 5, 2) := by decide +kernel
theorem dX11_laws_25 : decode cX11_laws 25 = .ok (.aload_n 0, 1) := by decide +kernel
theorem dX11_laws_26 : decode cX11_laws 26 = .ok (.getfield 121, 3) := by decide +kernel
theorem dX11_laws_29 : decode cX11_laws 29 = .ok (.if_icmp .ge 36, 3) := by decide +kernel
theorem dX11_laws_32 : decode cX11_laws 32 = .ok (.aload_n 0, 1) := by decide +kernel
theorem dX11_laws_33 : decode cX11_laws 33 = .ok (.iload 5, 2) := by decide +kernel
theorem dX11_laws_35 : decode cX11_laws 35 = .ok (.putfield 124, 3) := by decide +kernel
theorem dX11_laws_38 : decode cX11_laws 38 = .ok (.iload 4, 2) := by decide +kernel
theorem dX11_laws_40 : decode cX11_laws 40 = .ok (.aload_n 0, 1) := by decide +kernel
theorem dX11_laws_41 : decode cX11_laws 41 = .ok (.iload_n 1, 1) := by decide +kernel
theorem dX11_laws_42 : decode cX11_laws 42 = .ok (.invokevirtual 316, 3) := by decide +kernel
theorem dX11_laws_45 : decode cX11_laws 45 = .ok (.ifCond .eq 10, 3) := by decide +kernel
theorem dX11_laws_48 : decode cX11_laws 48 = .ok (.iconst 1, 1) := by decide +kernel
theorem dX11_laws_49 : decode cX11_laws 49 = .ok (.iload 5, 2) := by decide +kernel
theorem dX11_laws_51 : decode cX11_laws 51 = .ok (.ishl, 1) := by decide +kernel
theorem dX11_laws_52 : decode cX11_laws 52 = .ok (.goto 4, 3) := by decide +kernel
theorem dX11_laws_55 : decode cX11_laws 55 = .ok (.iconst 0, 1) := by decide +kernel
theorem dX11_laws_56 : decode cX11_laws 56 = .ok (.ior, 1) := by decide +kernel
theorem dX11_laws_57 : decode cX11_laws 57 = .ok (.istore 4, 2) := by decide +kernel
theorem dX11_laws_59 : decode cX11_laws 59 = .ok (.iinc 5 1, 3) := by decide +kernel
theorem dX11_laws_62 : decode cX11_laws 62 = .ok (.goto (-39), 3) := by decide +kernel
theorem dX11_laws_65 : decode cX11_laws 65 = .ok (.aload_n 0, 1) := by decide +kernel
theorem dX11_laws_66 : decode cX11_laws 66 = .ok (.iload_n 3, 1) := by decide +kernel
theorem dX11_laws_67 : decode cX11_laws 67 = .ok (.putfield 124, 3) := by decide +kernel
theorem dX11_laws_70 : decode cX11_laws 70 = .ok (.iload 4, 2) := by decide +kernel
theorem dX11_laws_72 : decode cX11_laws 72 = .ok (.ireturn, 1) := by decide +kernel
theorem dX11_film_0 : decode cX11_film 0 = .ok (.iload_n 1, 1) := by decide +kernel
theorem dX11_film_1 : decode cX11_film 1 = .ok (.iconst 0, 1) := by decide +kernel
theorem dX11_film_2 : decode cX11_film 2 = .ok (.iconst 3, 1) := by decide +kernel
theorem dX11_film_3 : decode cX11_film 3 = .ok (.invokestatic 114, 3) := by decide +kernel
theorem dX11_film_6 : decode cX11_film 6 = .ok (.ifCond .ne 6, 3) := by decide +kernel
theorem dX11_film_9 : decode cX11_film 9 = .ok (.bipush (-2), 2) := by decide +kernel
theorem dX11_film_11 : decode cX11_film 11 = .ok (.ireturn, 1) := by decide +kernel
theorem dX11_film_12 : decode cX11_film 12 = .ok (.aload_n 0, 1) := by decide +kernel
theorem dX11_film_13 : decode cX11_film 13 = .ok (.bipush 10, 2) := by decide +kernel
theorem dX11_film_15 : decode cX11_film 15 = .ok (.invokevirtual 303, 3) := by decide +kernel
theorem dX11_film_18 : decode cX11_film 18 = .ok (.iconst 0, 1) := by decide +kernel
theorem dX11_film_19 : decode cX11_film 19 = .ok (.istore_n 2, 1) := by decide +kernel
theorem dX11_film_20 : decode cX11_film 20 = .ok (.iload_n 2, 1) := by decide +kernel
theorem dX11_film_21 : decode cX11_film 21 = .ok (.bipush 40, 2) := by decide +kernel
theorem dX11_film_23 : decode cX11_film 23 = .ok (.if_icmp .ge 21, 3) := by decide +kernel
theorem dX11_film_26 : decode cX11_film 26 = .ok (.aload_n 0, 1) := by decide +kernel
theorem dX11_film_27 : decode cX11_film 27 = .ok (.getfield 61, 3) := by decide +kernel
theorem dX11_film_30 : decode cX11_film 30 = .ok (.bipush 40, 2) := by decide +kernel
theorem dX11_film_32 : decode cX11_film 32 = .ok (.iload_n 1, 1) := by decide +kernel
theorem dX11_film_33 : decode cX11_film 33 = .ok (.imul, 1) := by decide +kernel
theorem dX11_film_34 : decode cX11_film 34 = .ok (.iload_n 2, 1) := by decide +kernel
theorem dX11_film_35 : decode cX11_film 35 = .ok (.iadd, 1) := by decide +kernel
theorem dX11_film_36 : decode cX11_film 36 = .ok (.iconst 0, 1) := by decide +kernel
theorem dX11_film_37 : decode cX11_film 37 = .ok (.iastore, 1) := by decide +kernel
theorem dX11_film_38 : decode cX11_film 38 = .ok (.iinc 2 1, 3) := by decide +kernel
theorem dX11_film_41 : decode cX11_film 41 = .ok (.goto (-21), 3) := by decide +kernel
theorem dX11_film_44 : decode cX11_film 44 = .ok (.iconst 0, 1) := by decide +kernel
theorem dX11_film_45 : decode cX11_film 45 = .ok (.istore_n 2, 1) := by decide +kernel
theorem dX11_film_46 : decode cX11_film 46 = .ok (.iconst 0, 1) := by decide +kernel
theorem dX11_film_47 : decode cX11_film 47 = .ok (.istore_n 3, 1) := by decide +kernel
theorem dX11_film_48 : decode cX11_film 48 = .ok (.iload_n 3, 1) := by decide +kernel
theorem dX11_film_49 : decode cX11_film 49 = .ok (.bipush 10, 2) := by decide +kernel
theorem dX11_film_51 : decode cX11_film 51 = .ok (.if_icmp .ge 56, 3) := by decide +kernel
theorem dX11_film_54 : decode cX11_film 54 = .ok (.aload_n 0, 1) := by decide +kernel
theorem dX11_film_55 : decode cX11_film 55 = .ok (.getfield 94, 3) := by decide +kernel
theorem dX11_film_58 : decode cX11_film 58 = .ok (.iload_n 3, 1) := by decide +kernel
theorem dX11_film_59 : decode cX11_film 59 = .ok (.iaload, 1) := by decide +kernel
theorem dX11_film_60 : decode cX11_film 60 = .ok (.ifCond .eq 41, 3) := by decide +kernel
theorem dX11_film_63 : decode cX11_film 63 = .ok (.aload_n 0, 1) := by decide +kernel
theorem dX11_film_64 : decode cX11_film 64 = .ok (.getfield 61, 3) := by decide +kernel
theorem dX11_film_67 : decode cX11_film 67 = .ok (.bipush 40, 2) := by decide +kernel
theorem dX11_film_69 : decode cX11_film 69 = .ok (.iload_n 1, 1) := by decide +kernel
theorem dX11_film_70 : decode cX11_film 70 = .ok (.imul, 1) := by decide +kernel
theorem dX11_film_71 : decode cX11_film 71 = .ok (.iconst 2, 1) := by decide +kernel
theorem dX11_film_72 : decode cX11_film 72 = .ok (.iload_n 2, 1) := by decide +kernel
theorem dX11_film_73 : decode cX11_film 73 = .ok (.imul, 1) := by decide +kernel
theorem dX11_film_74 : decode cX11_film 74 = .ok (.iadd, 1) := by decide +kernel
theorem dX11_film_75 : decode cX11_film 75 = .ok (.iload_n 3, 1) := by decide +kernel
theorem dX11_film_76 : decode cX11_film 76 = .ok (.iastore, 1) := by decide +kernel
theorem dX11_film_77 : decode cX11_film 77 = .ok (.aload_n 0, 1) := by decide +kernel
theorem dX11_film_78 : decode cX11_film 78 = .ok (.getfield 61, 3) := by decide +kernel
theorem dX11_film_81 : decode cX11_film 81 = .ok (.bipush 40, 2) := by decide +kernel
theorem dX11_film_83 : decode cX11_film 83 = .ok (.iload_n 1, 1) := by decide +kernel
theorem dX11_film_84 : decode cX11_film 84 = .ok (.imul, 1) := by decide +kernel
theorem dX11_film_85 : decode cX11_film 85 = .ok (.iconst 2, 1) := by decide +kernel
theorem dX11_film_86 : decode cX11_film 86 = .ok (.iload_n 2, 1) := by decide +kernel
theorem dX11_film_87 : decode cX11_film 87 = .ok (.imul, 1) := by decide +kernel
theorem dX11_film_88 : decode cX11_film 88 = .ok (.iadd, 1) := by decide +kernel
theorem dX11_film_89 : decode cX11_film 89 = .ok (.iconst 1, 1) := by decide +kernel
theorem dX11_film_90 : decode cX11_film 90 = .ok (.iadd, 1) := by decide +kernel
theorem dX11_film_91 : decode cX11_film 91 = .ok (.aload_n 0, 1) := by decide +kernel
theorem dX11_film_92 : decode cX11_film 92 = .ok (.getfield 94, 3) := by decide +kernel
theorem dX11_film_95 : decode cX11_film 95 = .ok (.iload_n 3, 1) := by decide +kernel
theorem dX11_film_96 : decode cX11_film 96 = .ok (.iaload, 1) := by decide +kernel
theorem dX11_film_97 : decode cX11_film 97 = .ok (.iastore, 1) := by decide +kernel
theorem dX11_film_98 : decode cX11_film 98 = .ok (.iinc 2 1, 3) := by decide +kernel
theorem dX11_film_101 : decode cX11_film 101 = .ok (.iinc 3 1, 3) := by decide +kernel
theorem dX11_film_104 : decode cX11_film 104 = .ok (.goto (-56), 3) := by decide +kernel
theorem dX11_film_107 : decode cX11_film 107 = .ok (.aload_n 0, 1) := by decide +kernel
theorem dX11_film_108 : decode cX11_film 108 = .ok (.getfield 55, 3) := by decide +kernel
theorem dX11_film_111 : decode cX11_film 111 = .ok (.iload_n 1, 1) := by decide +kernel
theorem dX11_film_112 : decode cX11_film 112 = .ok (.iconst 2, 1) := by decide +kernel
theorem dX11_film_113 : decode cX11_film 113 = .ok (.iastore, 1) := by decide +kernel
theorem dX11_film_114 : decode cX11_film 114 = .ok (.aload_n 0, 1) := by decide +kernel
theorem dX11_film_115 : decode cX11_film 115 = .ok (.getfield 58, 3) := by decide +kernel
theorem dX11_film_118 : decode cX11_film 118 = .ok (.iload_n 1, 1) := by decide +kernel
theorem dX11_film_119 : decode cX11_film 119 = .ok (.iconst 2, 1) := by decide +kernel
theorem dX11_film_120 : decode cX11_film 120 = .ok (.iload_n 2, 1) := by decide +kernel
theorem dX11_film_121 : decode cX11_film 121 = .ok (.imul, 1) := by decide +kernel
theorem dX11_film_122 : decode cX11_film 122 = .ok (.iastore, 1) := by decide +kernel
theorem dX11_film_123 : decode cX11_film 123 = .ok (.aload_n 0, 1) := by decide +kernel
theorem dX11_film_124 : decode cX11_film 124 = .ok (.invokevirtual 319, 3) := by decide +kernel
theorem dX11_film_127 : decode cX11_film 127 = .ok (.ireturn, 1) := by decide +kernel
theorem dX11_lost_0 : decode cX11_lost 0 = .ok (.iload_n 1, 1) := by decide +kernel
theorem dX11_lost_1 : decode cX11_lost 1 = .ok (.invokestatic 208, 3) := by decide +kernel
theorem dX11_lost_4 : decode cX11_lost 4 = .ok (.ifCond .ne 6, 3) := by decide +kernel
theorem dX11_lost_7 : decode cX11_lost 7 = .ok (.bipush (-5), 2) := by decide +kernel
theorem dX11_lost_9 : decode cX11_lost 9 = .ok (.ireturn, 1) := by decide +kernel
theorem dX11_lost_10 : decode cX11_lost 10 = .ok (.iload_n 2, 1) := by decide +kernel
theorem dX11_lost_11 : decode cX11_lost 11 = .ok (.iconst 0, 1) := by decide +kernel
theorem dX11_lost_12 : decode cX11_lost 12 = .ok (.bipush 10, 2) := by decide +kernel
theorem dX11_lost_14 : decode cX11_lost 14 = .ok (.invokestatic 114, 3) := by decide +kernel
theorem dX11_lost_17 : decode cX11_lost 17 = .ok (.ifCond .eq 24, 3) := by decide +kernel
theorem dX11_lost_20 : decode cX11_lost 20 = .ok (.iload_n 3, 1) := by decide +kernel
theorem dX11_lost_21 : decode cX11_lost 21 = .ok (.iconst 0, 1) := by decide +kernel
theorem dX11_lost_22 : decode cX11_lost 22 = .ok (.sipush 9999, 3) := by decide +kernel
theorem dX11_lost_25 : decode cX11_lost 25 = .ok (.invokestatic 114, 3) := by decide +kernel
theorem dX11_lost_28 : decode cX11_lost 28 = .ok (.ifCond .eq 13, 3) := by decide +kernel
theorem dX11_lost_31 : decode cX11_lost 31 = .ok (.iload 4, 2) := by decide +kernel
theorem dX11_lost_33 : decode cX11_lost 33 = .ok (.iconst 0, 1) := by decide +kernel
theorem dX11_lost_34 : decode cX11_lost 34 = .ok (.iconst 2, 1) := by decide +kernel
theorem dX11_lost_35 : decode cX11_lost 35 = .ok (.invokestatic 114, 3) := by decide +kernel
theorem dX11_lost_38 : decode cX11_lost 38 = .ok (.ifCond .ne 6, 3) := by decide +kernel
theorem dX11_lost_41 : decode cX11_lost 41 = .ok (.bipush (-7), 2) := by decide +kernel
theorem dX11_lost_43 : decode cX11_lost 43 = .ok (.ireturn, 1) := by decide +kernel
theorem dX11_lost_44 : decode cX11_lost 44 = .ok (.iconst 0, 1) := by decide +kernel
theorem dX11_lost_45 : decode cX11_lost 45 = .ok (.istore 5, 2) := by decide +kernel
theorem dX11_lost_47 : decode cX11_lost 47 = .ok (.sipush 1023, 3) := by decide +kernel
theorem dX11_lost_50 : decode cX11_lost 50 = .ok (.istore 6, 2) := by decide +kernel
theorem dX11_lost_52 : decode cX11_lost 52 = .ok (.iconst 0, 1) := by decide +kernel
theorem dX11_lost_53 : decode cX11_lost 53 = .ok (.istore 7, 2) := by decide +kernel
theorem dX11_lost_55 : decode cX11_lost 55 = .ok (.iconst 0, 1) := by decide +kernel
theorem dX11_lost_56 : decode cX11_lost 56 = .ok (.istore 8, 2) := by decide +kernel
theorem dX11_lost_58 : decode cX11_lost 58 = .ok (.iload 8, 2) := by decide +kernel
theorem dX11_lost_60 : decode cX11_lost 60 = .ok (.aload_n 0, 1) := by decide +kernel
theorem dX11_lost_61 : decode cX11_lost 61 = .ok (.invokevirtual 252, 3) := by decide +kernel
theorem dX11_lost_64 : decode cX11_lost 64 = .ok (.if_icmp .gt 89, 3) := by decide +kernel
theorem dX11_lost_67 : decode cX11_lost 67 = .ok (.iconst 0, 1) := by decide +kernel
theorem dX11_lost_68 : decode cX11_lost 68 = .ok (.istore 9, 2) := by decide +kernel
theorem dX11_lost_70 : decode cX11_lost 70 = .ok (.iconst 0, 1) := by decide +kernel
theorem dX11_lost_71 : decode cX11_lost 71 = .ok (.istore 10, 2) := by decide +kernel
theorem dX11_lost_73 : decode cX11_lost 73 = .ok (.iload 10, 2) := by decide +kernel
theorem dX11_lost_75 : decode cX11_lost 75 = .ok (.aload_n 0, 1) := by decide +kernel
theorem dX11_lost_76 : decode cX11_lost 76 = .ok (.getfield 111, 3) := by decide +kernel
theorem dX11_lost_79 : decode cX11_lost 79 = .ok (.if_icmp .ge 36, 3) := by decide +kernel
theorem dX11_lost_82 : decode cX11_lost 82 = .ok (.iload 9, 2) := by decide +kernel
theorem dX11_lost_84 : decode cX11_lost 84 = .ok (.iload 8, 2) := by decide +kernel
theorem dX11_lost_86 : decode cX11_lost 86 = .ok (.iload 10, 2) := by decide +kernel
theorem dX11_lost_88 : decode cX11_lost 88 = .ok (.ishr, 1) := by decide +kernel
theorem dX11_lost_89 : decode cX11_lost 89 = .ok (.iconst 1, 1) := by decide +kernel
theorem dX11_lost_90 : decode cX11_lost 90 = .ok (.iand, 1) := by decide +kernel
theorem dX11_lost_91 : decode cX11_lost 91 = .ok (.iconst 1, 1) := by decide +kernel
theorem dX11_lost_92 : decode cX11_lost 92 = .ok (.if_icmp .ne 13, 3) := by decide +kernel
theorem dX11_lost_95 : decode cX11_lost 95 = .ok (.aload_n 0, 1) := by decide +kernel
theorem dX11_lost_96 : decode cX11_lost 96 = .ok (.iload 10, 2) := by decide +kernel
theorem dX11_lost_98 : decode cX11_lost 98 = .ok (.iload_n 1, 1) := by decide +kernel
theorem dX11_lost_99 : decode cX11_lost 99 = .ok (.invokevirtual 211, 3) := by decide +kernel
theorem dX11_lost_102 : decode cX11_lost 102 = .ok (.goto 4, 3) := by decide +kernel
theorem dX11_lost_105 : decode cX11_lost 105 = .ok (.iconst 0, 1) := by decide +kernel
theorem dX11_lost_106 : decode cX11_lost 106 = .ok (.iadd, 1) := by decide +kernel
theorem dX11_lost_107 : decode cX11_lost 107 = .ok (.istore 9, 2) := by decide +kernel
theorem dX11_lost_109 : decode cX11_lost 109 = .ok (.iinc 10 1, 3) := by decide +kernel
theorem dX11_lost_112 : decode cX11_lost 112 = .ok (.goto (-39), 3) := by decide +kernel
theorem dX11_lost_115 : decode cX11_lost 115 = .ok (.iload 8, 2) := by decide +kernel
theorem dX11_lost_117 : decode cX11_lost 117 = .ok (.invokestatic 282, 3) := by decide +kernel
theorem dX11_lost_120 : decode cX11_lost 120 = .ok (.iload_n 2, 1) := by decide +kernel
theorem dX11_lost_121 : decode cX11_lost 121 = .ok (.if_icmp .ne 26, 3) := by decide +kernel
theorem dX11_lost_124 : decode cX11_lost 124 = .ok (.iload 9, 2) := by decide +kernel
theorem dX11_lost_126 : decode cX11_lost 126 = .ok (.iload_n 3, 1) := by decide +kernel
theorem dX11_lost_127 : decode cX11_lost 127 = .ok (.if_icmp .ne 20, 3) := by decide +kernel
theorem dX11_lost_130 : decode cX11_lost 130 = .ok (.iinc 5 1, 3) := by decide +kernel
theorem dX11_lost_133 : decode cX11_lost 133 = .ok (.iload 6, 2) := by decide +kernel
theorem dX11_lost_135 : decode cX11_lost 135 = .ok (.iload 8, 2) := by decide +kernel
theorem dX11_lost_137 : decode cX11_lost 137 = .ok (.iand, 1) := by decide +kernel
theorem dX11_lost_138 : decode cX11_lost 138 = .ok (.istore 6, 2) := by decide +kernel
theorem dX11_lost_140 : decode cX11_lost 140 = .ok (.iload 7, 2) := by decide +kernel
theorem dX11_lost_142 : decode cX11_lost 142 = .ok (.iload 8, 2) := by decide +kernel
theorem dX11_lost_144 : decode cX11_lost 144 = .ok (.ior, 1) := by decide +kernel
theorem dX11_lost_145 : decode cX11_lost 145 = .ok (.istore 7, 2) := by decide +kernel
theorem dX11_lost_147 : decode cX11_lost 147 = .ok (.iinc 8 1, 3) := by decide +kernel
theorem dX11_lost_150 : decode cX11_lost 150 = .ok (.goto (-92), 3) := by decide +kernel
theorem dX11_lost_153 : decode cX11_lost 153 = .ok (.iload 4, 2) := by decide +kernel
theorem dX11_lost_155 : decode cX11_lost 155 = .ok (.ifCond .ne 8, 3) := by decide +kernel
theorem dX11_lost_158 : decode cX11_lost 158 = .ok (.iload 5, 2) := by decide +kernel
theorem dX11_lost_160 : decode cX11_lost 160 = .ok (.goto 25, 3) := by decide +kernel
theorem dX11_lost_163 : decode cX11_lost 163 = .ok (.iload 4, 2) := by decide +kernel
theorem dX11_lost_165 : decode cX11_lost 165 = .ok (.iconst 2, 1) := by decide +kernel
theorem dX11_lost_166 : decode cX11_lost 166 = .ok (.if_icmp .ne 8, 3) := by decide +kernel
theorem dX11_lost_169 : decode cX11_lost 169 = .ok (.iload 7, 2) := by decide +kernel
theorem dX11_lost_171 : decode cX11_lost 171 = .ok (.goto 14, 3) := by decide +kernel
theorem dX11_lost_174 : decode cX11_lost 174 = .ok (.iload 5, 2) := by decide +kernel
theorem dX11_lost_176 : decode cX11_lost 176 = .ok (.ifCond .ne 7, 3) := by decide +kernel
theorem dX11_lost_179 : decode cX11_lost 179 = .ok (.iconst 0, 1) := by decide +kernel
theorem dX11_lost_180 : decode cX11_lost 180 = .ok (.goto 5, 3) := by decide +kernel
theorem dX11_lost_183 : decode cX11_lost 183 = .ok (.iload 6, 2) := by decide +kernel
theorem dX11_lost_185 : decode cX11_lost 185 = .ok (.ireturn, 1) := by decide +kernel
theorem dX11_draws_0 : decode cX11_draws 0 = .ok (.iload_n 1, 1) := by decide +kernel
theorem dX11_draws_1 : decode cX11_draws 1 = .ok (.i2l, 1) := by decide +kernel
theorem dX11_draws_2 : decode cX11_draws 2 = .ok (.lconst 1, 1) := by decide +kernel
theorem dX11_draws_3 : decode cX11_draws 3 = .ok (.ladd, 1) := by decide +kernel
theorem dX11_draws_4 : decode cX11_draws 4 = .ok (.lstore_n 2, 1) := by decide +kernel
theorem dX11_draws_5 : decode cX11_draws 5 = .ok (.iconst 0, 1) := by decide +kernel
theorem dX11_draws_6 : decode cX11_draws 6 = .ok (.istore 4, 2) := by decide +kernel
theorem dX11_draws_8 : decode cX11_draws 8 = .ok (.iload 4, 2) := by decide +kernel
theorem dX11_draws_10 : decode cX11_draws 10 = .ok (.bipush 10, 2) := by decide +kernel
theorem dX11_draws_12 : decode cX11_draws 12 = .ok (.if_icmp .ge 23, 3) := by decide +kernel
theorem dX11_draws_15 : decode cX11_draws 15 = .ok (.aload_n 0, 1) := by decide +kernel
theorem dX11_draws_16 : decode cX11_draws 16 = .ok (.getfield 101, 3) := by decide +kernel
theorem dX11_draws_19 : decode cX11_draws 19 = .ok (.iload 4, 2) := by decide +kernel
theorem dX11_draws_21 : decode cX11_draws 21 = .ok (.aload_n 0, 1) := by decide +kernel
theorem dX11_draws_22 : decode cX11_draws 22 = .ok (.getfield 31, 3) := by decide +kernel
theorem dX11_draws_25 : decode cX11_draws 25 = .ok (.iload 4, 2) := by decide +kernel
theorem dX11_draws_27 : decode cX11_draws 27 = .ok (.iaload, 1) := by decide +kernel
theorem dX11_draws_28 : decode cX11_draws 28 = .ok (.iastore, 1) := by decide +kernel
theorem dX11_draws_29 : decode cX11_draws 29 = .ok (.iinc 4 1, 3) := by decide +kernel
theorem dX11_draws_32 : decode cX11_draws 32 = .ok (.goto (-24), 3) := by decide +kernel
theorem dX11_draws_35 : decode cX11_draws 35 = .ok (.iconst 0, 1) := by decide +kernel
theorem dX11_draws_36 : decode cX11_draws 36 = .ok (.istore 4, 2) := by decide +kernel
theorem dX11_draws_38 : decode cX11_draws 38 = .ok (.iload 4, 2) := by decide +kernel
theorem dX11_draws_40 : decode cX11_draws 40 = .ok (.aload_n 0, 1) := by decide +kernel
theorem dX11_draws_41 : decode cX11_draws 41 = .ok (.getfield 111, 3) := by decide +kernel
theorem dX11_draws_44 : decode cX11_draws 44 = .ok (.if_icmp .ge 32, 3) := by decide +kernel
theorem dX11_draws_47 : decode cX11_draws 47 = .ok (.lload_n 2, 1) := by decide +kernel
theorem dX11_draws_48 : decode cX11_draws 48 = .ok (.ldc2_w 322, 3) := by decide +kernel
theorem dX11_draws_51 : decode cX11_draws 51 = .ok (.lmul, 1) := by decide +kernel
theorem dX11_draws_52 : decode cX11_draws 52 = .ok (.ldc2_w 324, 3) := by decide +kernel
theorem dX11_draws_55 : decode cX11_draws 55 = .ok (.lrem, 1) := by decide +kernel
theorem dX11_draws_56 : decode cX11_draws 56 = .ok (.lstore_n 2, 1) := by decide +kernel
theorem dX11_draws_57 : decode cX11_draws 57 = .ok (.aload_n 0, 1) := by decide +kernel
theorem dX11_draws_58 : decode cX11_draws 58 = .ok (.getfield 31, 3) := by decide +kernel
theorem dX11_draws_61 : decode cX11_draws 61 = .ok (.iload 4, 2) := by decide +kernel
theorem dX11_draws_63 : decode cX11_draws 63 = .ok (.lload_n 2, 1) := by decide +kernel
theorem dX11_draws_64 : decode cX11_draws 64 = .ok (.ldc2_w 326, 3) := by decide +kernel
theorem dX11_draws_67 : decode cX11_draws 67 = .ok (.lrem, 1) := by decide +kernel
theorem dX11_draws_68 : decode cX11_draws 68 = .ok (.l2i, 1) := by decide +kernel
theorem dX11_draws_69 : decode cX11_draws 69 = .ok (.iastore, 1) := by decide +kernel
theorem dX11_draws_70 : decode cX11_draws 70 = .ok (.iinc 4 1, 3) := by decide +kernel
theorem dX11_draws_73 : decode cX11_draws 73 = .ok (.goto (-35), 3) := by decide +kernel
theorem dX11_draws_76 : decode cX11_draws 76 = .ok (.aload_n 0, 1) := by decide +kernel
theorem dX11_draws_77 : decode cX11_draws 77 = .ok (.bipush 10, 2) := by decide +kernel
theorem dX11_draws_79 : decode cX11_draws 79 = .ok (.invokevirtual 303, 3) := by decide +kernel
theorem dX11_draws_82 : decode cX11_draws 82 = .ok (.iconst 0, 1) := by decide +kernel
theorem dX11_draws_83 : decode cX11_draws 83 = .ok (.istore 4, 2) := by decide +kernel
theorem dX11_draws_85 : decode cX11_draws 85 = .ok (.iload 4, 2) := by decide +kernel
theorem dX11_draws_87 : decode cX11_draws 87 = .ok (.bipush 10, 2) := by decide +kernel
theorem dX11_draws_89 : decode cX11_draws 89 = .ok (.if_icmp .ge 23, 3) := by decide +kernel
theorem dX11_draws_92 : decode cX11_draws 92 = .ok (.aload_n 0, 1) := by decide +kernel
theorem dX11_draws_93 : decode cX11_draws 93 = .ok (.getfield 31, 3) := by decide +kernel
theorem dX11_draws_96 : decode cX11_draws 96 = .ok (.iload 4, 2) := by decide +kernel
theorem dX11_draws_98 : decode cX11_draws 98 = .ok (.aload_n 0, 1) := by decide +kernel
theorem dX11_draws_99 : decode cX11_draws 99 = .ok (.getfield 101, 3) := by decide +kernel
theorem dX11_draws_102 : decode cX11_draws 102 = .ok (.iload 4, 2) := by decide +kernel
theorem dX11_draws_104 : decode cX11_draws 104 = .ok (.iaload, 1) := by decide +kernel
theorem dX11_draws_105 : decode cX11_draws 105 = .ok (.iastore, 1) := by decide +kernel
theorem dX11_draws_106 : decode cX11_draws 106 = .ok (.iinc 4 1, 3) := by decide +kernel
theorem dX11_draws_109 : decode cX11_draws 109 = .ok (.goto (-24), 3) := by decide +kernel
theorem dX11_draws_112 : decode cX11_draws 112 = .ok (.return_, 1) := by decide +kernel
theorem dX11_drawn_0 : decode cX11_drawn 0 = .ok (.iload_n 1, 1) := by decide +kernel
theorem dX11_drawn_1 : decode cX11_drawn 1 = .ok (.iconst 0, 1) := by decide +kernel
theorem dX11_drawn_2 : decode cX11_drawn 2 = .ok (.ldc_w 328, 3) := by decide +kernel
theorem dX11_drawn_5 : decode cX11_drawn 5 = .ok (.invokestatic 114, 3) := by decide +kernel
theorem dX11_drawn_8 : decode cX11_drawn 8 = .ok (.ifCond .eq 12, 3) := by decide +kernel
theorem dX11_drawn_11 : decode cX11_drawn 11 = .ok (.iload_n 2, 1) := by decide +kernel
theorem dX11_drawn_12 : decode cX11_drawn 12 = .ok (.iconst 0, 1) := by decide +kernel
theorem dX11_drawn_13 : decode cX11_drawn 13 = .ok (.iconst 1, 1) := by decide +kernel
theorem dX11_drawn_14 : decode cX11_drawn 14 = .ok (.invokestatic 114, 3) := by decide +kernel
theorem dX11_drawn_17 : decode cX11_drawn 17 = .ok (.ifCond .ne 6, 3) := by decide +kernel
theorem dX11_drawn_20 : decode cX11_drawn 20 = .ok (.bipush (-2), 2) := by decide +kernel
theorem dX11_drawn_22 : decode cX11_drawn 22 = .ok (.ireturn, 1) := by decide +kernel
theorem dX11_drawn_23 : decode cX11_drawn 23 = .ok (.aload_n 0, 1) := by decide +kernel
theorem dX11_drawn_24 : decode cX11_drawn 24 = .ok (.iload_n 1, 1) := by decide +kernel
theorem dX11_drawn_25 : decode cX11_drawn 25 = .ok (.invokevirtual 329, 3) := by decide +kernel
theorem dX11_drawn_28 : decode cX11_drawn 28 = .ok (.iload_n 2, 1) := by decide +kernel
theorem dX11_drawn_29 : decode cX11_drawn 29 = .ok (.ifCond .ne 10, 3) := by decide +kernel
theorem dX11_drawn_32 : decode cX11_drawn 32 = .ok (.aload_n 0, 1) := by decide +kernel
theorem dX11_drawn_33 : decode cX11_drawn 33 = .ok (.getfield 294, 3) := by decide +kernel
theorem dX11_drawn_36 : decode cX11_drawn 36 = .ok (.goto 7, 3) := by decide +kernel
theorem dX11_drawn_39 : decode cX11_drawn 39 = .ok (.aload_n 0, 1) := by decide +kernel
theorem dX11_drawn_40 : decode cX11_drawn 40 = .ok (.getfield 291, 3) := by decide +kernel
theorem dX11_drawn_43 : decode cX11_drawn 43 = .ok (.ireturn, 1) := by decide +kernel
theorem dX11_lowest_0 : decode cX11_lowest 0 = .ok (.lload_n 0, 1) := by decide +kernel
theorem dX11_lowest_1 : decode cX11_lowest 1 = .ok (.lconst 0, 1) := by decide +kernel
theorem dX11_lowest_2 : decode cX11_lowest 2 = .ok (.lcmp, 1) := by decide +kernel
theorem dX11_lowest_3 : decode cX11_lowest 3 = .ok (.ifCond .ne 7, 3) := by decide +kernel
theorem dX11_lowest_6 : decode cX11_lowest 6 = .ok (.iload 4, 2) := by decide +kernel
theorem dX11_lowest_8 : decode cX11_lowest 8 = .ok (.i2l, 1) := by decide +kernel
theorem dX11_lowest_9 : decode cX11_lowest 9 = .ok (.lreturn, 1) := by decide +kernel
theorem dX11_lowest_10 : decode cX11_lowest 10 = .ok (.lload_n 0, 1) := by decide +kernel
theorem dX11_lowest_11 : decode cX11_lowest 11 = .ok (.lstore 5, 2) := by decide +kernel
theorem dX11_lowest_13 : decode cX11_lowest 13 = .ok (.lload_n 2, 1) := by decide +kernel
theorem dX11_lowest_14 : decode cX11_lowest 14 = .ok (.lstore 7, 2) := by decide +kernel
theorem dX11_lowest_16 : decode cX11_lowest 16 = .ok (.lload 7, 2) := by decide +kernel
theorem dX11_lowest_18 : decode cX11_lowest 18 = .ok (.lconst 0, 1) := by decide +kernel
theorem dX11_lowest_19 : decode cX11_lowest 19 = .ok (.lcmp, 1) := by decide +kernel
theorem dX11_lowest_20 : decode cX11_lowest 20 = .ok (.ifCond .eq 21, 3) := by decide +kernel
theorem dX11_lowest_23 : decode cX11_lowest 23 = .ok (.lload 5, 2) := by decide +kernel
theorem dX11_lowest_25 : decode cX11_lowest 25 = .ok (.lload 7, 2) := by decide +kernel
theorem dX11_lowest_27 : decode cX11_lowest 27 = .ok (.lrem, 1) := by decide +kernel
theorem dX11_lowest_28 : decode cX11_lowest 28 = .ok (.lstore 9, 2) := by decide +kernel
theorem dX11_lowest_30 : decode cX11_lowest 30 = .ok (.lload 7, 2) := by decide +kernel
theorem dX11_lowest_32 : decode cX11_lowest 32 = .ok (.lstore 5, 2) := by decide +kernel
theorem dX11_lowest_34 : decode cX11_lowest 34 = .ok (.lload 9, 2) := by decide +kernel
theorem dX11_lowest_36 : decode cX11_lowest 36 = .ok (.lstore 7, 2) := by decide +kernel
theorem dX11_lowest_38 : decode cX11_lowest 38 = .ok (.goto (-22), 3) := by decide +kernel
theorem dX11_lowest_41 : decode cX11_lowest 41 = .ok (.iload 4, 2) := by decide +kernel
theorem dX11_lowest_43 : decode cX11_lowest 43 = .ok (.ifCond .ne 7, 3) := by decide +kernel
theorem dX11_lowest_46 : decode cX11_lowest 46 = .ok (.lload_n 0, 1) := by decide +kernel
theorem dX11_lowest_47 : decode cX11_lowest 47 = .ok (.goto 4, 3) := by decide +kernel
theorem dX11_lowest_50 : decode cX11_lowest 50 = .ok (.lload_n 2, 1) := by decide +kernel
theorem dX11_lowest_51 : decode cX11_lowest 51 = .ok (.lload 5, 2) := by decide +kernel
theorem dX11_lowest_53 : decode cX11_lowest 53 = .ok (.ldiv, 1) := by decide +kernel
theorem dX11_lowest_54 : decode cX11_lowest 54 = .ok (.lreturn, 1) := by decide +kernel
theorem dX11_odds_0 : decode cX11_odds 0 = .ok (.aload_n 0, 1) := by decide +kernel
theorem dX11_odds_1 : decode cX11_odds 1 = .ok (.iload_n 1, 1) := by decide +kernel
theorem dX11_odds_2 : decode cX11_odds 2 = .ok (.invokevirtual 202, 3) := by decide +kernel
theorem dX11_odds_5 : decode cX11_odds 5 = .ok (.ifCond .eq 34, 3) := by decide +kernel
theorem dX11_odds_8 : decode cX11_odds 8 = .ok (.iload_n 2, 1) := by decide +kernel
theorem dX11_odds_9 : decode cX11_odds 9 = .ok (.iconst 0, 1) := by decide +kernel
theorem dX11_odds_10 : decode cX11_odds 10 = .ok (.ldc_w 328, 3) := by decide +kernel
theorem dX11_odds_13 : decode cX11_odds 13 = .ok (.invokestatic 114, 3) := by decide +kernel
theorem dX11_odds_16 : decode cX11_odds 16 = .ok (.ifCond .eq 23, 3) := by decide +kernel
theorem dX11_odds_19 : decode cX11_odds 19 = .ok (.iload_n 3, 1) := by decide +kernel
theorem dX11_odds_20 : decode cX11_odds 20 = .ok (.iconst 1, 1) := by decide +kernel
theorem dX11_odds_21 : decode cX11_odds 21 = .ok (.bipush 10, 2) := by decide +kernel
theorem dX11_odds_23 : decode cX11_odds 23 = .ok (.invokestatic 114, 3) := by decide +kernel
theorem dX11_odds_26 : decode cX11_odds 26 = .ok (.ifCond .eq 13, 3) := by decide +kernel
theorem dX11_odds_29 : decode cX11_odds 29 = .ok (.iload 4, 2) := by decide +kernel
theorem dX11_odds_31 : decode cX11_odds 31 = .ok (.iconst 0, 1) := by decide +kernel
theorem dX11_odds_32 : decode cX11_odds 32 = .ok (.iconst 1, 1) := by decide +kernel
theorem dX11_odds_33 : decode cX11_odds 33 = .ok (.invokestatic 114, 3) := by decide +kernel
theorem dX11_odds_36 : decode cX11_odds 36 = .ok (.ifCond .ne 7, 3) := by decide +kernel
theorem dX11_odds_39 : decode cX11_odds 39 = .ok (.ldc2_w 332, 3) := by decide +kernel
theorem dX11_odds_42 : decode cX11_odds 42 = .ok (.lreturn, 1) := by decide +kernel
theorem dX11_odds_43 : decode cX11_odds 43 = .ok (.lconst 0, 1) := by decide +kernel
theorem dX11_odds_44 : decode cX11_odds 44 = .ok (.lstore 5, 2) := by decide +kernel
theorem dX11_odds_46 : decode cX11_odds 46 = .ok (.iconst 0, 1) := by decide +kernel
theorem dX11_odds_47 : decode cX11_odds 47 = .ok (.istore 7, 2) := by decide +kernel
theorem dX11_odds_49 : decode cX11_odds 49 = .ok (.iload 7, 2) := by decide +kernel
theorem dX11_odds_51 : decode cX11_odds 51 = .ok (.iload_n 3, 1) := by decide +kernel
theorem dX11_odds_52 : decode cX11_odds 52 = .ok (.if_icmp .ge 31, 3) := by decide +kernel
theorem dX11_odds_55 : decode cX11_odds 55 = .ok (.aload_n 0, 1) := by decide +kernel
theorem dX11_odds_56 : decode cX11_odds 56 = .ok (.iload_n 2, 1) := by decide +kernel
theorem dX11_odds_57 : decode cX11_odds 57 = .ok (.iload 7, 2) := by decide +kernel
theorem dX11_odds_59 : decode cX11_odds 59 = .ok (.iadd, 1) := by decide +kernel
theorem dX11_odds_60 : decode cX11_odds 60 = .ok (.invokevirtual 329, 3) := by decide +kernel
theorem dX11_odds_63 : decode cX11_odds 63 = .ok (.lload 5, 2) := by decide +kernel
theorem dX11_odds_65 : decode cX11_odds 65 = .ok (.aload_n 0, 1) := by decide +kernel
theorem dX11_odds_66 : decode cX11_odds 66 = .ok (.getfield 291, 3) := by decide +kernel
theorem dX11_odds_69 : decode cX11_odds 69 = .ok (.iload_n 1, 1) := by decide +kernel
theorem dX11_odds_70 : decode cX11_odds 70 = .ok (.ishr, 1) := by decide +kernel
theorem dX11_odds_71 : decode cX11_odds 71 = .ok (.iconst 1, 1) := by decide +kernel
theorem dX11_odds_72 : decode cX11_odds 72 = .ok (.iand, 1) := by decide +kernel
theorem dX11_odds_73 : decode cX11_odds 73 = .ok (.i2l, 1) := by decide +kernel
theorem dX11_odds_74 : decode cX11_odds 74 = .ok (.ladd, 1) := by decide +kernel
theorem dX11_odds_75 : decode cX11_odds 75 = .ok (.lstore 5, 2) := by decide +kernel
theorem dX11_odds_77 : decode cX11_odds 77 = .ok (.iinc 7 1, 3) := by decide +kernel
theorem dX11_odds_80 : decode cX11_odds 80 = .ok (.goto (-31), 3) := by decide +kernel
theorem dX11_odds_83 : decode cX11_odds 83 = .ok (.lload 5, 2) := by decide +kernel
theorem dX11_odds_85 : decode cX11_odds 85 = .ok (.iload_n 3, 1) := by decide +kernel
theorem dX11_odds_86 : decode cX11_odds 86 = .ok (.i2l, 1) := by decide +kernel
theorem dX11_odds_87 : decode cX11_odds 87 = .ok (.iload 4, 2) := by decide +kernel
theorem dX11_odds_89 : decode cX11_odds 89 = .ok (.invokestatic 334, 3) := by decide +kernel
theorem dX11_odds_92 : decode cX11_odds 92 = .ok (.lreturn, 1) := by decide +kernel
theorem dX11_image_0 : decode cX11_image 0 = .ok (.aload_n 0, 1) := by decide +kernel
theorem dX11_image_1 : decode cX11_image 1 = .ok (.iconst 1, 1) := by decide +kernel
theorem dX11_image_2 : decode cX11_image 2 = .ok (.putfield 338, 3) := by decide +kernel
theorem dX11_image_5 : decode cX11_image 5 = .ok (.aload_n 0, 1) := by decide +kernel
theorem dX11_image_6 : decode cX11_image 6 = .ok (.aload_n 0, 1) := by decide +kernel
theorem dX11_image_7 : decode cX11_image 7 = .ok (.getfield 118, 3) := by decide +kernel
theorem dX11_image_10 : decode cX11_image 10 = .ok (.putfield 341, 3) := by decide +kernel
theorem dX11_image_13 : decode cX11_image 13 = .ok (.aload_n 0, 1) := by decide +kernel
theorem dX11_image_14 : decode cX11_image 14 = .ok (.aload_n 0, 1) := by decide +kernel
theorem dX11_image_15 : decode cX11_image 15 = .ok (.getfield 111, 3) := by decide +kernel
theorem dX11_image_18 : decode cX11_image 18 = .ok (.putfield 344, 3) := by decide +kernel
theorem dX11_image_21 : decode cX11_image 21 = .ok (.aload_n 0, 1) := by decide +kernel
theorem dX11_image_22 : decode cX11_image 22 = .ok (.aload_n 0, 1) := by decide +kernel
theorem dX11_image_23 : decode cX11_image 23 = .ok (.getfield 124, 3) := by decide +kernel
theorem dX11_image_26 : decode cX11_image 26 = .ok (.putfield 347, 3) := by decide +kernel
theorem dX11_image_29 : decode cX11_image 29 = .ok (.iconst 0, 1) := by decide +kernel
theorem dX11_image_30 : decode cX11_image 30 = .ok (.istore_n 1, 1) := by decide +kernel
theorem dX11_image_31 : decode cX11_image 31 = .ok (.iload_n 1, 1) := by decide +kernel
theorem dX11_image_32 : decode cX11_image 32 = .ok (.iconst 3, 1) := by decide +kernel
theorem dX11_image_33 : decode cX11_image 33 = .ok (.if_icmp .ge 21, 3) := by decide +kernel
theorem dX11_image_36 : decode cX11_image 36 = .ok (.aload_n 0, 1) := by decide +kernel
theorem dX11_image_37 : decode cX11_image 37 = .ok (.getfield 43, 3) := by decide +kernel
theorem dX11_image_40 : decode cX11_image 40 = .ok (.iload_n 1, 1) := by decide +kernel
theorem dX11_image_41 : decode cX11_image 41 = .ok (.aload_n 0, 1) := by decide +kernel
theorem dX11_image_42 : decode cX11_image 42 = .ok (.getfield 7, 3) := by decide +kernel
theorem dX11_image_45 : decode cX11_image 45 = .ok (.iload_n 1, 1) := by decide +kernel
theorem dX11_image_46 : decode cX11_image 46 = .ok (.iaload, 1) := by decide +kernel
theorem dX11_image_47 : decode cX11_image 47 = .ok (.iastore, 1) := by decide +kernel
theorem dX11_image_48 : decode cX11_image 48 = .ok (.iinc 1 1, 3) := by decide +kernel
theorem dX11_image_51 : decode cX11_image 51 = .ok (.goto (-20), 3) := by decide +kernel
theorem dX11_image_54 : decode cX11_image 54 = .ok (.iconst 0, 1) := by decide +kernel
theorem dX11_image_55 : decode cX11_image 55 = .ok (.istore_n 1, 1) := by decide +kernel
theorem dX11_image_56 : decode cX11_image 56 = .ok (.iload_n 1, 1) := by decide +kernel
theorem dX11_image_57 : decode cX11_image 57 = .ok (.iconst 5, 1) := by decide +kernel
theorem dX11_image_58 : decode cX11_image 58 = .ok (.if_icmp .ge 21, 3) := by decide +kernel
theorem dX11_image_61 : decode cX11_image 61 = .ok (.aload_n 0, 1) := by decide +kernel
theorem dX11_image_62 : decode cX11_image 62 = .ok (.getfield 46, 3) := by decide +kernel
theorem dX11_image_65 : decode cX11_image 65 = .ok (.iload_n 1, 1) := by decide +kernel
theorem dX11_image_66 : decode cX11_image 66 = .ok (.aload_n 0, 1) := by decide +kernel
theorem dX11_image_67 : decode cX11_image 67 = .ok (.getfield 13, 3) := by decide +kernel
theorem dX11_image_70 : decode cX11_image 70 = .ok (.iload_n 1, 1) := by decide +kernel
theorem dX11_image_71 : decode cX11_image 71 = .ok (.iaload, 1) := by decide +kernel
theorem dX11_image_72 : decode cX11_image 72 = .ok (.iastore, 1) := by decide +kernel
theorem dX11_image_73 : decode cX11_image 73 = .ok (.iinc 1 1, 3) := by decide +kernel
theorem dX11_image_76 : decode cX11_image 76 = .ok (.goto (-20), 3) := by decide +kernel
theorem dX11_image_79 : decode cX11_image 79 = .ok (.iconst 0, 1) := by decide +kernel
theorem dX11_image_80 : decode cX11_image 80 = .ok (.istore_n 1, 1) := by decide +kernel
theorem dX11_image_81 : decode cX11_image 81 = .ok (.iload_n 1, 1) := by decide +kernel
theorem dX11_image_82 : decode cX11_image 82 = .ok (.bipush 10, 2) := by decide +kernel
theorem dX11_image_84 : decode cX11_image 84 = .ok (.if_icmp .ge 33, 3) := by decide +kernel
theorem dX11_image_87 : decode cX11_image 87 = .ok (.aload_n 0, 1) := by decide +kernel
theorem dX11_image_88 : decode cX11_image 88 = .ok (.getfield 49, 3) := by decide +kernel
theorem dX11_image_91 : decode cX11_image 91 = .ok (.iload_n 1, 1) := by decide +kernel
theorem dX11_image_92 : decode cX11_image 92 = .ok (.aload_n 0, 1) := by decide +kernel
theorem dX11_image_93 : decode cX11_image 93 = .ok (.getfield 31, 3) := by decide +kernel
theorem dX11_image_96 : decode cX11_image 96 = .ok (.iload_n 1, 1) := by decide +kernel
theorem dX11_image_97 : decode cX11_image 97 = .ok (.iaload, 1) := by decide +kernel
theorem dX11_image_98 : decode cX11_image 98 = .ok (.iastore, 1) := by decide +kernel
theorem dX11_image_99 : decode cX11_image 99 = .ok (.aload_n 0, 1) := by decide +kernel
theorem dX11_image_100 : decode cX11_image 100 = .ok (.getfield 52, 3) := by decide +kernel
theorem dX11_image_103 : decode cX11_image 103 = .ok (.iload_n 1, 1) := by decide +kernel
theorem dX11_image_104 : decode cX11_image 104 = .ok (.aload_n 0, 1) := by decide +kernel
theorem dX11_image_105 : decode cX11_image 105 = .ok (.getfield 16, 3) := by decide +kernel
theorem dX11_image_108 : decode cX11_image 108 = .ok (.iload_n 1, 1) := by decide +kernel
theorem dX11_image_109 : decode cX11_image 109 = .ok (.iaload, 1) := by decide +kernel
theorem dX11_image_110 : decode cX11_image 110 = .ok (.iastore, 1) := by decide +kernel
theorem dX11_image_111 : decode cX11_image 111 = .ok (.iinc 1 1, 3) := by decide +kernel
theorem dX11_image_114 : decode cX11_image 114 = .ok (.goto (-33), 3) := by decide +kernel
theorem dX11_image_117 : decode cX11_image 117 = .ok (.aload_n 0, 1) := by decide +kernel
theorem dX11_image_118 : decode cX11_image 118 = .ok (.getfield 111, 3) := by decide +kernel
theorem dX11_image_121 : decode cX11_image 121 = .ok (.ireturn, 1) := by decide +kernel
theorem dX11_back_0 : decode cX11_back 0 = .ok (.aload_n 0, 1) := by decide +kernel
theorem dX11_back_1 : decode cX11_back 1 = .ok (.getfield 338, 3) := by decide +kernel
theorem dX11_back_4 : decode cX11_back 4 = .ok (.ifCond .ne 6, 3) := by decide +kernel
theorem dX11_back_7 : decode cX11_back 7 = .ok (.bipush (-3), 2) := by decide +kernel
theorem dX11_back_9 : decode cX11_back 9 = .ok (.ireturn, 1) := by decide +kernel
theorem dX11_back_10 : decode cX11_back 10 = .ok (.aload_n 0, 1) := by decide +kernel
theorem dX11_back_11 : decode cX11_back 11 = .ok (.aload_n 0, 1) := by decide +kernel
theorem dX11_back_12 : decode cX11_back 12 = .ok (.getfield 341, 3) := by decide +kernel
theorem dX11_back_15 : decode cX11_back 15 = .ok (.putfield 118, 3) := by decide +kernel
theorem dX11_back_18 : decode cX11_back 18 = .ok (.aload_n 0, 1) := by decide +kernel
theorem dX11_back_19 : decode cX11_back 19 = .ok (.aload_n 0, 1) := by decide +kernel
theorem dX11_back_20 : decode cX11_back 20 = .ok (.getfield 344, 3) := by decide +kernel
theorem dX11_back_23 : decode cX11_back 23 = .ok (.putfield 111, 3) := by decide +kernel
theorem dX11_back_26 : decode cX11_back 26 = .ok (.aload_n 0, 1) := by decide +kernel
theorem dX11_back_27 : decode cX11_back 27 = .ok (.aload_n 0, 1) := by decide +kernel
theorem dX11_back_28 : decode cX11_back 28 = .ok (.getfield 347, 3) := by decide +kernel
theorem dX11_back_31 : decode cX11_back 31 = .ok (.putfield 124, 3) := by decide +kernel
theorem dX11_back_34 : decode cX11_back 34 = .ok (.iconst 0, 1) := by decide +kernel
theorem dX11_back_35 : decode cX11_back 35 = .ok (.istore_n 1, 1) := by decide +kernel
theorem dX11_back_36 : decode cX11_back 36 = .ok (.iload_n 1, 1) := by decide +kernel
theorem dX11_back_37 : decode cX11_back 37 = .ok (.iconst 3, 1) := by decide +kernel
theorem dX11_back_38 : decode cX11_back 38 = .ok (.if_icmp .ge 21, 3) := by decide +kernel
theorem dX11_back_41 : decode cX11_back 41 = .ok (.aload_n 0, 1) := by decide +kernel
theorem dX11_back_42 : decode cX11_back 42 = .ok (.getfield 7, 3) := by decide +kernel
theorem dX11_back_45 : decode cX11_back 45 = .ok (.iload_n 1, 1) := by decide +kernel
theorem dX11_back_46 : decode cX11_back 46 = .ok (.aload_n 0, 1) := by decide +kernel
theorem dX11_back_47 : decode cX11_back 47 = .ok (.getfield 43, 3) := by decide +kernel
theorem dX11_back_50 : decode cX11_back 50 = .ok (.iload_n 1, 1) := by decide +kernel
theorem dX11_back_51 : decode cX11_back 51 = .ok (.iaload, 1) := by decide +kernel
theorem dX11_back_52 : decode cX11_back 52 = .ok (.iastore, 1) := by decide +kernel
theorem dX11_back_53 : decode cX11_back 53 = .ok (.iinc 1 1, 3) := by decide +kernel
theorem dX11_back_56 : decode cX11_back 56 = .ok (.goto (-20), 3) := by decide +kernel
theorem dX11_back_59 : decode cX11_back 59 = .ok (.iconst 0, 1) := by decide +kernel
theorem dX11_back_60 : decode cX11_back 60 = .ok (.istore_n 1, 1) := by decide +kernel
theorem dX11_back_61 : decode cX11_back 61 = .ok (.iload_n 1, 1) := by decide +kernel
theorem dX11_back_62 : decode cX11_back 62 = .ok (.iconst 5, 1) := by decide +kernel
theorem dX11_back_63 : decode cX11_back 63 = .ok (.if_icmp .ge 21, 3) := by decide +kernel
theorem dX11_back_66 : decode cX11_back 66 = .ok (.aload_n 0, 1) := by decide +kernel
theorem dX11_back_67 : decode cX11_back 67 = .ok (.getfield 13, 3) := by decide +kernel
theorem dX11_back_70 : decode cX11_back 70 = .ok (.iload_n 1, 1) := by decide +kernel
theorem dX11_back_71 : decode cX11_back 71 = .ok (.aload_n 0, 1) := by decide +kernel
theorem dX11_back_72 : decode cX11_back 72 = .ok (.getfield 46, 3) := by decide +kernel
theorem dX11_back_75 : decode cX11_back 75 = .ok (.iload_n 1, 1) := by decide +kernel
theorem dX11_back_76 : decode cX11_back 76 = .ok (.iaload, 1) := by decide +kernel
theorem dX11_back_77 : decode cX11_back 77 = .ok (.iastore, 1) := by decide +kernel
theorem dX11_back_78 : decode cX11_back 78 = .ok (.iinc 1 1, 3) := by decide +kernel
theorem dX11_back_81 : decode cX11_back 81 = .ok (.goto (-20), 3) := by decide +kernel
theorem dX11_back_84 : decode cX11_back 84 = .ok (.iconst 0, 1) := by decide +kernel
theorem dX11_back_85 : decode cX11_back 85 = .ok (.istore_n 1, 1) := by decide +kernel
theorem dX11_back_86 : decode cX11_back 86 = .ok (.iload_n 1, 1) := by decide +kernel
theorem dX11_back_87 : decode cX11_back 87 = .ok (.bipush 10, 2) := by decide +kernel
theorem dX11_back_89 : decode cX11_back 89 = .ok (.if_icmp .ge 33, 3) := by decide +kernel
theorem dX11_back_92 : decode cX11_back 92 = .ok (.aload_n 0, 1) := by decide +kernel
theorem dX11_back_93 : decode cX11_back 93 = .ok (.getfield 31, 3) := by decide +kernel
theorem dX11_back_96 : decode cX11_back 96 = .ok (.iload_n 1, 1) := by decide +kernel
theorem dX11_back_97 : decode cX11_back 97 = .ok (.aload_n 0, 1) := by decide +kernel
theorem dX11_back_98 : decode cX11_back 98 = .ok (.getfield 49, 3) := by decide +kernel
theorem dX11_back_101 : decode cX11_back 101 = .ok (.iload_n 1, 1) := by decide +kernel
theorem dX11_back_102 : decode cX11_back 102 = .ok (.iaload, 1) := by decide +kernel
theorem dX11_back_103 : decode cX11_back 103 = .ok (.iastore, 1) := by decide +kernel
theorem dX11_back_104 : decode cX11_back 104 = .ok (.aload_n 0, 1) := by decide +kernel
theorem dX11_back_105 : decode cX11_back 105 = .ok (.getfield 16, 3) := by decide +kernel
theorem dX11_back_108 : decode cX11_back 108 = .ok (.iload_n 1, 1) := by decide +kernel
theorem dX11_back_109 : decode cX11_back 109 = .ok (.aload_n 0, 1) := by decide +kernel
theorem dX11_back_110 : decode cX11_back 110 = .ok (.getfield 52, 3) := by decide +kernel
theorem dX11_back_113 : decode cX11_back 113 = .ok (.iload_n 1, 1) := by decide +kernel
theorem dX11_back_114 : decode cX11_back 114 = .ok (.iaload, 1) := by decide +kernel
theorem dX11_back_115 : decode cX11_back 115 = .ok (.iastore, 1) := by decide +kernel
theorem dX11_back_116 : decode cX11_back 116 = .ok (.iinc 1 1, 3) := by decide +kernel
theorem dX11_back_119 : decode cX11_back 119 = .ok (.goto (-33), 3) := by decide +kernel
theorem dX11_back_122 : decode cX11_back 122 = .ok (.aload_n 0, 1) := by decide +kernel
theorem dX11_back_123 : decode cX11_back 123 = .ok (.getfield 111, 3) := by decide +kernel
theorem dX11_back_126 : decode cX11_back 126 = .ok (.ireturn, 1) := by decide +kernel
theorem dX11_sheet_0 : decode cX11_sheet 0 = .ok (.iload_n 1, 1) := by decide +kernel
theorem dX11_sheet_1 : decode cX11_sheet 1 = .ok (.iconst 0, 1) := by decide +kernel
theorem dX11_sheet_2 : decode cX11_sheet 2 = .ok (.iconst 3, 1) := by decide +kernel
theorem dX11_sheet_3 : decode cX11_sheet 3 = .ok (.invokestatic 114, 3) := by decide +kernel
theorem dX11_sheet_6 : decode cX11_sheet 6 = .ok (.ifCond .eq 23, 3) := by decide +kernel
theorem dX11_sheet_9 : decode cX11_sheet 9 = .ok (.iload_n 2, 1) := by decide +kernel
theorem dX11_sheet_10 : decode cX11_sheet 10 = .ok (.iconst (-1), 1) := by decide +kernel
theorem dX11_sheet_11 : decode cX11_sheet 11 = .ok (.iconst 2, 1) := by decide +kernel
theorem dX11_sheet_12 : decode cX11_sheet 12 = .ok (.invokestatic 114, 3) := by decide +kernel
theorem dX11_sheet_15 : decode cX11_sheet 15 = .ok (.ifCond .eq 14, 3) := by decide +kernel
theorem dX11_sheet_18 : decode cX11_sheet 18 = .ok (.iload_n 2, 1) := by decide +kernel
theorem dX11_sheet_19 : decode cX11_sheet 19 = .ok (.iconst (-1), 1) := by decide +kernel
theorem dX11_sheet_20 : decode cX11_sheet 20 = .ok (.if_icmp .eq 12, 3) := by decide +kernel
theorem dX11_sheet_23 : decode cX11_sheet 23 = .ok (.iload_n 3, 1) := by decide +kernel
theorem dX11_sheet_24 : decode cX11_sheet 24 = .ok (.bipush 40, 2) := by decide +kernel
theorem dX11_sheet_26 : decode cX11_sheet 26 = .ok (.if_icmp .le 6, 3) := by decide +kernel
theorem dX11_sheet_29 : decode cX11_sheet 29 = .ok (.bipush (-2), 2) := by decide +kernel
theorem dX11_sheet_31 : decode cX11_sheet 31 = .ok (.ireturn, 1) := by decide +kernel
theorem dX11_sheet_32 : decode cX11_sheet 32 = .ok (.iload_n 2, 1) := by decide +kernel
theorem dX11_sheet_33 : decode cX11_sheet 33 = .ok (.iconst (-1), 1) := by decide +kernel
theorem dX11_sheet_34 : decode cX11_sheet 34 = .ok (.if_icmp .eq 10, 3) := by decide +kernel
theorem dX11_sheet_37 : decode cX11_sheet 37 = .ok (.iload_n 3, 1) := by decide +kernel
theorem dX11_sheet_38 : decode cX11_sheet 38 = .ok (.ifCond .ge 6, 3) := by decide +kernel
theorem dX11_sheet_41 : decode cX11_sheet 41 = .ok (.bipush (-14), 2) := by decide +kernel
theorem dX11_sheet_43 : decode cX11_sheet 43 = .ok (.ireturn, 1) := by decide +kernel
theorem dX11_sheet_44 : decode cX11_sheet 44 = .ok (.aload_n 0, 1) := by decide +kernel
theorem dX11_sheet_45 : decode cX11_sheet 45 = .ok (.getfield 55, 3) := by decide +kernel
theorem dX11_sheet_48 : decode cX11_sheet 48 = .ok (.iload_n 1, 1) := by decide +kernel
theorem dX11_sheet_49 : decode cX11_sheet 49 = .ok (.iload_n 2, 1) := by decide +kernel
theorem dX11_sheet_50 : decode cX11_sheet 50 = .ok (.iastore, 1) := by decide +kernel
theorem dX11_sheet_51 : decode cX11_sheet 51 = .ok (.aload_n 0, 1) := by decide +kernel
theorem dX11_sheet_52 : decode cX11_sheet 52 = .ok (.getfield 58, 3) := by decide +kernel
theorem dX11_sheet_55 : decode cX11_sheet 55 = .ok (.iload_n 1, 1) := by decide +kernel
theorem dX11_sheet_56 : decode cX11_sheet 56 = .ok (.iload_n 2, 1) := by decide +kernel
theorem dX11_sheet_57 : decode cX11_sheet 57 = .ok (.iconst (-1), 1) := by decide +kernel
theorem dX11_sheet_58 : decode cX11_sheet 58 = .ok (.if_icmp .ne 7, 3) := by decide +kernel
theorem dX11_sheet_61 : decode cX11_sheet 61 = .ok (.iconst 0, 1) := by decide +kernel
theorem dX11_sheet_62 : decode cX11_sheet 62 = .ok (.goto 4, 3) := by decide +kernel
theorem dX11_sheet_65 : decode cX11_sheet 65 = .ok (.iload_n 3, 1) := by decide +kernel
theorem dX11_sheet_66 : decode cX11_sheet 66 = .ok (.iastore, 1) := by decide +kernel
theorem dX11_sheet_67 : decode cX11_sheet 67 = .ok (.iconst 0, 1) := by decide +kernel
theorem dX11_sheet_68 : decode cX11_sheet 68 = .ok (.istore 4, 2) := by decide +kernel
theorem dX11_sheet_70 : decode cX11_sheet 70 = .ok (.iload 4, 2) := by decide +kernel
theorem dX11_sheet_72 : decode cX11_sheet 72 = .ok (.bipush 40, 2) := by decide +kernel
theorem dX11_sheet_74 : decode cX11_sheet 74 = .ok (.if_icmp .ge 22, 3) := by decide +kernel
theorem dX11_sheet_77 : decode cX11_sheet 77 = .ok (.aload_n 0, 1) := by decide +kernel
theorem dX11_sheet_78 : decode cX11_sheet 78 = .ok (.getfield 61, 3) := by decide +kernel
theorem dX11_sheet_81 : decode cX11_sheet 81 = .ok (.bipush 40, 2) := by decide +kernel
theorem dX11_sheet_83 : decode cX11_sheet 83 = .ok (.iload_n 1, 1) := by decide +kernel
theorem dX11_sheet_84 : decode cX11_sheet 84 = .ok (.imul, 1) := by decide +kernel
theorem dX11_sheet_85 : decode cX11_sheet 85 = .ok (.iload 4, 2) := by decide +kernel
theorem dX11_sheet_87 : decode cX11_sheet 87 = .ok (.iadd, 1) := by decide +kernel
theorem dX11_sheet_88 : decode cX11_sheet 88 = .ok (.iconst 0, 1) := by decide +kernel
theorem dX11_sheet_89 : decode cX11_sheet 89 = .ok (.iastore, 1) := by decide +kernel
theorem dX11_sheet_90 : decode cX11_sheet 90 = .ok (.iinc 4 1, 3) := by decide +kernel
theorem dX11_sheet_93 : decode cX11_sheet 93 = .ok (.goto (-23), 3) := by decide +kernel
theorem dX11_sheet_96 : decode cX11_sheet 96 = .ok (.iconst 1, 1) := by decide +kernel
theorem dX11_sheet_97 : decode cX11_sheet 97 = .ok (.ireturn, 1) := by decide +kernel
theorem dX11_cell_0 : decode cX11_cell 0 = .ok (.iload_n 1, 1) := by decide +kernel
theorem dX11_cell_1 : decode cX11_cell 1 = .ok (.iconst 0, 1) := by decide +kernel
theorem dX11_cell_2 : decode cX11_cell 2 = .ok (.iconst 3, 1) := by decide +kernel
theorem dX11_cell_3 : decode cX11_cell 3 = .ok (.invokestatic 114, 3) := by decide +kernel
theorem dX11_cell_6 : decode cX11_cell 6 = .ok (.ifCond .ne 6, 3) := by decide +kernel
theorem dX11_cell_9 : decode cX11_cell 9 = .ok (.bipush (-2), 2) := by decide +kernel
theorem dX11_cell_11 : decode cX11_cell 11 = .ok (.ireturn, 1) := by decide +kernel
theorem dX11_cell_12 : decode cX11_cell 12 = .ok (.aload_n 0, 1) := by decide +kernel
theorem dX11_cell_13 : decode cX11_cell 13 = .ok (.getfield 55, 3) := by decide +kernel
theorem dX11_cell_16 : decode cX11_cell 16 = .ok (.iload_n 1, 1) := by decide +kernel
theorem dX11_cell_17 : decode cX11_cell 17 = .ok (.iaload, 1) := by decide +kernel
theorem dX11_cell_18 : decode cX11_cell 18 = .ok (.iconst (-1), 1) := by decide +kernel
theorem dX11_cell_19 : decode cX11_cell 19 = .ok (.if_icmp .ne 6, 3) := by decide +kernel
theorem dX11_cell_22 : decode cX11_cell 22 = .ok (.bipush (-11), 2) := by decide +kernel
theorem dX11_cell_24 : decode cX11_cell 24 = .ok (.ireturn, 1) := by decide +kernel
theorem dX11_cell_25 : decode cX11_cell 25 = .ok (.iload_n 2, 1) := by decide +kernel
theorem dX11_cell_26 : decode cX11_cell 26 = .ok (.iconst 0, 1) := by decide +kernel
theorem dX11_cell_27 : decode cX11_cell 27 = .ok (.aload_n 0, 1) := by decide +kernel
theorem dX11_cell_28 : decode cX11_cell 28 = .ok (.getfield 58, 3) := by decide +kernel
theorem dX11_cell_31 : decode cX11_cell 31 = .ok (.iload_n 1, 1) := by decide +kernel
theorem dX11_cell_32 : decode cX11_cell 32 = .ok (.iaload, 1) := by decide +kernel
theorem dX11_cell_33 : decode cX11_cell 33 = .ok (.iconst 1, 1) := by decide +kernel
theorem dX11_cell_34 : decode cX11_cell 34 = .ok (.isub, 1) := by decide +kernel
theorem dX11_cell_35 : decode cX11_cell 35 = .ok (.invokestatic 114, 3) := by decide +kernel
theorem dX11_cell_38 : decode cX11_cell 38 = .ok (.ifCond .ne 6, 3) := by decide +kernel
theorem dX11_cell_41 : decode cX11_cell 41 = .ok (.bipush (-12), 2) := by decide +kernel
theorem dX11_cell_43 : decode cX11_cell 43 = .ok (.ireturn, 1) := by decide +kernel
theorem dX11_cell_44 : decode cX11_cell 44 = .ok (.aload_n 0, 1) := by decide +kernel
theorem dX11_cell_45 : decode cX11_cell 45 = .ok (.getfield 61, 3) := by decide +kernel
theorem dX11_cell_48 : decode cX11_cell 48 = .ok (.bipush 40, 2) := by decide +kernel
theorem dX11_cell_50 : decode cX11_cell 50 = .ok (.iload_n 1, 1) := by decide +kernel
theorem dX11_cell_51 : decode cX11_cell 51 = .ok (.imul, 1) := by decide +kernel
theorem dX11_cell_52 : decode cX11_cell 52 = .ok (.iload_n 2, 1) := by decide +kernel
theorem dX11_cell_53 : decode cX11_cell 53 = .ok (.iadd, 1) := by decide +kernel
theorem dX11_cell_54 : decode cX11_cell 54 = .ok (.aload_n 0, 1) := by decide +kernel
theorem dX11_cell_55 : decode cX11_cell 55 = .ok (.getfield 55, 3) := by decide +kernel
theorem dX11_cell_58 : decode cX11_cell 58 = .ok (.iload_n 1, 1) := by decide +kernel
theorem dX11_cell_59 : decode cX11_cell 59 = .ok (.iaload, 1) := by decide +kernel
theorem dX11_cell_60 : decode cX11_cell 60 = .ok (.ifCond .ne 8, 3) := by decide +kernel
theorem dX11_cell_63 : decode cX11_cell 63 = .ok (.iload_n 3, 1) := by decide +kernel
theorem dX11_cell_64 : decode cX11_cell 64 = .ok (.i2b, 1) := by decide +kernel
theorem dX11_cell_65 : decode cX11_cell 65 = .ok (.goto 19, 3) := by decide +kernel
theorem dX11_cell_68 : decode cX11_cell 68 = .ok (.aload_n 0, 1) := by decide +kernel
theorem dX11_cell_69 : decode cX11_cell 69 = .ok (.getfield 55, 3) := by decide +kernel
theorem dX11_cell_72 : decode cX11_cell 72 = .ok (.iload_n 1, 1) := by decide +kernel
theorem dX11_cell_73 : decode cX11_cell 73 = .ok (.iaload, 1) := by decide +kernel
theorem dX11_cell_74 : decode cX11_cell 74 = .ok (.iconst 1, 1) := by decide +kernel
theorem dX11_cell_75 : decode cX11_cell 75 = .ok (.if_icmp .ne 8, 3) := by decide +kernel
theorem dX11_cell_78 : decode cX11_cell 78 = .ok (.iload_n 3, 1) := by decide +kernel
theorem dX11_cell_79 : decode cX11_cell 79 = .ok (.i2s, 1) := by decide +kernel
theorem dX11_cell_80 : decode cX11_cell 80 = .ok (.goto 4, 3) := by decide +kernel
theorem dX11_cell_83 : decode cX11_cell 83 = .ok (.iload_n 3, 1) := by decide +kernel
theorem dX11_cell_84 : decode cX11_cell 84 = .ok (.iastore, 1) := by decide +kernel
theorem dX11_cell_85 : decode cX11_cell 85 = .ok (.iconst 1, 1) := by decide +kernel
theorem dX11_cell_86 : decode cX11_cell 86 = .ok (.ireturn, 1) := by decide +kernel
theorem dX11_copy_0 : decode cX11_copy 0 = .ok (.iload_n 1, 1) := by decide +kernel
theorem dX11_copy_1 : decode cX11_copy 1 = .ok (.iconst 0, 1) := by decide +kernel
theorem dX11_copy_2 : decode cX11_copy 2 = .ok (.iconst 3, 1) := by decide +kernel
theorem dX11_copy_3 : decode cX11_copy 3 = .ok (.invokestatic 114, 3) := by decide +kernel
theorem dX11_copy_6 : decode cX11_copy 6 = .ok (.ifCond .eq 12, 3) := by decide +kernel
theorem dX11_copy_9 : decode cX11_copy 9 = .ok (.iload_n 3, 1) := by decide +kernel
theorem dX11_copy_10 : decode cX11_copy 10 = .ok (.iconst 0, 1) := by decide +kernel
theorem dX11_copy_11 : decode cX11_copy 11 = .ok (.iconst 3, 1) := by decide +kernel
theorem dX11_copy_12 : decode cX11_copy 12 = .ok (.invokestatic 114, 3) := by decide +kernel
theorem dX11_copy_15 : decode cX11_copy 15 = .ok (.ifCond .ne 6, 3) := by decide +kernel
theorem dX11_copy_18 : decode cX11_copy 18 = .ok (.bipush (-2), 2) := by decide +kernel
theorem dX11_copy_20 : decode cX11_copy 20 = .ok (.ireturn, 1) := by decide +kernel
theorem dX11_copy_21 : decode cX11_copy 21 = .ok (.aload_n 0, 1) := by decide +kernel
theorem dX11_copy_22 : decode cX11_copy 22 = .ok (.getfield 55, 3) := by decide +kernel
theorem dX11_copy_25 : decode cX11_copy 25 = .ok (.iload_n 1, 1) := by decide +kernel
theorem dX11_copy_26 : decode cX11_copy 26 = .ok (.iaload, 1) := by decide +kernel
theorem dX11_copy_27 : decode cX11_copy 27 = .ok (.iconst (-1), 1) := by decide +kernel
theorem dX11_copy_28 : decode cX11_copy 28 = .ok (.if_icmp .eq 13, 3) := by decide +kernel
theorem dX11_copy_31 : decode cX11_copy 31 = .ok (.aload_n 0, 1) := by decide +kernel
theorem dX11_copy_32 : decode cX11_copy 32 = .ok (.getfield 55, 3) := by decide +kernel
theorem dX11_copy_35 : decode cX11_copy 35 = .ok (.iload_n 3, 1) := by decide +kernel
theorem dX11_copy_36 : decode cX11_copy 36 = .ok (.iaload, 1) := by decide +kernel
theorem dX11_copy_37 : decode cX11_copy 37 = .ok (.iconst (-1), 1) := by decide +kernel
theorem dX11_copy_38 : decode cX11_copy 38 = .ok (.if_icmp .ne 6, 3) := by decide +kernel
theorem dX11_copy_41 : decode cX11_copy 41 = .ok (.bipush (-11), 2) := by decide +kernel
theorem dX11_copy_43 : decode cX11_copy 43 = .ok (.ireturn, 1) := by decide +kernel
theorem dX11_copy_44 : decode cX11_copy 44 = .ok (.aload_n 0, 1) := by decide +kernel
theorem dX11_copy_45 : decode cX11_copy 45 = .ok (.getfield 55, 3) := by decide +kernel
theorem dX11_copy_48 : decode cX11_copy 48 = .ok (.iload_n 1, 1) := by decide +kernel
theorem dX11_copy_49 : decode cX11_copy 49 = .ok (.iaload, 1) := by decide +kernel
theorem dX11_copy_50 : decode cX11_copy 50 = .ok (.aload_n 0, 1) := by decide +kernel
theorem dX11_copy_51 : decode cX11_copy 51 = .ok (.getfield 55, 3) := by decide +kernel
theorem dX11_copy_54 : decode cX11_copy 54 = .ok (.iload_n 3, 1) := by decide +kernel
theorem dX11_copy_55 : decode cX11_copy 55 = .ok (.iaload, 1) := by decide +kernel
theorem dX11_copy_56 : decode cX11_copy 56 = .ok (.if_icmp .eq 6, 3) := by decide +kernel
theorem dX11_copy_59 : decode cX11_copy 59 = .ok (.bipush (-13), 2) := by decide +kernel
theorem dX11_copy_61 : decode cX11_copy 61 = .ok (.ireturn, 1) := by decide +kernel
theorem dX11_copy_62 : decode cX11_copy 62 = .ok (.iload 5, 2) := by decide +kernel
theorem dX11_copy_64 : decode cX11_copy 64 = .ok (.ifCond .lt 60, 3) := by decide +kernel
theorem dX11_copy_67 : decode cX11_copy 67 = .ok (.iload_n 2, 1) := by decide +kernel
theorem dX11_copy_68 : decode cX11_copy 68 = .ok (.ifCond .lt 56, 3) := by decide +kernel
theorem dX11_copy_71 : decode cX11_copy 71 = .ok (.iload 4, 2) := by decide +kernel
theorem dX11_copy_73 : decode cX11_copy 73 = .ok (.ifCond .lt 51, 3) := by decide +kernel
theorem dX11_copy_76 : decode cX11_copy 76 = .ok (.iload_n 2, 1) := by decide +kernel
theorem dX11_copy_77 : decode cX11_copy 77 = .ok (.aload_n 0, 1) := by decide +kernel
theorem dX11_copy_78 : decode cX11_copy 78 = .ok (.getfield 58, 3) := by decide +kernel
theorem dX11_copy_81 : decode cX11_copy 81 = .ok (.iload_n 1, 1) := by decide +kernel
theorem dX11_copy_82 : decode cX11_copy 82 = .ok (.iaload, 1) := by decide +kernel
theorem dX11_copy_83 : decode cX11_copy 83 = .ok (.if_icmp .gt 41, 3) := by decide +kernel
theorem dX11_copy_86 : decode cX11_copy 86 = .ok (.iload 4, 2) := by decide +kernel
theorem dX11_copy_88 : decode cX11_copy 88 = .ok (.aload_n 0, 1) := by decide +kernel
theorem dX11_copy_89 : decode cX11_copy 89 = .ok (.getfield 58, 3) := by decide +kernel
theorem dX11_copy_92 : decode cX11_copy 92 = .ok (.iload_n 3, 1) := by decide +kernel
theorem dX11_copy_93 : decode cX11_copy 93 = .ok (.iaload, 1) := by decide +kernel
theorem dX11_copy_94 : decode cX11_copy 94 = .ok (.if_icmp .gt 30, 3) := by decide +kernel
theorem dX11_copy_97 : decode cX11_copy 97 = .ok (.iload 5, 2) := by decide +kernel
theorem dX11_copy_99 : decode cX11_copy 99 = .ok (.aload_n 0, 1) := by decide +kernel
theorem dX11_copy_100 : decode cX11_copy 100 = .ok (.getfield 58, 3) := by decide +kernel
theorem dX11_copy_103 : decode cX11_copy 103 = .ok (.iload_n 1, 1) := by decide +kernel
theorem dX11_copy_104 : decode cX11_copy 104 = .ok (.iaload, 1) := by decide +kernel
theorem dX11_copy_105 : decode cX11_copy 105 = .ok (.iload_n 2, 1) := by decide +kernel
theorem dX11_copy_106 : decode cX11_copy 106 = .ok (.isub, 1) := by decide +kernel
theorem dX11_copy_107 : decode cX11_copy 107 = .ok (.if_icmp .gt 17, 3) := by decide +kernel
theorem dX11_copy_110 : decode cX11_copy 110 = .ok (.iload 5, 2) := by decide +kernel
theorem dX11_copy_112 : decode cX11_copy 112 = .ok (.aload_n 0, 1) := by decide +kernel
theorem dX11_copy_113 : decode cX11_copy 113 = .ok (.getfield 58, 3) := by decide +kernel
theorem dX11_copy_116 : decode cX11_copy 116 = .ok (.iload_n 3, 1) := by decide +kernel
theorem dX11_copy_117 : decode cX11_copy 117 = .ok (.iaload, 1) := by decide +kernel
theorem dX11_copy_118 : decode cX11_copy 118 = .ok (.iload 4, 2) := by decide +kernel
theorem dX11_copy_120 : decode cX11_copy 120 = .ok (.isub, 1) := by decide +kernel
theorem dX11_copy_121 : decode cX11_copy 121 = .ok (.if_icmp .le 6, 3) := by decide +kernel
theorem dX11_copy_124 : decode cX11_copy 124 = .ok (.bipush (-12), 2) := by decide +kernel
theorem dX11_copy_126 : decode cX11_copy 126 = .ok (.ireturn, 1) := by decide +kernel
theorem dX11_copy_127 : decode cX11_copy 127 = .ok (.bipush 40, 2) := by decide +kernel
theorem dX11_copy_129 : decode cX11_copy 129 = .ok (.iload_n 1, 1) := by decide +kernel
theorem dX11_copy_130 : decode cX11_copy 130 = .ok (.imul, 1) := by decide +kernel
theorem dX11_copy_131 : decode cX11_copy 131 = .ok (.iload_n 2, 1) := by decide +kernel
theorem dX11_copy_132 : decode cX11_copy 132 = .ok (.iadd, 1) := by decide +kernel
theorem dX11_copy_133 : decode cX11_copy 133 = .ok (.istore 6, 2) := by decide +kernel
theorem dX11_copy_135 : decode cX11_copy 135 = .ok (.bipush 40, 2) := by decide +kernel
theorem dX11_copy_137 : decode cX11_copy 137 = .ok (.iload_n 3, 1) := by decide +kernel
theorem dX11_copy_138 : decode cX11_copy 138 = .ok (.imul, 1) := by decide +kernel
theorem dX11_copy_139 : decode cX11_copy 139 = .ok (.iload 4, 2) := by decide +kernel
theorem dX11_copy_141 : decode cX11_copy 141 = .ok (.iadd, 1) := by decide +kernel
theorem dX11_copy_142 : decode cX11_copy 142 = .ok (.istore 7, 2) := by decide +kernel
theorem dX11_copy_144 : decode cX11_copy 144 = .ok (.iconst 0, 1) := by decide +kernel
theorem dX11_copy_145 : decode cX11_copy 145 = .ok (.istore 8, 2) := by decide +kernel
theorem dX11_copy_147 : decode cX11_copy 147 = .ok (.iload 8, 2) := by decide +kernel
theorem dX11_copy_149 : decode cX11_copy 149 = .ok (.iload 5, 2) := by decide +kernel
theorem dX11_copy_151 : decode cX11_copy 151 = .ok (.if_icmp .ge 50, 3) := by decide +kernel
theorem dX11_copy_154 : decode cX11_copy 154 = .ok (.iload 6, 2) := by decide +kernel
theorem dX11_copy_156 : decode cX11_copy 156 = .ok (.iload 7, 2) := by decide +kernel
theorem dX11_copy_158 : decode cX11_copy 158 = .ok (.if_icmp .ge 13, 3) := by decide +kernel
theorem dX11_copy_161 : decode cX11_copy 161 = .ok (.iload 5, 2) := by decide +kernel
theorem dX11_copy_163 : decode cX11_copy 163 = .ok (.iconst 1, 1) := by decide +kernel
theorem dX11_copy_164 : decode cX11_copy 164 = .ok (.isub, 1) := by decide +kernel
theorem dX11_copy_165 : decode cX11_copy 165 = .ok (.iload 8, 2) := by decide +kernel
theorem dX11_copy_167 : decode cX11_copy 167 = .ok (.isub, 1) := by decide +kernel
theorem dX11_copy_168 : decode cX11_copy 168 = .ok (.goto 5, 3) := by decide +kernel
theorem dX11_copy_171 : decode cX11_copy 171 = .ok (.iload 8, 2) := by decide +kernel
theorem dX11_copy_173 : decode cX11_copy 173 = .ok (.istore 9, 2) := by decide +kernel
theorem dX11_copy_175 : decode cX11_copy 175 = .ok (.aload_n 0, 1) := by decide +kernel
theorem dX11_copy_176 : decode cX11_copy 176 = .ok (.getfield 61, 3) := by decide +kernel
theorem dX11_copy_179 : decode cX11_copy 179 = .ok (.iload 7, 2) := by decide +kernel
theorem dX11_copy_181 : decode cX11_copy 181 = .ok (.iload 9, 2) := by decide +kernel
theorem dX11_copy_183 : decode cX11_copy 183 = .ok (.iadd, 1) := by decide +kernel
theorem dX11_copy_184 : decode cX11_copy 184 = .ok (.aload_n 0, 1) := by decide +kernel
theorem dX11_copy_185 : decode cX11_copy 185 = .ok (.getfield 61, 3) := by decide +kernel
theorem dX11_copy_188 : decode cX11_copy 188 = .ok (.iload 6, 2) := by decide +kernel
theorem dX11_copy_190 : decode cX11_copy 190 = .ok (.iload 9, 2) := by decide +kernel
theorem dX11_copy_192 : decode cX11_copy 192 = .ok (.iadd, 1) := by decide +kernel
theorem dX11_copy_193 : decode cX11_copy 193 = .ok (.iaload, 1) := by decide +kernel
theorem dX11_copy_194 : decode cX11_copy 194 = .ok (.iastore, 1) := by decide +kernel
theorem dX11_copy_195 : decode cX11_copy 195 = .ok (.iinc 8 1, 3) := by decide +kernel
theorem dX11_copy_198 : decode cX11_copy 198 = .ok (.goto (-51), 3) := by decide +kernel
theorem dX11_copy_201 : decode cX11_copy 201 = .ok (.iload 5, 2) := by decide +kernel
theorem dX11_copy_203 : decode cX11_copy 203 = .ok (.ireturn, 1) := by decide +kernel
theorem dX11_cartsBy_0 : decode cX11_cartsBy 0 = .ok (.iload_n 1, 1) := by decide +kernel
theorem dX11_cartsBy_1 : decode cX11_cartsBy 1 = .ok (.iconst 0, 1) := by decide +kernel
theorem dX11_cartsBy_2 : decode cX11_cartsBy 2 = .ok (.iconst 3, 1) := by decide +kernel
theorem dX11_cartsBy_3 : decode cX11_cartsBy 3 = .ok (.invokestatic 114, 3) := by decide +kernel
theorem dX11_cartsBy_6 : decode cX11_cartsBy 6 = .ok (.ifCond .eq 23, 3) := by decide +kernel
theorem dX11_cartsBy_9 : decode cX11_cartsBy 9 = .ok (.iload_n 2, 1) := by decide +kernel
theorem dX11_cartsBy_10 : decode cX11_cartsBy 10 = .ok (.iconst 0, 1) := by decide +kernel
theorem dX11_cartsBy_11 : decode cX11_cartsBy 11 = .ok (.iconst 2, 1) := by decide +kernel
theorem dX11_cartsBy_12 : decode cX11_cartsBy 12 = .ok (.invokestatic 114, 3) := by decide +kernel
theorem dX11_cartsBy_15 : decode cX11_cartsBy 15 = .ok (.ifCond .eq 14, 3) := by decide +kernel
theorem dX11_cartsBy_18 : decode cX11_cartsBy 18 = .ok (.iload 4, 2) := by decide +kernel
theorem dX11_cartsBy_20 : decode cX11_cartsBy 20 = .ok (.iconst 0, 1) := by decide +kernel
theorem dX11_cartsBy_21 : decode cX11_cartsBy 21 = .ok (.bipush 8, 2) := by decide +kernel
theorem dX11_cartsBy_23 : decode cX11_cartsBy 23 = .ok (.invokestatic 114, 3) := by decide +kernel
theorem dX11_cartsBy_26 : decode cX11_cartsBy 26 = .ok (.ifCond .ne 6, 3) := by decide +kernel
theorem dX11_cartsBy_29 : decode cX11_cartsBy 29 = .ok (.bipush (-2), 2) := by decide +kernel
theorem dX11_cartsBy_31 : decode cX11_cartsBy 31 = .ok (.ireturn, 1) := by decide +kernel
theorem dX11_cartsBy_32 : decode cX11_cartsBy 32 = .ok (.aload_n 0, 1) := by decide +kernel
theorem dX11_cartsBy_33 : decode cX11_cartsBy 33 = .ok (.getfield 55, 3) := by decide +kernel
theorem dX11_cartsBy_36 : decode cX11_cartsBy 36 = .ok (.iload_n 1, 1) := by decide +kernel
theorem dX11_cartsBy_37 : decode cX11_cartsBy 37 = .ok (.iaload, 1) := by decide +kernel
theorem dX11_cartsBy_38 : decode cX11_cartsBy 38 = .ok (.iconst (-1), 1) := by decide +kernel
theorem dX11_cartsBy_39 : decode cX11_cartsBy 39 = .ok (.if_icmp .ne 6, 3) := by decide +kernel
theorem dX11_cartsBy_42 : decode cX11_cartsBy 42 = .ok (.bipush (-11), 2) := by decide +kernel
theorem dX11_cartsBy_44 : decode cX11_cartsBy 44 = .ok (.ireturn, 1) := by decide +kernel
theorem dX11_cartsBy_45 : decode cX11_cartsBy 45 = .ok (.aload_n 0, 1) := by decide +kernel
theorem dX11_cartsBy_46 : decode cX11_cartsBy 46 = .ok (.getfield 55, 3) := by decide +kernel
theorem dX11_cartsBy_49 : decode cX11_cartsBy 49 = .ok (.iload_n 1, 1) := by decide +kernel
theorem dX11_cartsBy_50 : decode cX11_cartsBy 50 = .ok (.iaload, 1) := by decide +kernel
theorem dX11_cartsBy_51 : decode cX11_cartsBy 51 = .ok (.iload_n 2, 1) := by decide +kernel
theorem dX11_cartsBy_52 : decode cX11_cartsBy 52 = .ok (.if_icmp .eq 6, 3) := by decide +kernel
theorem dX11_cartsBy_55 : decode cX11_cartsBy 55 = .ok (.bipush (-13), 2) := by decide +kernel
theorem dX11_cartsBy_57 : decode cX11_cartsBy 57 = .ok (.ireturn, 1) := by decide +kernel
theorem dX11_cartsBy_58 : decode cX11_cartsBy 58 = .ok (.iconst 0, 1) := by decide +kernel
theorem dX11_cartsBy_59 : decode cX11_cartsBy 59 = .ok (.istore 5, 2) := by decide +kernel
theorem dX11_cartsBy_61 : decode cX11_cartsBy 61 = .ok (.iconst 0, 1) := by decide +kernel
theorem dX11_cartsBy_62 : decode cX11_cartsBy 62 = .ok (.istore 6, 2) := by decide +kernel
theorem dX11_cartsBy_64 : decode cX11_cartsBy 64 = .ok (.iload 6, 2) := by decide +kernel
theorem dX11_cartsBy_66 : decode cX11_cartsBy 66 = .ok (.iload 4, 2) := by decide +kernel
theorem dX11_cartsBy_68 : decode cX11_cartsBy 68 = .ok (.if_icmp .ge 112, 3) := by decide +kernel
theorem dX11_cartsBy_71 : decode cX11_cartsBy 71 = .ok (.iload_n 3, 1) := by decide +kernel
theorem dX11_cartsBy_72 : decode cX11_cartsBy 72 = .ok (.iconst 5, 1) := by decide +kernel
theorem dX11_cartsBy_73 : decode cX11_cartsBy 73 = .ok (.iload 6, 2) := by decide +kernel
theorem dX11_cartsBy_75 : decode cX11_cartsBy 75 = .ok (.imul, 1) := by decide +kernel
theorem dX11_cartsBy_76 : decode cX11_cartsBy 76 = .ok (.iadd, 1) := by decide +kernel
theorem dX11_cartsBy_77 : decode cX11_cartsBy 77 = .ok (.istore 7, 2) := by decide +kernel
theorem dX11_cartsBy_79 : decode cX11_cartsBy 79 = .ok (.iload_n 3, 1) := by decide +kernel
theorem dX11_cartsBy_80 : decode cX11_cartsBy 80 = .ok (.ifCond .lt 22, 3) := by decide +kernel
theorem dX11_cartsBy_83 : decode cX11_cartsBy 83 = .ok (.iload 7, 2) := by decide +kernel
theorem dX11_cartsBy_85 : decode cX11_cartsBy 85 = .ok (.iload_n 3, 1) := by decide +kernel
theorem dX11_cartsBy_86 : decode cX11_cartsBy 86 = .ok (.if_icmp .lt 16, 3) := by decide +kernel
theorem dX11_cartsBy_89 : decode cX11_cartsBy 89 = .ok (.iload 7, 2) := by decide +kernel
theorem dX11_cartsBy_91 : decode cX11_cartsBy 91 = .ok (.aload_n 0, 1) := by decide +kernel
theorem dX11_cartsBy_92 : decode cX11_cartsBy 92 = .ok (.getfield 58, 3) := by decide +kernel
theorem dX11_cartsBy_95 : decode cX11_cartsBy 95 = .ok (.iload_n 1, 1) := by decide +kernel
theorem dX11_cartsBy_96 : decode cX11_cartsBy 96 = .ok (.iaload, 1) := by decide +kernel
theorem dX11_cartsBy_97 : decode cX11_cartsBy 97 = .ok (.iconst 5, 1) := by decide +kernel
theorem dX11_cartsBy_98 : decode cX11_cartsBy 98 = .ok (.isub, 1) := by decide +kernel
theorem dX11_cartsBy_99 : decode cX11_cartsBy 99 = .ok (.if_icmp .le 6, 3) := by decide +kernel
theorem dX11_cartsBy_102 : decode cX11_cartsBy 102 = .ok (.bipush (-12), 2) := by decide +kernel
theorem dX11_cartsBy_104 : decode cX11_cartsBy 104 = .ok (.ireturn, 1) := by decide +kernel
theorem dX11_cartsBy_105 : decode cX11_cartsBy 105 = .ok (.bipush 40, 2) := by decide +kernel
theorem dX11_cartsBy_107 : decode cX11_cartsBy 107 = .ok (.iload_n 1, 1) := by decide +kernel
theorem dX11_cartsBy_108 : decode cX11_cartsBy 108 = .ok (.imul, 1) := by decide +kernel
theorem dX11_cartsBy_109 : decode cX11_cartsBy 109 = .ok (.iload 7, 2) := by decide +kernel
theorem dX11_cartsBy_111 : decode cX11_cartsBy 111 = .ok (.iadd, 1) := by decide +kernel
theorem dX11_cartsBy_112 : decode cX11_cartsBy 112 = .ok (.istore 8, 2) := by decide +kernel
theorem dX11_cartsBy_114 : decode cX11_cartsBy 114 = .ok (.iload 5, 2) := by decide +kernel
theorem dX11_cartsBy_116 : decode cX11_cartsBy 116 = .ok (.aload_n 0, 1) := by decide +kernel
theorem dX11_cartsBy_117 : decode cX11_cartsBy 117 = .ok (.aload_n 0, 1) := by decide +kernel
theorem dX11_cartsBy_118 : decode cX11_cartsBy 118 = .ok (.getfield 61, 3) := by decide +kernel
theorem dX11_cartsBy_121 : decode cX11_cartsBy 121 = .ok (.iload 8, 2) := by decide +kernel
theorem dX11_cartsBy_123 : decode cX11_cartsBy 123 = .ok (.iaload, 1) := by decide +kernel
theorem dX11_cartsBy_124 : decode cX11_cartsBy 124 = .ok (.aload_n 0, 1) := by decide +kernel
theorem dX11_cartsBy_125 : decode cX11_cartsBy 125 = .ok (.getfield 61, 3) := by decide +kernel
theorem dX11_cartsBy_128 : decode cX11_cartsBy 128 = .ok (.iload 8, 2) := by decide +kernel
theorem dX11_cartsBy_130 : decode cX11_cartsBy 130 = .ok (.iconst 1, 1) := by decide +kernel
theorem dX11_cartsBy_131 : decode cX11_cartsBy 131 = .ok (.iadd, 1) := by decide +kernel
theorem dX11_cartsBy_132 : decode cX11_cartsBy 132 = .ok (.iaload, 1) := by decide +kernel
theorem dX11_cartsBy_133 : decode cX11_cartsBy 133 = .ok (.aload_n 0, 1) := by decide +kernel
theorem dX11_cartsBy_134 : decode cX11_cartsBy 134 = .ok (.getfield 61, 3) := by decide +kernel
theorem dX11_cartsBy_137 : decode cX11_cartsBy 137 = .ok (.iload 8, 2) := by decide +kernel
theorem dX11_cartsBy_139 : decode cX11_cartsBy 139 = .ok (.iconst 2, 1) := by decide +kernel
theorem dX11_cartsBy_140 : decode cX11_cartsBy 140 = .ok (.iadd, 1) := by decide +kernel
theorem dX11_cartsBy_141 : decode cX11_cartsBy 141 = .ok (.iaload, 1) := by decide +kernel
theorem dX11_cartsBy_142 : decode cX11_cartsBy 142 = .ok (.aload_n 0, 1) := by decide +kernel
theorem dX11_cartsBy_143 : decode cX11_cartsBy 143 = .ok (.getfield 61, 3) := by decide +kernel
theorem dX11_cartsBy_146 : decode cX11_cartsBy 146 = .ok (.iload 8, 2) := by decide +kernel
theorem dX11_cartsBy_148 : decode cX11_cartsBy 148 = .ok (.iconst 3, 1) := by decide +kernel
theorem dX11_cartsBy_149 : decode cX11_cartsBy 149 = .ok (.iadd, 1) := by decide +kernel
theorem dX11_cartsBy_150 : decode cX11_cartsBy 150 = .ok (.iaload, 1) := by decide +kernel
theorem dX11_cartsBy_151 : decode cX11_cartsBy 151 = .ok (.aload_n 0, 1) := by decide +kernel
theorem dX11_cartsBy_152 : decode cX11_cartsBy 152 = .ok (.getfield 61, 3) := by decide +kernel
theorem dX11_cartsBy_155 : decode cX11_cartsBy 155 = .ok (.iload 8, 2) := by decide +kernel
theorem dX11_cartsBy_157 : decode cX11_cartsBy 157 = .ok (.iconst 4, 1) := by decide +kernel
theorem dX11_cartsBy_158 : decode cX11_cartsBy 158 = .ok (.iadd, 1) := by decide +kernel
theorem dX11_cartsBy_159 : decode cX11_cartsBy 159 = .ok (.iaload, 1) := by decide +kernel
theorem dX11_cartsBy_160 : decode cX11_cartsBy 160 = .ok (.invokevirtual 350, 3) := by decide +kernel
theorem dX11_cartsBy_163 : decode cX11_cartsBy 163 = .ok (.ifCond .lt 7, 3) := by decide +kernel
theorem dX11_cartsBy_166 : decode cX11_cartsBy 166 = .ok (.iconst 1, 1) := by decide +kernel
theorem dX11_cartsBy_167 : decode cX11_cartsBy 167 = .ok (.goto 4, 3) := by decide +kernel
theorem dX11_cartsBy_170 : decode cX11_cartsBy 170 = .ok (.iconst 0, 1) := by decide +kernel
theorem dX11_cartsBy_171 : decode cX11_cartsBy 171 = .ok (.iadd, 1) := by decide +kernel
theorem dX11_cartsBy_172 : decode cX11_cartsBy 172 = .ok (.istore 5, 2) := by decide +kernel
theorem dX11_cartsBy_174 : decode cX11_cartsBy 174 = .ok (.iinc 6 1, 3) := by decide +kernel
theorem dX11_cartsBy_177 : decode cX11_cartsBy 177 = .ok (.goto (-113), 3) := by decide +kernel
theorem dX11_cartsBy_180 : decode cX11_cartsBy 180 = .ok (.iload 5, 2) := by decide +kernel
theorem dX11_cartsBy_182 : decode cX11_cartsBy 182 = .ok (.ireturn, 1) := by decide +kernel
theorem dX11_isUnder_0 : decode cX11_isUnder 0 = .ok (.iload_n 1, 1) := by decide +kernel
theorem dX11_isUnder_1 : decode cX11_isUnder 1 = .ok (.ifCond .eq 28, 3) := by decide +kernel
theorem dX11_isUnder_4 : decode cX11_isUnder 4 = .ok (.iload_n 0, 1) := by decide +kernel
theorem dX11_isUnder_5 : decode cX11_isUnder 5 = .ok (.iload_n 1, 1) := by decide +kernel
theorem dX11_isUnder_6 : decode cX11_isUnder 6 = .ok (.if_icmp .eq 23, 3) := by decide +kernel
theorem dX11_isUnder_9 : decode cX11_isUnder 9 = .ok (.iload_n 1, 1) := by decide +kernel
theorem dX11_isUnder_10 : decode cX11_isUnder 10 = .ok (.iconst 1, 1) := by decide +kernel
theorem dX11_isUnder_11 : decode cX11_isUnder 11 = .ok (.if_icmp .ne 8, 3) := by decide +kernel
theorem dX11_isUnder_14 : decode cX11_isUnder 14 = .ok (.iload_n 0, 1) := by decide +kernel
theorem dX11_isUnder_15 : decode cX11_isUnder 15 = .ok (.iconst 3, 1) := by decide +kernel
theorem dX11_isUnder_16 : decode cX11_isUnder 16 = .ok (.if_icmp .eq 13, 3) := by decide +kernel
theorem dX11_isUnder_19 : decode cX11_isUnder 19 = .ok (.iload_n 1, 1) := by decide +kernel
theorem dX11_isUnder_20 : decode cX11_isUnder 20 = .ok (.iconst 2, 1) := by decide +kernel
theorem dX11_isUnder_21 : decode cX11_isUnder 21 = .ok (.if_icmp .ne 12, 3) := by decide +kernel
theorem dX11_isUnder_24 : decode cX11_isUnder 24 = .ok (.iload_n 0, 1) := by decide +kernel
theorem dX11_isUnder_25 : decode cX11_isUnder 25 = .ok (.iconst 5, 1) := by decide +kernel
theorem dX11_isUnder_26 : decode cX11_isUnder 26 = .ok (.if_icmp .ne 7, 3) := by decide +kernel
theorem dX11_isUnder_29 : decode cX11_isUnder 29 = .ok (.iconst 1, 1) := by decide +kernel
theorem dX11_isUnder_30 : decode cX11_isUnder 30 = .ok (.goto 4, 3) := by decide +kernel
theorem dX11_isUnder_33 : decode cX11_isUnder 33 = .ok (.iconst 0, 1) := by decide +kernel
theorem dX11_isUnder_34 : decode cX11_isUnder 34 = .ok (.ireturn, 1) := by decide +kernel
theorem dX11_taken_0 : decode cX11_taken 0 = .ok (.iload_n 2, 1) := by decide +kernel
theorem dX11_taken_1 : decode cX11_taken 1 = .ok (.iconst 0, 1) := by decide +kernel
theorem dX11_taken_2 : decode cX11_taken 2 = .ok (.bipush 6, 2) := by decide +kernel
theorem dX11_taken_4 : decode cX11_taken 4 = .ok (.invokestatic 114, 3) := by decide +kernel
theorem dX11_taken_7 : decode cX11_taken 7 = .ok (.ifCond .ne 6, 3) := by decide +kernel
theorem dX11_taken_10 : decode cX11_taken 10 = .ok (.bipush (-2), 2) := by decide +kernel
theorem dX11_taken_12 : decode cX11_taken 12 = .ok (.ireturn, 1) := by decide +kernel
theorem dX11_taken_13 : decode cX11_taken 13 = .ok (.iload_n 1, 1) := by decide +kernel
theorem dX11_taken_14 : decode cX11_taken 14 = .ok (.iconst 0, 1) := by decide +kernel
theorem dX11_taken_15 : decode cX11_taken 15 = .ok (.bipush 14, 2) := by decide +kernel
theorem dX11_taken_17 : decode cX11_taken 17 = .ok (.invokestatic 114, 3) := by decide +kernel
theorem dX11_taken_20 : decode cX11_taken 20 = .ok (.ifCond .ne 6, 3) := by decide +kernel
theorem dX11_taken_23 : decode cX11_taken 23 = .ok (.bipush (-12), 2) := by decide +kernel
theorem dX11_taken_25 : decode cX11_taken 25 = .ok (.ireturn, 1) := by decide +kernel
theorem dX11_taken_26 : decode cX11_taken 26 = .ok (.iload_n 1, 1) := by decide +kernel
theorem dX11_taken_27 : decode cX11_taken 27 = .ok (.iconst 5, 1) := by decide +kernel
theorem dX11_taken_28 : decode cX11_taken 28 = .ok (.if_icmp .ge 34, 3) := by decide +kernel
theorem dX11_taken_31 : decode cX11_taken 31 = .ok (.iload_n 1, 1) := by decide +kernel
theorem dX11_taken_32 : decode cX11_taken 32 = .ok (.aload_n 0, 1) := by decide +kernel
theorem dX11_taken_33 : decode cX11_taken 33 = .ok (.getfield 118, 3) := by decide +kernel
theorem dX11_taken_36 : decode cX11_taken 36 = .ok (.if_icmp .lt 8, 3) := by decide +kernel
theorem dX11_taken_39 : decode cX11_taken 39 = .ok (.bipush (-11), 2) := by decide +kernel
theorem dX11_taken_41 : decode cX11_taken 41 = .ok (.goto 20, 3) := by decide +kernel
theorem dX11_taken_44 : decode cX11_taken 44 = .ok (.iload_n 2, 1) := by decide +kernel
theorem dX11_taken_45 : decode cX11_taken 45 = .ok (.bipush 6, 2) := by decide +kernel
theorem dX11_taken_47 : decode cX11_taken 47 = .ok (.if_icmp .ne 12, 3) := by decide +kernel
theorem dX11_taken_50 : decode cX11_taken 50 = .ok (.aload_n 0, 1) := by decide +kernel
theorem dX11_taken_51 : decode cX11_taken 51 = .ok (.getfield 13, 3) := by decide +kernel
theorem dX11_taken_54 : decode cX11_taken 54 = .ok (.iload_n 1, 1) := by decide +kernel
theorem dX11_taken_55 : decode cX11_taken 55 = .ok (.iaload, 1) := by decide +kernel
theorem dX11_taken_56 : decode cX11_taken 56 = .ok (.goto 5, 3) := by decide +kernel
theorem dX11_taken_59 : decode cX11_taken 59 = .ok (.bipush (-13), 2) := by decide +kernel
theorem dX11_taken_61 : decode cX11_taken 61 = .ok (.ireturn, 1) := by decide +kernel
theorem dX11_taken_62 : decode cX11_taken 62 = .ok (.iload_n 1, 1) := by decide +kernel
theorem dX11_taken_63 : decode cX11_taken 63 = .ok (.iconst 5, 1) := by decide +kernel
theorem dX11_taken_64 : decode cX11_taken 64 = .ok (.isub, 1) := by decide +kernel
theorem dX11_taken_65 : decode cX11_taken 65 = .ok (.aload_n 0, 1) := by decide +kernel
theorem dX11_taken_66 : decode cX11_taken 66 = .ok (.getfield 111, 3) := by decide +kernel
theorem dX11_taken_69 : decode cX11_taken 69 = .ok (.if_icmp .lt 8, 3) := by decide +kernel
theorem dX11_taken_72 : decode cX11_taken 72 = .ok (.bipush (-11), 2) := by decide +kernel
theorem dX11_taken_74 : decode cX11_taken 74 = .ok (.goto 32, 3) := by decide +kernel
theorem dX11_taken_77 : decode cX11_taken 77 = .ok (.iload_n 2, 1) := by decide +kernel
theorem dX11_taken_78 : decode cX11_taken 78 = .ok (.bipush 6, 2) := by decide +kernel
theorem dX11_taken_80 : decode cX11_taken 80 = .ok (.if_icmp .ge 24, 3) := by decide +kernel
theorem dX11_taken_83 : decode cX11_taken 83 = .ok (.aload_n 0, 1) := by decide +kernel
theorem dX11_taken_84 : decode cX11_taken 84 = .ok (.getfield 19, 3) := by decide +kernel
theorem dX11_taken_87 : decode cX11_taken 87 = .ok (.iload_n 1, 1) := by decide +kernel
theorem dX11_taken_88 : decode cX11_taken 88 = .ok (.iconst 5, 1) := by decide +kernel
theorem dX11_taken_89 : decode cX11_taken 89 = .ok (.isub, 1) := by decide +kernel
theorem dX11_taken_90 : decode cX11_taken 90 = .ok (.iaload, 1) := by decide +kernel
theorem dX11_taken_91 : decode cX11_taken 91 = .ok (.iload_n 2, 1) := by decide +kernel
theorem dX11_taken_92 : decode cX11_taken 92 = .ok (.invokestatic 354, 3) := by decide +kernel
theorem dX11_taken_95 : decode cX11_taken 95 = .ok (.ifCond .eq 9, 3) := by decide +kernel
theorem dX11_taken_98 : decode cX11_taken 98 = .ok (.iload_n 1, 1) := by decide +kernel
theorem dX11_taken_99 : decode cX11_taken 99 = .ok (.iconst 5, 1) := by decide +kernel
theorem dX11_taken_100 : decode cX11_taken 100 = .ok (.isub, 1) := by decide +kernel
theorem dX11_taken_101 : decode cX11_taken 101 = .ok (.goto 5, 3) := by decide +kernel
theorem dX11_taken_104 : decode cX11_taken 104 = .ok (.bipush (-13), 2) := by decide +kernel
theorem dX11_taken_106 : decode cX11_taken 106 = .ok (.ireturn, 1) := by decide +kernel
