theorem d_Lw_0 : decode code 0 = .ok (.new 7, 3) := by decide +kernel
theorem d_Lw_3 : decode code 3 = .ok (.dup, 1) := by decide +kernel
theorem d_Lw_4 : decode code 4 = .ok (.invokespecial 9, 3) := by decide +kernel
theorem d_Lw_7 : decode code 7 = .ok (.astore_n 1, 1) := by decide +kernel
theorem d_Lw_8 : decode code 8 = .ok (.new 10, 3) := by decide +kernel
theorem d_Lw_11 : decode code 11 = .ok (.dup, 1) := by decide +kernel
theorem d_Lw_12 : decode code 12 = .ok (.invokespecial 12, 3) := by decide +kernel
theorem d_Lw_15 : decode code 15 = .ok (.astore_n 2, 1) := by decide +kernel
theorem d_Lw_16 : decode code 16 = .ok (.iconst 0, 1) := by decide +kernel
theorem d_Lw_17 : decode code 17 = .ok (.istore_n 3, 1) := by decide +kernel
theorem d_Lw_18 : decode code 18 = .ok (.iload_n 3, 1) := by decide +kernel
theorem d_Lw_19 : decode code 19 = .ok (.aload_n 0, 1) := by decide +kernel
theorem d_Lw_20 : decode code 20 = .ok (.arraylength, 1) := by decide +kernel
theorem d_Lw_21 : decode code 21 = .ok (.bipush 7, 2) := by decide +kernel
theorem d_Lw_23 : decode code 23 = .ok (.isub, 1) := by decide +kernel
theorem d_Lw_24 : decode code 24 = .ok (.if_icmp .gt 525, 3) := by decide +kernel
theorem d_Lw_27 : decode code 27 = .ok (.aload_n 0, 1) := by decide +kernel
theorem d_Lw_28 : decode code 28 = .ok (.iload_n 3, 1) := by decide +kernel
theorem d_Lw_29 : decode code 29 = .ok (.iaload, 1) := by decide +kernel
theorem d_Lw_30 : decode code 30 = .ok (.bipush 15, 2) := by decide +kernel
theorem d_Lw_32 : decode code 32 = .ok (.iand, 1) := by decide +kernel
theorem d_Lw_33 : decode code 33 = .ok (.tableswitch 510 0 12 #[67, 130, 173, 216, 291, 324, 347, 360, 383, 397, 421, 434, 457], 67) := by decide +kernel
theorem d_Lw_100 : decode code 100 = .ok (.aload_n 1, 1) := by decide +kernel
theorem d_Lw_101 : decode code 101 = .ok (.aload_n 0, 1) := by decide +kernel
theorem d_Lw_102 : decode code 102 = .ok (.iload_n 3, 1) := by decide +kernel
theorem d_Lw_103 : decode code 103 = .ok (.iconst 1, 1) := by decide +kernel
theorem d_Lw_104 : decode code 104 = .ok (.iadd, 1) := by decide +kernel
theorem d_Lw_105 : decode code 105 = .ok (.iaload, 1) := by decide +kernel
theorem d_Lw_106 : decode code 106 = .ok (.aload_n 0, 1) := by decide +kernel
theorem d_Lw_107 : decode code 107 = .ok (.iload_n 3, 1) := by decide +kernel
theorem d_Lw_108 : decode code 108 = .ok (.iconst 2, 1) := by decide +kernel
theorem d_Lw_109 : decode code 109 = .ok (.iadd, 1) := by decide +kernel
theorem d_Lw_110 : decode code 110 = .ok (.iaload, 1) := by decide +kernel
theorem d_Lw_111 : decode code 111 = .ok (.i2l, 1) := by decide +kernel
theorem d_Lw_112 : decode code 112 = .ok (.bipush 32, 2) := by decide +kernel
theorem d_Lw_114 : decode code 114 = .ok (.lshl, 1) := by decide +kernel
theorem d_Lw_115 : decode code 115 = .ok (.aload_n 0, 1) := by decide +kernel
theorem d_Lw_116 : decode code 116 = .ok (.iload_n 3, 1) := by decide +kernel
theorem d_Lw_117 : decode code 117 = .ok (.iconst 3, 1) := by decide +kernel
theorem d_Lw_118 : decode code 118 = .ok (.iadd, 1) := by decide +kernel
theorem d_Lw_119 : decode code 119 = .ok (.iaload, 1) := by decide +kernel
theorem d_Lw_120 : decode code 120 = .ok (.i2l, 1) := by decide +kernel
theorem d_Lw_121 : decode code 121 = .ok (.ldc2_w 13, 3) := by decide +kernel
theorem d_Lw_124 : decode code 124 = .ok (.land, 1) := by decide +kernel
theorem d_Lw_125 : decode code 125 = .ok (.lor, 1) := by decide +kernel
theorem d_Lw_126 : decode code 126 = .ok (.invokevirtual 15, 3) := by decide +kernel
theorem d_Lw_129 : decode code 129 = .ok (.aload_n 2, 1) := by decide +kernel
theorem d_Lw_130 : decode code 130 = .ok (.aload_n 0, 1) := by decide +kernel
theorem d_Lw_131 : decode code 131 = .ok (.iload_n 3, 1) := by decide +kernel
theorem d_Lw_132 : decode code 132 = .ok (.iconst 1, 1) := by decide +kernel
theorem d_Lw_133 : decode code 133 = .ok (.iadd, 1) := by decide +kernel
theorem d_Lw_134 : decode code 134 = .ok (.iaload, 1) := by decide +kernel
theorem d_Lw_135 : decode code 135 = .ok (.aload_n 0, 1) := by decide +kernel
theorem d_Lw_136 : decode code 136 = .ok (.iload_n 3, 1) := by decide +kernel
theorem d_Lw_137 : decode code 137 = .ok (.iconst 2, 1) := by decide +kernel
theorem d_Lw_138 : decode code 138 = .ok (.iadd, 1) := by decide +kernel
theorem d_Lw_139 : decode code 139 = .ok (.iaload, 1) := by decide +kernel
theorem d_Lw_140 : decode code 140 = .ok (.i2l, 1) := by decide +kernel
theorem d_Lw_141 : decode code 141 = .ok (.bipush 32, 2) := by decide +kernel
theorem d_Lw_143 : decode code 143 = .ok (.lshl, 1) := by decide +kernel
theorem d_Lw_144 : decode code 144 = .ok (.aload_n 0, 1) := by decide +kernel
theorem d_Lw_145 : decode code 145 = .ok (.iload_n 3, 1) := by decide +kernel
theorem d_Lw_146 : decode code 146 = .ok (.iconst 3, 1) := by decide +kernel
theorem d_Lw_147 : decode code 147 = .ok (.iadd, 1) := by decide +kernel
theorem d_Lw_148 : decode code 148 = .ok (.iaload, 1) := by decide +kernel
theorem d_Lw_149 : decode code 149 = .ok (.i2l, 1) := by decide +kernel
theorem d_Lw_150 : decode code 150 = .ok (.ldc2_w 13, 3) := by decide +kernel
theorem d_Lw_153 : decode code 153 = .ok (.land, 1) := by decide +kernel
theorem d_Lw_154 : decode code 154 = .ok (.lor, 1) := by decide +kernel
theorem d_Lw_155 : decode code 155 = .ok (.invokevirtual 19, 3) := by decide +kernel
theorem d_Lw_158 : decode code 158 = .ok (.if_icmp .eq 385, 3) := by decide +kernel
theorem d_Lw_161 : decode code 161 = .ok (.iconst 0, 1) := by decide +kernel
theorem d_Lw_162 : decode code 162 = .ok (.ireturn, 1) := by decide +kernel
theorem d_Lw_163 : decode code 163 = .ok (.aload_n 1, 1) := by decide +kernel
theorem d_Lw_164 : decode code 164 = .ok (.aload_n 0, 1) := by decide +kernel
theorem d_Lw_165 : decode code 165 = .ok (.iload_n 3, 1) := by decide +kernel
theorem d_Lw_166 : decode code 166 = .ok (.iconst 1, 1) := by decide +kernel
theorem d_Lw_167 : decode code 167 = .ok (.iadd, 1) := by decide +kernel
theorem d_Lw_168 : decode code 168 = .ok (.iaload, 1) := by decide +kernel
theorem d_Lw_169 : decode code 169 = .ok (.aload_n 0, 1) := by decide +kernel
theorem d_Lw_170 : decode code 170 = .ok (.iload_n 3, 1) := by decide +kernel
theorem d_Lw_171 : decode code 171 = .ok (.iconst 2, 1) := by decide +kernel
theorem d_Lw_172 : decode code 172 = .ok (.iadd, 1) := by decide +kernel
theorem d_Lw_173 : decode code 173 = .ok (.iaload, 1) := by decide +kernel
theorem d_Lw_174 : decode code 174 = .ok (.aload_n 0, 1) := by decide +kernel
theorem d_Lw_175 : decode code 175 = .ok (.iload_n 3, 1) := by decide +kernel
theorem d_Lw_176 : decode code 176 = .ok (.iconst 3, 1) := by decide +kernel
theorem d_Lw_177 : decode code 177 = .ok (.iadd, 1) := by decide +kernel
theorem d_Lw_178 : decode code 178 = .ok (.iaload, 1) := by decide +kernel
theorem d_Lw_179 : decode code 179 = .ok (.invokevirtual 20, 3) := by decide +kernel
theorem d_Lw_182 : decode code 182 = .ok (.aload_n 2, 1) := by decide +kernel
theorem d_Lw_183 : decode code 183 = .ok (.aload_n 0, 1) := by decide +kernel
theorem d_Lw_184 : decode code 184 = .ok (.iload_n 3, 1) := by decide +kernel
theorem d_Lw_185 : decode code 185 = .ok (.iconst 1, 1) := by decide +kernel
theorem d_Lw_186 : decode code 186 = .ok (.iadd, 1) := by decide +kernel
theorem d_Lw_187 : decode code 187 = .ok (.iaload, 1) := by decide +kernel
theorem d_Lw_188 : decode code 188 = .ok (.aload_n 0, 1) := by decide +kernel
theorem d_Lw_189 : decode code 189 = .ok (.iload_n 3, 1) := by decide +kernel
theorem d_Lw_190 : decode code 190 = .ok (.iconst 2, 1) := by decide +kernel
theorem d_Lw_191 : decode code 191 = .ok (.iadd, 1) := by decide +kernel
theorem d_Lw_192 : decode code 192 = .ok (.iaload, 1) := by decide +kernel
theorem d_Lw_193 : decode code 193 = .ok (.aload_n 0, 1) := by decide +kernel
theorem d_Lw_194 : decode code 194 = .ok (.iload_n 3, 1) := by decide +kernel
theorem d_Lw_195 : decode code 195 = .ok (.iconst 3, 1) := by decide +kernel
theorem d_Lw_196 : decode code 196 = .ok (.iadd, 1) := by decide +kernel
theorem d_Lw_197 : decode code 197 = .ok (.iaload, 1) := by decide +kernel
theorem d_Lw_198 : decode code 198 = .ok (.invokevirtual 24, 3) := by decide +kernel
theorem d_Lw_201 : decode code 201 = .ok (.if_icmp .eq 342, 3) := by decide +kernel
theorem d_Lw_204 : decode code 204 = .ok (.iconst 0, 1) := by decide +kernel
theorem d_Lw_205 : decode code 205 = .ok (.ireturn, 1) := by decide +kernel
theorem d_Lw_206 : decode code 206 = .ok (.aload_n 1, 1) := by decide +kernel
theorem d_Lw_207 : decode code 207 = .ok (.aload_n 0, 1) := by decide +kernel
theorem d_Lw_208 : decode code 208 = .ok (.iload_n 3, 1) := by decide +kernel
theorem d_Lw_209 : decode code 209 = .ok (.iconst 1, 1) := by decide +kernel
theorem d_Lw_210 : decode code 210 = .ok (.iadd, 1) := by decide +kernel
theorem d_Lw_211 : decode code 211 = .ok (.iaload, 1) := by decide +kernel
theorem d_Lw_212 : decode code 212 = .ok (.aload_n 0, 1) := by decide +kernel
theorem d_Lw_213 : decode code 213 = .ok (.iload_n 3, 1) := by decide +kernel
theorem d_Lw_214 : decode code 214 = .ok (.iconst 2, 1) := by decide +kernel
theorem d_Lw_215 : decode code 215 = .ok (.iadd, 1) := by decide +kernel
theorem d_Lw_216 : decode code 216 = .ok (.iaload, 1) := by decide +kernel
theorem d_Lw_217 : decode code 217 = .ok (.aload_n 0, 1) := by decide +kernel
theorem d_Lw_218 : decode code 218 = .ok (.iload_n 3, 1) := by decide +kernel
theorem d_Lw_219 : decode code 219 = .ok (.iconst 3, 1) := by decide +kernel
theorem d_Lw_220 : decode code 220 = .ok (.iadd, 1) := by decide +kernel
theorem d_Lw_221 : decode code 221 = .ok (.iaload, 1) := by decide +kernel
theorem d_Lw_222 : decode code 222 = .ok (.invokevirtual 25, 3) := by decide +kernel
theorem d_Lw_225 : decode code 225 = .ok (.aload_n 2, 1) := by decide +kernel
theorem d_Lw_226 : decode code 226 = .ok (.aload_n 0, 1) := by decide +kernel
theorem d_Lw_227 : decode code 227 = .ok (.iload_n 3, 1) := by decide +kernel
theorem d_Lw_228 : decode code 228 = .ok (.iconst 1, 1) := by decide +kernel
theorem d_Lw_229 : decode code 229 = .ok (.iadd, 1) := by decide +kernel
theorem d_Lw_230 : decode code 230 = .ok (.iaload, 1) := by decide +kernel
theorem d_Lw_231 : decode code 231 = .ok (.aload_n 0, 1) := by decide +kernel
theorem d_Lw_232 : decode code 232 = .ok (.iload_n 3, 1) := by decide +kernel
theorem d_Lw_233 : decode code 233 = .ok (.iconst 2, 1) := by decide +kernel
theorem d_Lw_234 : decode code 234 = .ok (.iadd, 1) := by decide +kernel
theorem d_Lw_235 : decode code 235 = .ok (.iaload, 1) := by decide +kernel
theorem d_Lw_236 : decode code 236 = .ok (.aload_n 0, 1) := by decide +kernel
theorem d_Lw_237 : decode code 237 = .ok (.iload_n 3, 1) := by decide +kernel
theorem d_Lw_238 : decode code 238 = .ok (.iconst 3, 1) := by decide +kernel
theorem d_Lw_239 : decode code 239 = .ok (.iadd, 1) := by decide +kernel
theorem d_Lw_240 : decode code 240 = .ok (.iaload, 1) := by decide +kernel
theorem d_Lw_241 : decode code 241 = .ok (.invokevirtual 28, 3) := by decide +kernel
theorem d_Lw_244 : decode code 244 = .ok (.if_icmp .eq 299, 3) := by decide +kernel
theorem d_Lw_247 : decode code 247 = .ok (.iconst 0, 1) := by decide +kernel
theorem d_Lw_248 : decode code 248 = .ok (.ireturn, 1) := by decide +kernel
theorem d_Lw_249 : decode code 249 = .ok (.aload_n 1, 1) := by decide +kernel
theorem d_Lw_250 : decode code 250 = .ok (.aload_n 0, 1) := by decide +kernel
theorem d_Lw_251 : decode code 251 = .ok (.iload_n 3, 1) := by decide +kernel
theorem d_Lw_252 : decode code 252 = .ok (.iconst 1, 1) := by decide +kernel
theorem d_Lw_253 : decode code 253 = .ok (.iadd, 1) := by decide +kernel
theorem d_Lw_254 : decode code 254 = .ok (.iaload, 1) := by decide +kernel
theorem d_Lw_255 : decode code 255 = .ok (.aload_n 0, 1) := by decide +kernel
theorem d_Lw_256 : decode code 256 = .ok (.iload_n 3, 1) := by decide +kernel
theorem d_Lw_257 : decode code 257 = .ok (.iconst 2, 1) := by decide +kernel
theorem d_Lw_258 : decode code 258 = .ok (.iadd, 1) := by decide +kernel
theorem d_Lw_259 : decode code 259 = .ok (.iaload, 1) := by decide +kernel
theorem d_Lw_260 : decode code 260 = .ok (.aload_n 0, 1) := by decide +kernel
theorem d_Lw_261 : decode code 261 = .ok (.iload_n 3, 1) := by decide +kernel
theorem d_Lw_262 : decode code 262 = .ok (.iconst 3, 1) := by decide +kernel
theorem d_Lw_263 : decode code 263 = .ok (.iadd, 1) := by decide +kernel
theorem d_Lw_264 : decode code 264 = .ok (.iaload, 1) := by decide +kernel
theorem d_Lw_265 : decode code 265 = .ok (.aload_n 0, 1) := by decide +kernel
theorem d_Lw_266 : decode code 266 = .ok (.iload_n 3, 1) := by decide +kernel
theorem d_Lw_267 : decode code 267 = .ok (.iconst 4, 1) := by decide +kernel
theorem d_Lw_268 : decode code 268 = .ok (.iadd, 1) := by decide +kernel
theorem d_Lw_269 : decode code 269 = .ok (.iaload, 1) := by decide +kernel
theorem d_Lw_270 : decode code 270 = .ok (.aload_n 0, 1) := by decide +kernel
theorem d_Lw_271 : decode code 271 = .ok (.iload_n 3, 1) := by decide +kernel
theorem d_Lw_272 : decode code 272 = .ok (.iconst 5, 1) := by decide +kernel
theorem d_Lw_273 : decode code 273 = .ok (.iadd, 1) := by decide +kernel
theorem d_Lw_274 : decode code 274 = .ok (.iaload, 1) := by decide +kernel
theorem d_Lw_275 : decode code 275 = .ok (.aload_n 0, 1) := by decide +kernel
theorem d_Lw_276 : decode code 276 = .ok (.iload_n 3, 1) := by decide +kernel
theorem d_Lw_277 : decode code 277 = .ok (.bipush 6, 2) := by decide +kernel
theorem d_Lw_279 : decode code 279 = .ok (.iadd, 1) := by decide +kernel
theorem d_Lw_280 : decode code 280 = .ok (.iaload, 1) := by decide +kernel
theorem d_Lw_281 : decode code 281 = .ok (.invokevirtual 29, 3) := by decide +kernel
theorem d_Lw_284 : decode code 284 = .ok (.aload_n 2, 1) := by decide +kernel
theorem d_Lw_285 : decode code 285 = .ok (.aload_n 0, 1) := by decide +kernel
theorem d_Lw_286 : decode code 286 = .ok (.iload_n 3, 1) := by decide +kernel
theorem d_Lw_287 : decode code 287 = .ok (.iconst 1, 1) := by decide +kernel
theorem d_Lw_288 : decode code 288 = .ok (.iadd, 1) := by decide +kernel
theorem d_Lw_289 : decode code 289 = .ok (.iaload, 1) := by decide +kernel
theorem d_Lw_290 : decode code 290 = .ok (.aload_n 0, 1) := by decide +kernel
theorem d_Lw_291 : decode code 291 = .ok (.iload_n 3, 1) := by decide +kernel
theorem d_Lw_292 : decode code 292 = .ok (.iconst 2, 1) := by decide +kernel
theorem d_Lw_293 : decode code 293 = .ok (.iadd, 1) := by decide +kernel
theorem d_Lw_294 : decode code 294 = .ok (.iaload, 1) := by decide +kernel
theorem d_Lw_295 : decode code 295 = .ok (.aload_n 0, 1) := by decide +kernel
theorem d_Lw_296 : decode code 296 = .ok (.iload_n 3, 1) := by decide +kernel
theorem d_Lw_297 : decode code 297 = .ok (.iconst 3, 1) := by decide +kernel
theorem d_Lw_298 : decode code 298 = .ok (.iadd, 1) := by decide +kernel
theorem d_Lw_299 : decode code 299 = .ok (.iaload, 1) := by decide +kernel
theorem d_Lw_300 : decode code 300 = .ok (.aload_n 0, 1) := by decide +kernel
theorem d_Lw_301 : decode code 301 = .ok (.iload_n 3, 1) := by decide +kernel
theorem d_Lw_302 : decode code 302 = .ok (.iconst 4, 1) := by decide +kernel
theorem d_Lw_303 : decode code 303 = .ok (.iadd, 1) := by decide +kernel
theorem d_Lw_304 : decode code 304 = .ok (.iaload, 1) := by decide +kernel
theorem d_Lw_305 : decode code 305 = .ok (.aload_n 0, 1) := by decide +kernel
theorem d_Lw_306 : decode code 306 = .ok (.iload_n 3, 1) := by decide +kernel
theorem d_Lw_307 : decode code 307 = .ok (.iconst 5, 1) := by decide +kernel
theorem d_Lw_308 : decode code 308 = .ok (.iadd, 1) := by decide +kernel
theorem d_Lw_309 : decode code 309 = .ok (.iaload, 1) := by decide +kernel
theorem d_Lw_310 : decode code 310 = .ok (.aload_n 0, 1) := by decide +kernel
theorem d_Lw_311 : decode code 311 = .ok (.iload_n 3, 1) := by decide +kernel
theorem d_Lw_312 : decode code 312 = .ok (.bipush 6, 2) := by decide +kernel
theorem d_Lw_314 : decode code 314 = .ok (.iadd, 1) := by decide +kernel
theorem d_Lw_315 : decode code 315 = .ok (.iaload, 1) := by decide +kernel
theorem d_Lw_316 : decode code 316 = .ok (.invokevirtual 33, 3) := by decide +kernel
theorem d_Lw_319 : decode code 319 = .ok (.if_icmp .eq 224, 3) := by decide +kernel
theorem d_Lw_322 : decode code 322 = .ok (.iconst 0, 1) := by decide +kernel
theorem d_Lw_323 : decode code 323 = .ok (.ireturn, 1) := by decide +kernel
theorem d_Lw_324 : decode code 324 = .ok (.aload_n 1, 1) := by decide +kernel
theorem d_Lw_325 : decode code 325 = .ok (.aload_n 0, 1) := by decide +kernel
theorem d_Lw_326 : decode code 326 = .ok (.iload_n 3, 1) := by decide +kernel
theorem d_Lw_327 : decode code 327 = .ok (.iconst 1, 1) := by decide +kernel
theorem d_Lw_328 : decode code 328 = .ok (.iadd, 1) := by decide +kernel
theorem d_Lw_329 : decode code 329 = .ok (.iaload, 1) := by decide +kernel
theorem d_Lw_330 : decode code 330 = .ok (.aload_n 0, 1) := by decide +kernel
theorem d_Lw_331 : decode code 331 = .ok (.iload_n 3, 1) := by decide +kernel
theorem d_Lw_332 : decode code 332 = .ok (.iconst 2, 1) := by decide +kernel
theorem d_Lw_333 : decode code 333 = .ok (.iadd, 1) := by decide +kernel
theorem d_Lw_334 : decode code 334 = .ok (.iaload, 1) := by decide +kernel
theorem d_Lw_335 : decode code 335 = .ok (.invokevirtual 34, 3) := by decide +kernel
theorem d_Lw_338 : decode code 338 = .ok (.aload_n 2, 1) := by decide +kernel
theorem d_Lw_339 : decode code 339 = .ok (.aload_n 0, 1) := by decide +kernel
theorem d_Lw_340 : decode code 340 = .ok (.iload_n 3, 1) := by decide +kernel
theorem d_Lw_341 : decode code 341 = .ok (.iconst 1, 1) := by decide +kernel
theorem d_Lw_342 : decode code 342 = .ok (.iadd, 1) := by decide +kernel
theorem d_Lw_343 : decode code 343 = .ok (.iaload, 1) := by decide +kernel
theorem d_Lw_344 : decode code 344 = .ok (.aload_n 0, 1) := by decide +kernel
theorem d_Lw_345 : decode code 345 = .ok (.iload_n 3, 1) := by decide +kernel
theorem d_Lw_346 : decode code 346 = .ok (.iconst 2, 1) := by decide +kernel
theorem d_Lw_347 : decode code 347 = .ok (.iadd, 1) := by decide +kernel
theorem d_Lw_348 : decode code 348 = .ok (.iaload, 1) := by decide +kernel
theorem d_Lw_349 : decode code 349 = .ok (.invokevirtual 38, 3) := by decide +kernel
theorem d_Lw_352 : decode code 352 = .ok (.if_icmp .eq 191, 3) := by decide +kernel
theorem d_Lw_355 : decode code 355 = .ok (.iconst 0, 1) := by decide +kernel
theorem d_Lw_356 : decode code 356 = .ok (.ireturn, 1) := by decide +kernel
theorem d_Lw_357 : decode code 357 = .ok (.aload_n 1, 1) := by decide +kernel
theorem d_Lw_358 : decode code 358 = .ok (.aload_n 0, 1) := by decide +kernel
theorem d_Lw_359 : decode code 359 = .ok (.iload_n 3, 1) := by decide +kernel
theorem d_Lw_360 : decode code 360 = .ok (.iconst 1, 1) := by decide +kernel
theorem d_Lw_361 : decode code 361 = .ok (.iadd, 1) := by decide +kernel
theorem d_Lw_362 : decode code 362 = .ok (.iaload, 1) := by decide +kernel
theorem d_Lw_363 : decode code 363 = .ok (.invokevirtual 39, 3) := by decide +kernel
theorem d_Lw_366 : decode code 366 = .ok (.aload_n 2, 1) := by decide +kernel
theorem d_Lw_367 : decode code 367 = .ok (.aload_n 0, 1) := by decide +kernel
theorem d_Lw_368 : decode code 368 = .ok (.iload_n 3, 1) := by decide +kernel
theorem d_Lw_369 : decode code 369 = .ok (.iconst 1, 1) := by decide +kernel
theorem d_Lw_370 : decode code 370 = .ok (.iadd, 1) := by decide +kernel
theorem d_Lw_371 : decode code 371 = .ok (.iaload, 1) := by decide +kernel
theorem d_Lw_372 : decode code 372 = .ok (.invokevirtual 43, 3) := by decide +kernel
theorem d_Lw_375 : decode code 375 = .ok (.if_icmp .eq 168, 3) := by decide +kernel
theorem d_Lw_378 : decode code 378 = .ok (.iconst 0, 1) := by decide +kernel
theorem d_Lw_379 : decode code 379 = .ok (.ireturn, 1) := by decide +kernel
theorem d_Lw_380 : decode code 380 = .ok (.aload_n 1, 1) := by decide +kernel
theorem d_Lw_381 : decode code 381 = .ok (.invokevirtual 44, 3) := by decide +kernel
theorem d_Lw_384 : decode code 384 = .ok (.aload_n 2, 1) := by decide +kernel
theorem d_Lw_385 : decode code 385 = .ok (.invokevirtual 48, 3) := by decide +kernel
theorem d_Lw_388 : decode code 388 = .ok (.if_icmp .eq 155, 3) := by decide +kernel
theorem d_Lw_391 : decode code 391 = .ok (.iconst 0, 1) := by decide +kernel
theorem d_Lw_392 : decode code 392 = .ok (.ireturn, 1) := by decide +kernel
theorem d_Lw_393 : decode code 393 = .ok (.aload_n 1, 1) := by decide +kernel
theorem d_Lw_394 : decode code 394 = .ok (.aload_n 0, 1) := by decide +kernel
theorem d_Lw_395 : decode code 395 = .ok (.iload_n 3, 1) := by decide +kernel
theorem d_Lw_396 : decode code 396 = .ok (.iconst 1, 1) := by decide +kernel
theorem d_Lw_397 : decode code 397 = .ok (.iadd, 1) := by decide +kernel
theorem d_Lw_398 : decode code 398 = .ok (.iaload, 1) := by decide +kernel
theorem d_Lw_399 : decode code 399 = .ok (.invokevirtual 49, 3) := by decide +kernel
theorem d_Lw_402 : decode code 402 = .ok (.aload_n 2, 1) := by decide +kernel
theorem d_Lw_403 : decode code 403 = .ok (.aload_n 0, 1) := by decide +kernel
theorem d_Lw_404 : decode code 404 = .ok (.iload_n 3, 1) := by decide +kernel
theorem d_Lw_405 : decode code 405 = .ok (.iconst 1, 1) := by decide +kernel
theorem d_Lw_406 : decode code 406 = .ok (.iadd, 1) := by decide +kernel
theorem d_Lw_407 : decode code 407 = .ok (.iaload, 1) := by decide +kernel
theorem d_Lw_408 : decode code 408 = .ok (.invokevirtual 53, 3) := by decide +kernel
theorem d_Lw_411 : decode code 411 = .ok (.if_icmp .eq 132, 3) := by decide +kernel
theorem d_Lw_414 : decode code 414 = .ok (.iconst 0, 1) := by decide +kernel
theorem d_Lw_415 : decode code 415 = .ok (.ireturn, 1) := by decide +kernel
theorem d_Lw_416 : decode code 416 = .ok (.aload_n 1, 1) := by decide +kernel
theorem d_Lw_417 : decode code 417 = .ok (.invokevirtual 54, 3) := by decide +kernel
theorem d_Lw_420 : decode code 420 = .ok (.aload_n 2, 1) := by decide +kernel
theorem d_Lw_421 : decode code 421 = .ok (.invokevirtual 58, 3) := by decide +kernel
theorem d_Lw_424 : decode code 424 = .ok (.lcmp, 1) := by decide +kernel
theorem d_Lw_425 : decode code 425 = .ok (.ifCond .eq 118, 3) := by decide +kernel
theorem d_Lw_428 : decode code 428 = .ok (.iconst 0, 1) := by decide +kernel
theorem d_Lw_429 : decode code 429 = .ok (.ireturn, 1) := by decide +kernel
theorem d_Lw_430 : decode code 430 = .ok (.aload_n 1, 1) := by decide +kernel
theorem d_Lw_431 : decode code 431 = .ok (.aload_n 0, 1) := by decide +kernel
theorem d_Lw_432 : decode code 432 = .ok (.iload_n 3, 1) := by decide +kernel
theorem d_Lw_433 : decode code 433 = .ok (.iconst 1, 1) := by decide +kernel
theorem d_Lw_434 : decode code 434 = .ok (.iadd, 1) := by decide +kernel
theorem d_Lw_435 : decode code 435 = .ok (.iaload, 1) := by decide +kernel
theorem d_Lw_436 : decode code 436 = .ok (.invokevirtual 59, 3) := by decide +kernel
theorem d_Lw_439 : decode code 439 = .ok (.aload_n 2, 1) := by decide +kernel
theorem d_Lw_440 : decode code 440 = .ok (.aload_n 0, 1) := by decide +kernel
theorem d_Lw_441 : decode code 441 = .ok (.iload_n 3, 1) := by decide +kernel
theorem d_Lw_442 : decode code 442 = .ok (.iconst 1, 1) := by decide +kernel
theorem d_Lw_443 : decode code 443 = .ok (.iadd, 1) := by decide +kernel
theorem d_Lw_444 : decode code 444 = .ok (.iaload, 1) := by decide +kernel
theorem d_Lw_445 : decode code 445 = .ok (.invokevirtual 63, 3) := by decide +kernel
theorem d_Lw_448 : decode code 448 = .ok (.lcmp, 1) := by decide +kernel
theorem d_Lw_449 : decode code 449 = .ok (.ifCond .eq 94, 3) := by decide +kernel
theorem d_Lw_452 : decode code 452 = .ok (.iconst 0, 1) := by decide +kernel
theorem d_Lw_453 : decode code 453 = .ok (.ireturn, 1) := by decide +kernel
theorem d_Lw_454 : decode code 454 = .ok (.aload_n 1, 1) := by decide +kernel
theorem d_Lw_455 : decode code 455 = .ok (.invokevirtual 64, 3) := by decide +kernel
theorem d_Lw_458 : decode code 458 = .ok (.aload_n 2, 1) := by decide +kernel
theorem d_Lw_459 : decode code 459 = .ok (.invokevirtual 67, 3) := by decide +kernel
theorem d_Lw_462 : decode code 462 = .ok (.if_icmp .eq 81, 3) := by decide +kernel
theorem d_Lw_465 : decode code 465 = .ok (.iconst 0, 1) := by decide +kernel
theorem d_Lw_466 : decode code 466 = .ok (.ireturn, 1) := by decide +kernel
theorem d_Lw_467 : decode code 467 = .ok (.aload_n 1, 1) := by decide +kernel
theorem d_Lw_468 : decode code 468 = .ok (.aload_n 0, 1) := by decide +kernel
theorem d_Lw_469 : decode code 469 = .ok (.iload_n 3, 1) := by decide +kernel
theorem d_Lw_470 : decode code 470 = .ok (.iconst 1, 1) := by decide +kernel
theorem d_Lw_471 : decode code 471 = .ok (.iadd, 1) := by decide +kernel
theorem d_Lw_472 : decode code 472 = .ok (.iaload, 1) := by decide +kernel
theorem d_Lw_473 : decode code 473 = .ok (.invokevirtual 68, 3) := by decide +kernel
theorem d_Lw_476 : decode code 476 = .ok (.aload_n 2, 1) := by decide +kernel
theorem d_Lw_477 : decode code 477 = .ok (.aload_n 0, 1) := by decide +kernel
theorem d_Lw_478 : decode code 478 = .ok (.iload_n 3, 1) := by decide +kernel
theorem d_Lw_479 : decode code 479 = .ok (.iconst 1, 1) := by decide +kernel
theorem d_Lw_480 : decode code 480 = .ok (.iadd, 1) := by decide +kernel
theorem d_Lw_481 : decode code 481 = .ok (.iaload, 1) := by decide +kernel
theorem d_Lw_482 : decode code 482 = .ok (.invokevirtual 71, 3) := by decide +kernel
theorem d_Lw_485 : decode code 485 = .ok (.if_icmp .eq 58, 3) := by decide +kernel
theorem d_Lw_488 : decode code 488 = .ok (.iconst 0, 1) := by decide +kernel
theorem d_Lw_489 : decode code 489 = .ok (.ireturn, 1) := by decide +kernel
theorem d_Lw_490 : decode code 490 = .ok (.aload_n 1, 1) := by decide +kernel
theorem d_Lw_491 : decode code 491 = .ok (.aload_n 0, 1) := by decide +kernel
theorem d_Lw_492 : decode code 492 = .ok (.iload_n 3, 1) := by decide +kernel
theorem d_Lw_493 : decode code 493 = .ok (.iconst 1, 1) := by decide +kernel
theorem d_Lw_494 : decode code 494 = .ok (.iadd, 1) := by decide +kernel
theorem d_Lw_495 : decode code 495 = .ok (.iaload, 1) := by decide +kernel
theorem d_Lw_496 : decode code 496 = .ok (.aload_n 0, 1) := by decide +kernel
theorem d_Lw_497 : decode code 497 = .ok (.iload_n 3, 1) := by decide +kernel
theorem d_Lw_498 : decode code 498 = .ok (.iconst 2, 1) := by decide +kernel
theorem d_Lw_499 : decode code 499 = .ok (.iadd, 1) := by decide +kernel
theorem d_Lw_500 : decode code 500 = .ok (.iaload, 1) := by decide +kernel
theorem d_Lw_501 : decode code 501 = .ok (.aload_n 0, 1) := by decide +kernel
theorem d_Lw_502 : decode code 502 = .ok (.iload_n 3, 1) := by decide +kernel
theorem d_Lw_503 : decode code 503 = .ok (.iconst 3, 1) := by decide +kernel
theorem d_Lw_504 : decode code 504 = .ok (.iadd, 1) := by decide +kernel
theorem d_Lw_505 : decode code 505 = .ok (.iaload, 1) := by decide +kernel
theorem d_Lw_506 : decode code 506 = .ok (.aload_n 0, 1) := by decide +kernel
theorem d_Lw_507 : decode code 507 = .ok (.iload_n 3, 1) := by decide +kernel
theorem d_Lw_508 : decode code 508 = .ok (.iconst 4, 1) := by decide +kernel
theorem d_Lw_509 : decode code 509 = .ok (.iadd, 1) := by decide +kernel
theorem d_Lw_510 : decode code 510 = .ok (.iaload, 1) := by decide +kernel
theorem d_Lw_511 : decode code 511 = .ok (.invokevirtual 72, 3) := by decide +kernel
theorem d_Lw_514 : decode code 514 = .ok (.aload_n 2, 1) := by decide +kernel
theorem d_Lw_515 : decode code 515 = .ok (.aload_n 0, 1) := by decide +kernel
theorem d_Lw_516 : decode code 516 = .ok (.iload_n 3, 1) := by decide +kernel
theorem d_Lw_517 : decode code 517 = .ok (.iconst 1, 1) := by decide +kernel
theorem d_Lw_518 : decode code 518 = .ok (.iadd, 1) := by decide +kernel
theorem d_Lw_519 : decode code 519 = .ok (.iaload, 1) := by decide +kernel
theorem d_Lw_520 : decode code 520 = .ok (.aload_n 0, 1) := by decide +kernel
theorem d_Lw_521 : decode code 521 = .ok (.iload_n 3, 1) := by decide +kernel
theorem d_Lw_522 : decode code 522 = .ok (.iconst 2, 1) := by decide +kernel
theorem d_Lw_523 : decode code 523 = .ok (.iadd, 1) := by decide +kernel
theorem d_Lw_524 : decode code 524 = .ok (.iaload, 1) := by decide +kernel
theorem d_Lw_525 : decode code 525 = .ok (.aload_n 0, 1) := by decide +kernel
theorem d_Lw_526 : decode code 526 = .ok (.iload_n 3, 1) := by decide +kernel
theorem d_Lw_527 : decode code 527 = .ok (.iconst 3, 1) := by decide +kernel
theorem d_Lw_528 : decode code 528 = .ok (.iadd, 1) := by decide +kernel
theorem d_Lw_529 : decode code 529 = .ok (.iaload, 1) := by decide +kernel
theorem d_Lw_530 : decode code 530 = .ok (.aload_n 0, 1) := by decide +kernel
theorem d_Lw_531 : decode code 531 = .ok (.iload_n 3, 1) := by decide +kernel
theorem d_Lw_532 : decode code 532 = .ok (.iconst 4, 1) := by decide +kernel
theorem d_Lw_533 : decode code 533 = .ok (.iadd, 1) := by decide +kernel
theorem d_Lw_534 : decode code 534 = .ok (.iaload, 1) := by decide +kernel
theorem d_Lw_535 : decode code 535 = .ok (.invokevirtual 76, 3) := by decide +kernel
theorem d_Lw_538 : decode code 538 = .ok (.if_icmp .eq 5, 3) := by decide +kernel
theorem d_Lw_541 : decode code 541 = .ok (.iconst 0, 1) := by decide +kernel
theorem d_Lw_542 : decode code 542 = .ok (.ireturn, 1) := by decide +kernel
theorem d_Lw_543 : decode code 543 = .ok (.iinc 3 7, 3) := by decide +kernel
theorem d_Lw_546 : decode code 546 = .ok (.goto (-528), 3) := by decide +kernel
theorem d_Lw_549 : decode code 549 = .ok (.iconst 1, 1) := by decide +kernel
theorem d_Lw_550 : decode code 550 = .ok (.ireturn, 1) := by decide +kernel
