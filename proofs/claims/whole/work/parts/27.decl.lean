set_option maxRecDepth 20000
def m_L_law : MD := (yL_law, code, 4, ret)
theorem d_L_law_0 : decode m_L_law.2.1 0 = .ok (.new 7, 3) := by decide +kernel
theorem d_L_law_3 : decode m_L_law.2.1 3 = .ok (.dup, 1) := by decide +kernel
theorem d_L_law_4 : decode m_L_law.2.1 4 = .ok (.invokespecial 9, 3) := by decide +kernel
theorem d_L_law_7 : decode m_L_law.2.1 7 = .ok (.astore_n 1, 1) := by decide +kernel
theorem d_L_law_8 : decode m_L_law.2.1 8 = .ok (.new 10, 3) := by decide +kernel
theorem d_L_law_11 : decode m_L_law.2.1 11 = .ok (.dup, 1) := by decide +kernel
theorem d_L_law_12 : decode m_L_law.2.1 12 = .ok (.invokespecial 12, 3) := by decide +kernel
theorem d_L_law_15 : decode m_L_law.2.1 15 = .ok (.astore_n 2, 1) := by decide +kernel
theorem d_L_law_16 : decode m_L_law.2.1 16 = .ok (.iconst 0, 1) := by decide +kernel
theorem d_L_law_17 : decode m_L_law.2.1 17 = .ok (.istore_n 3, 1) := by decide +kernel
theorem d_L_law_18 : decode m_L_law.2.1 18 = .ok (.iload_n 3, 1) := by decide +kernel
theorem d_L_law_19 : decode m_L_law.2.1 19 = .ok (.aload_n 0, 1) := by decide +kernel
theorem d_L_law_20 : decode m_L_law.2.1 20 = .ok (.arraylength, 1) := by decide +kernel
theorem d_L_law_21 : decode m_L_law.2.1 21 = .ok (.iconst 5, 1) := by decide +kernel
theorem d_L_law_22 : decode m_L_law.2.1 22 = .ok (.isub, 1) := by decide +kernel
theorem d_L_law_23 : decode m_L_law.2.1 23 = .ok (.if_icmp .gt 755, 3) := by decide +kernel
theorem d_L_law_26 : decode m_L_law.2.1 26 = .ok (.aload_n 0, 1) := by decide +kernel
theorem d_L_law_27 : decode m_L_law.2.1 27 = .ok (.iload_n 3, 1) := by decide +kernel
theorem d_L_law_28 : decode m_L_law.2.1 28 = .ok (.iaload, 1) := by decide +kernel
theorem d_L_law_29 : decode m_L_law.2.1 29 = .ok (.bipush 31, 2) := by decide +kernel
theorem d_L_law_31 : decode m_L_law.2.1 31 = .ok (.iand, 1) := by decide +kernel
theorem d_L_law_32 : decode m_L_law.2.1 32 = .ok (.tableswitch 740 0 21 #[104, 127, 140, 153, 176, 219, 262, 285, 318, 351, 384, 407, 440, 473, 506, 539, 582, 635, 658, 681, 694, 717], 104) := by decide +kernel
theorem d_L_law_136 : decode m_L_law.2.1 136 = .ok (.aload_n 1, 1) := by decide +kernel
theorem d_L_law_137 : decode m_L_law.2.1 137 = .ok (.aload_n 0, 1) := by decide +kernel
theorem d_L_law_138 : decode m_L_law.2.1 138 = .ok (.iload_n 3, 1) := by decide +kernel
theorem d_L_law_139 : decode m_L_law.2.1 139 = .ok (.iconst 1, 1) := by decide +kernel
theorem d_L_law_140 : decode m_L_law.2.1 140 = .ok (.iadd, 1) := by decide +kernel
theorem d_L_law_141 : decode m_L_law.2.1 141 = .ok (.iaload, 1) := by decide +kernel
theorem d_L_law_142 : decode m_L_law.2.1 142 = .ok (.invokevirtual 13, 3) := by decide +kernel
theorem d_L_law_145 : decode m_L_law.2.1 145 = .ok (.aload_n 2, 1) := by decide +kernel
theorem d_L_law_146 : decode m_L_law.2.1 146 = .ok (.aload_n 0, 1) := by decide +kernel
theorem d_L_law_147 : decode m_L_law.2.1 147 = .ok (.iload_n 3, 1) := by decide +kernel
theorem d_L_law_148 : decode m_L_law.2.1 148 = .ok (.iconst 1, 1) := by decide +kernel
theorem d_L_law_149 : decode m_L_law.2.1 149 = .ok (.iadd, 1) := by decide +kernel
theorem d_L_law_150 : decode m_L_law.2.1 150 = .ok (.iaload, 1) := by decide +kernel
theorem d_L_law_151 : decode m_L_law.2.1 151 = .ok (.invokevirtual 17, 3) := by decide +kernel
theorem d_L_law_154 : decode m_L_law.2.1 154 = .ok (.if_icmp .eq 618, 3) := by decide +kernel
theorem d_L_law_157 : decode m_L_law.2.1 157 = .ok (.iconst 0, 1) := by decide +kernel
theorem d_L_law_158 : decode m_L_law.2.1 158 = .ok (.ireturn, 1) := by decide +kernel
theorem d_L_law_159 : decode m_L_law.2.1 159 = .ok (.aload_n 1, 1) := by decide +kernel
theorem d_L_law_160 : decode m_L_law.2.1 160 = .ok (.invokevirtual 18, 3) := by decide +kernel
theorem d_L_law_163 : decode m_L_law.2.1 163 = .ok (.aload_n 2, 1) := by decide +kernel
theorem d_L_law_164 : decode m_L_law.2.1 164 = .ok (.invokevirtual 22, 3) := by decide +kernel
theorem d_L_law_167 : decode m_L_law.2.1 167 = .ok (.if_icmp .eq 605, 3) := by decide +kernel
theorem d_L_law_170 : decode m_L_law.2.1 170 = .ok (.iconst 0, 1) := by decide +kernel
theorem d_L_law_171 : decode m_L_law.2.1 171 = .ok (.ireturn, 1) := by decide +kernel
theorem d_L_law_172 : decode m_L_law.2.1 172 = .ok (.aload_n 1, 1) := by decide +kernel
theorem d_L_law_173 : decode m_L_law.2.1 173 = .ok (.invokevirtual 23, 3) := by decide +kernel
theorem d_L_law_176 : decode m_L_law.2.1 176 = .ok (.aload_n 2, 1) := by decide +kernel
theorem d_L_law_177 : decode m_L_law.2.1 177 = .ok (.invokevirtual 26, 3) := by decide +kernel
theorem d_L_law_180 : decode m_L_law.2.1 180 = .ok (.if_icmp .eq 592, 3) := by decide +kernel
theorem d_L_law_183 : decode m_L_law.2.1 183 = .ok (.iconst 0, 1) := by decide +kernel
theorem d_L_law_184 : decode m_L_law.2.1 184 = .ok (.ireturn, 1) := by decide +kernel
theorem d_L_law_185 : decode m_L_law.2.1 185 = .ok (.aload_n 1, 1) := by decide +kernel
theorem d_L_law_186 : decode m_L_law.2.1 186 = .ok (.aload_n 0, 1) := by decide +kernel
theorem d_L_law_187 : decode m_L_law.2.1 187 = .ok (.iload_n 3, 1) := by decide +kernel
theorem d_L_law_188 : decode m_L_law.2.1 188 = .ok (.iconst 1, 1) := by decide +kernel
theorem d_L_law_189 : decode m_L_law.2.1 189 = .ok (.iadd, 1) := by decide +kernel
theorem d_L_law_190 : decode m_L_law.2.1 190 = .ok (.iaload, 1) := by decide +kernel
theorem d_L_law_191 : decode m_L_law.2.1 191 = .ok (.invokevirtual 27, 3) := by decide +kernel
theorem d_L_law_194 : decode m_L_law.2.1 194 = .ok (.aload_n 2, 1) := by decide +kernel
theorem d_L_law_195 : decode m_L_law.2.1 195 = .ok (.aload_n 0, 1) := by decide +kernel
theorem d_L_law_196 : decode m_L_law.2.1 196 = .ok (.iload_n 3, 1) := by decide +kernel
theorem d_L_law_197 : decode m_L_law.2.1 197 = .ok (.iconst 1, 1) := by decide +kernel
theorem d_L_law_198 : decode m_L_law.2.1 198 = .ok (.iadd, 1) := by decide +kernel
theorem d_L_law_199 : decode m_L_law.2.1 199 = .ok (.iaload, 1) := by decide +kernel
theorem d_L_law_200 : decode m_L_law.2.1 200 = .ok (.invokevirtual 30, 3) := by decide +kernel
theorem d_L_law_203 : decode m_L_law.2.1 203 = .ok (.if_icmp .eq 569, 3) := by decide +kernel
theorem d_L_law_206 : decode m_L_law.2.1 206 = .ok (.iconst 0, 1) := by decide +kernel
theorem d_L_law_207 : decode m_L_law.2.1 207 = .ok (.ireturn, 1) := by decide +kernel
theorem d_L_law_208 : decode m_L_law.2.1 208 = .ok (.aload_n 1, 1) := by decide +kernel
theorem d_L_law_209 : decode m_L_law.2.1 209 = .ok (.aload_n 0, 1) := by decide +kernel
theorem d_L_law_210 : decode m_L_law.2.1 210 = .ok (.iload_n 3, 1) := by decide +kernel
theorem d_L_law_211 : decode m_L_law.2.1 211 = .ok (.iconst 1, 1) := by decide +kernel
theorem d_L_law_212 : decode m_L_law.2.1 212 = .ok (.iadd, 1) := by decide +kernel
theorem d_L_law_213 : decode m_L_law.2.1 213 = .ok (.iaload, 1) := by decide +kernel
theorem d_L_law_214 : decode m_L_law.2.1 214 = .ok (.aload_n 0, 1) := by decide +kernel
theorem d_L_law_215 : decode m_L_law.2.1 215 = .ok (.iload_n 3, 1) := by decide +kernel
theorem d_L_law_216 : decode m_L_law.2.1 216 = .ok (.iconst 2, 1) := by decide +kernel
theorem d_L_law_217 : decode m_L_law.2.1 217 = .ok (.iadd, 1) := by decide +kernel
theorem d_L_law_218 : decode m_L_law.2.1 218 = .ok (.iaload, 1) := by decide +kernel
theorem d_L_law_219 : decode m_L_law.2.1 219 = .ok (.aload_n 0, 1) := by decide +kernel
theorem d_L_law_220 : decode m_L_law.2.1 220 = .ok (.iload_n 3, 1) := by decide +kernel
theorem d_L_law_221 : decode m_L_law.2.1 221 = .ok (.iconst 3, 1) := by decide +kernel
theorem d_L_law_222 : decode m_L_law.2.1 222 = .ok (.iadd, 1) := by decide +kernel
theorem d_L_law_223 : decode m_L_law.2.1 223 = .ok (.iaload, 1) := by decide +kernel
theorem d_L_law_224 : decode m_L_law.2.1 224 = .ok (.invokevirtual 31, 3) := by decide +kernel
theorem d_L_law_227 : decode m_L_law.2.1 227 = .ok (.aload_n 2, 1) := by decide +kernel
theorem d_L_law_228 : decode m_L_law.2.1 228 = .ok (.aload_n 0, 1) := by decide +kernel
theorem d_L_law_229 : decode m_L_law.2.1 229 = .ok (.iload_n 3, 1) := by decide +kernel
theorem d_L_law_230 : decode m_L_law.2.1 230 = .ok (.iconst 1, 1) := by decide +kernel
theorem d_L_law_231 : decode m_L_law.2.1 231 = .ok (.iadd, 1) := by decide +kernel
theorem d_L_law_232 : decode m_L_law.2.1 232 = .ok (.iaload, 1) := by decide +kernel
theorem d_L_law_233 : decode m_L_law.2.1 233 = .ok (.aload_n 0, 1) := by decide +kernel
theorem d_L_law_234 : decode m_L_law.2.1 234 = .ok (.iload_n 3, 1) := by decide +kernel
theorem d_L_law_235 : decode m_L_law.2.1 235 = .ok (.iconst 2, 1) := by decide +kernel
theorem d_L_law_236 : decode m_L_law.2.1 236 = .ok (.iadd, 1) := by decide +kernel
theorem d_L_law_237 : decode m_L_law.2.1 237 = .ok (.iaload, 1) := by decide +kernel
theorem d_L_law_238 : decode m_L_law.2.1 238 = .ok (.aload_n 0, 1) := by decide +kernel
theorem d_L_law_239 : decode m_L_law.2.1 239 = .ok (.iload_n 3, 1) := by decide +kernel
theorem d_L_law_240 : decode m_L_law.2.1 240 = .ok (.iconst 3, 1) := by decide +kernel
theorem d_L_law_241 : decode m_L_law.2.1 241 = .ok (.iadd, 1) := by decide +kernel
theorem d_L_law_242 : decode m_L_law.2.1 242 = .ok (.iaload, 1) := by decide +kernel
theorem d_L_law_243 : decode m_L_law.2.1 243 = .ok (.invokevirtual 35, 3) := by decide +kernel
theorem d_L_law_246 : decode m_L_law.2.1 246 = .ok (.if_icmp .eq 526, 3) := by decide +kernel
theorem d_L_law_249 : decode m_L_law.2.1 249 = .ok (.iconst 0, 1) := by decide +kernel
theorem d_L_law_250 : decode m_L_law.2.1 250 = .ok (.ireturn, 1) := by decide +kernel
theorem d_L_law_251 : decode m_L_law.2.1 251 = .ok (.aload_n 1, 1) := by decide +kernel
theorem d_L_law_252 : decode m_L_law.2.1 252 = .ok (.aload_n 0, 1) := by decide +kernel
theorem d_L_law_253 : decode m_L_law.2.1 253 = .ok (.iload_n 3, 1) := by decide +kernel
theorem d_L_law_254 : decode m_L_law.2.1 254 = .ok (.iconst 1, 1) := by decide +kernel
theorem d_L_law_255 : decode m_L_law.2.1 255 = .ok (.iadd, 1) := by decide +kernel
theorem d_L_law_256 : decode m_L_law.2.1 256 = .ok (.iaload, 1) := by decide +kernel
theorem d_L_law_257 : decode m_L_law.2.1 257 = .ok (.aload_n 0, 1) := by decide +kernel
theorem d_L_law_258 : decode m_L_law.2.1 258 = .ok (.iload_n 3, 1) := by decide +kernel
theorem d_L_law_259 : decode m_L_law.2.1 259 = .ok (.iconst 2, 1) := by decide +kernel
theorem d_L_law_260 : decode m_L_law.2.1 260 = .ok (.iadd, 1) := by decide +kernel
theorem d_L_law_261 : decode m_L_law.2.1 261 = .ok (.iaload, 1) := by decide +kernel
theorem d_L_law_262 : decode m_L_law.2.1 262 = .ok (.aload_n 0, 1) := by decide +kernel
theorem d_L_law_263 : decode m_L_law.2.1 263 = .ok (.iload_n 3, 1) := by decide +kernel
theorem d_L_law_264 : decode m_L_law.2.1 264 = .ok (.iconst 3, 1) := by decide +kernel
theorem d_L_law_265 : decode m_L_law.2.1 265 = .ok (.iadd, 1) := by decide +kernel
theorem d_L_law_266 : decode m_L_law.2.1 266 = .ok (.iaload, 1) := by decide +kernel
theorem d_L_law_267 : decode m_L_law.2.1 267 = .ok (.invokevirtual 36, 3) := by decide +kernel
theorem d_L_law_270 : decode m_L_law.2.1 270 = .ok (.aload_n 2, 1) := by decide +kernel
theorem d_L_law_271 : decode m_L_law.2.1 271 = .ok (.aload_n 0, 1) := by decide +kernel
theorem d_L_law_272 : decode m_L_law.2.1 272 = .ok (.iload_n 3, 1) := by decide +kernel
theorem d_L_law_273 : decode m_L_law.2.1 273 = .ok (.iconst 1, 1) := by decide +kernel
theorem d_L_law_274 : decode m_L_law.2.1 274 = .ok (.iadd, 1) := by decide +kernel
theorem d_L_law_275 : decode m_L_law.2.1 275 = .ok (.iaload, 1) := by decide +kernel
theorem d_L_law_276 : decode m_L_law.2.1 276 = .ok (.aload_n 0, 1) := by decide +kernel
theorem d_L_law_277 : decode m_L_law.2.1 277 = .ok (.iload_n 3, 1) := by decide +kernel
theorem d_L_law_278 : decode m_L_law.2.1 278 = .ok (.iconst 2, 1) := by decide +kernel
theorem d_L_law_279 : decode m_L_law.2.1 279 = .ok (.iadd, 1) := by decide +kernel
theorem d_L_law_280 : decode m_L_law.2.1 280 = .ok (.iaload, 1) := by decide +kernel
theorem d_L_law_281 : decode m_L_law.2.1 281 = .ok (.aload_n 0, 1) := by decide +kernel
theorem d_L_law_282 : decode m_L_law.2.1 282 = .ok (.iload_n 3, 1) := by decide +kernel
theorem d_L_law_283 : decode m_L_law.2.1 283 = .ok (.iconst 3, 1) := by decide +kernel
theorem d_L_law_284 : decode m_L_law.2.1 284 = .ok (.iadd, 1) := by decide +kernel
theorem d_L_law_285 : decode m_L_law.2.1 285 = .ok (.iaload, 1) := by decide +kernel
theorem d_L_law_286 : decode m_L_law.2.1 286 = .ok (.invokevirtual 39, 3) := by decide +kernel
theorem d_L_law_289 : decode m_L_law.2.1 289 = .ok (.if_icmp .eq 483, 3) := by decide +kernel
theorem d_L_law_292 : decode m_L_law.2.1 292 = .ok (.iconst 0, 1) := by decide +kernel
theorem d_L_law_293 : decode m_L_law.2.1 293 = .ok (.ireturn, 1) := by decide +kernel
theorem d_L_law_294 : decode m_L_law.2.1 294 = .ok (.aload_n 1, 1) := by decide +kernel
theorem d_L_law_295 : decode m_L_law.2.1 295 = .ok (.aload_n 0, 1) := by decide +kernel
theorem d_L_law_296 : decode m_L_law.2.1 296 = .ok (.iload_n 3, 1) := by decide +kernel
theorem d_L_law_297 : decode m_L_law.2.1 297 = .ok (.iconst 1, 1) := by decide +kernel
theorem d_L_law_298 : decode m_L_law.2.1 298 = .ok (.iadd, 1) := by decide +kernel
theorem d_L_law_299 : decode m_L_law.2.1 299 = .ok (.iaload, 1) := by decide +kernel
theorem d_L_law_300 : decode m_L_law.2.1 300 = .ok (.invokevirtual 40, 3) := by decide +kernel
theorem d_L_law_303 : decode m_L_law.2.1 303 = .ok (.aload_n 2, 1) := by decide +kernel
theorem d_L_law_304 : decode m_L_law.2.1 304 = .ok (.aload_n 0, 1) := by decide +kernel
theorem d_L_law_305 : decode m_L_law.2.1 305 = .ok (.iload_n 3, 1) := by decide +kernel
theorem d_L_law_306 : decode m_L_law.2.1 306 = .ok (.iconst 1, 1) := by decide +kernel
theorem d_L_law_307 : decode m_L_law.2.1 307 = .ok (.iadd, 1) := by decide +kernel
theorem d_L_law_308 : decode m_L_law.2.1 308 = .ok (.iaload, 1) := by decide +kernel
theorem d_L_law_309 : decode m_L_law.2.1 309 = .ok (.invokevirtual 43, 3) := by decide +kernel
theorem d_L_law_312 : decode m_L_law.2.1 312 = .ok (.if_icmp .eq 460, 3) := by decide +kernel
theorem d_L_law_315 : decode m_L_law.2.1 315 = .ok (.iconst 0, 1) := by decide +kernel
theorem d_L_law_316 : decode m_L_law.2.1 316 = .ok (.ireturn, 1) := by decide +kernel
theorem d_L_law_317 : decode m_L_law.2.1 317 = .ok (.aload_n 1, 1) := by decide +kernel
theorem d_L_law_318 : decode m_L_law.2.1 318 = .ok (.aload_n 0, 1) := by decide +kernel
theorem d_L_law_319 : decode m_L_law.2.1 319 = .ok (.iload_n 3, 1) := by decide +kernel
theorem d_L_law_320 : decode m_L_law.2.1 320 = .ok (.iconst 1, 1) := by decide +kernel
theorem d_L_law_321 : decode m_L_law.2.1 321 = .ok (.iadd, 1) := by decide +kernel
theorem d_L_law_322 : decode m_L_law.2.1 322 = .ok (.iaload, 1) := by decide +kernel
theorem d_L_law_323 : decode m_L_law.2.1 323 = .ok (.aload_n 0, 1) := by decide +kernel
theorem d_L_law_324 : decode m_L_law.2.1 324 = .ok (.iload_n 3, 1) := by decide +kernel
theorem d_L_law_325 : decode m_L_law.2.1 325 = .ok (.iconst 2, 1) := by decide +kernel
theorem d_L_law_326 : decode m_L_law.2.1 326 = .ok (.iadd, 1) := by decide +kernel
theorem d_L_law_327 : decode m_L_law.2.1 327 = .ok (.iaload, 1) := by decide +kernel
theorem d_L_law_328 : decode m_L_law.2.1 328 = .ok (.invokevirtual 44, 3) := by decide +kernel
theorem d_L_law_331 : decode m_L_law.2.1 331 = .ok (.aload_n 2, 1) := by decide +kernel
theorem d_L_law_332 : decode m_L_law.2.1 332 = .ok (.aload_n 0, 1) := by decide +kernel
theorem d_L_law_333 : decode m_L_law.2.1 333 = .ok (.iload_n 3, 1) := by decide +kernel
theorem d_L_law_334 : decode m_L_law.2.1 334 = .ok (.iconst 1, 1) := by decide +kernel
theorem d_L_law_335 : decode m_L_law.2.1 335 = .ok (.iadd, 1) := by decide +kernel
theorem d_L_law_336 : decode m_L_law.2.1 336 = .ok (.iaload, 1) := by decide +kernel
theorem d_L_law_337 : decode m_L_law.2.1 337 = .ok (.aload_n 0, 1) := by decide +kernel
theorem d_L_law_338 : decode m_L_law.2.1 338 = .ok (.iload_n 3, 1) := by decide +kernel
theorem d_L_law_339 : decode m_L_law.2.1 339 = .ok (.iconst 2, 1) := by decide +kernel
theorem d_L_law_340 : decode m_L_law.2.1 340 = .ok (.iadd, 1) := by decide +kernel
theorem d_L_law_341 : decode m_L_law.2.1 341 = .ok (.iaload, 1) := by decide +kernel
theorem d_L_law_342 : decode m_L_law.2.1 342 = .ok (.invokevirtual 48, 3) := by decide +kernel
theorem d_L_law_345 : decode m_L_law.2.1 345 = .ok (.if_icmp .eq 427, 3) := by decide +kernel
theorem d_L_law_348 : decode m_L_law.2.1 348 = .ok (.iconst 0, 1) := by decide +kernel
theorem d_L_law_349 : decode m_L_law.2.1 349 = .ok (.ireturn, 1) := by decide +kernel
theorem d_L_law_350 : decode m_L_law.2.1 350 = .ok (.aload_n 1, 1) := by decide +kernel
theorem d_L_law_351 : decode m_L_law.2.1 351 = .ok (.aload_n 0, 1) := by decide +kernel
theorem d_L_law_352 : decode m_L_law.2.1 352 = .ok (.iload_n 3, 1) := by decide +kernel
theorem d_L_law_353 : decode m_L_law.2.1 353 = .ok (.iconst 1, 1) := by decide +kernel
theorem d_L_law_354 : decode m_L_law.2.1 354 = .ok (.iadd, 1) := by decide +kernel
theorem d_L_law_355 : decode m_L_law.2.1 355 = .ok (.iaload, 1) := by decide +kernel
theorem d_L_law_356 : decode m_L_law.2.1 356 = .ok (.aload_n 0, 1) := by decide +kernel
theorem d_L_law_357 : decode m_L_law.2.1 357 = .ok (.iload_n 3, 1) := by decide +kernel
theorem d_L_law_358 : decode m_L_law.2.1 358 = .ok (.iconst 2, 1) := by decide +kernel
theorem d_L_law_359 : decode m_L_law.2.1 359 = .ok (.iadd, 1) := by decide +kernel
theorem d_L_law_360 : decode m_L_law.2.1 360 = .ok (.iaload, 1) := by decide +kernel
theorem d_L_law_361 : decode m_L_law.2.1 361 = .ok (.invokevirtual 49, 3) := by decide +kernel
theorem d_L_law_364 : decode m_L_law.2.1 364 = .ok (.aload_n 2, 1) := by decide +kernel
theorem d_L_law_365 : decode m_L_law.2.1 365 = .ok (.aload_n 0, 1) := by decide +kernel
theorem d_L_law_366 : decode m_L_law.2.1 366 = .ok (.iload_n 3, 1) := by decide +kernel
theorem d_L_law_367 : decode m_L_law.2.1 367 = .ok (.iconst 1, 1) := by decide +kernel
theorem d_L_law_368 : decode m_L_law.2.1 368 = .ok (.iadd, 1) := by decide +kernel
theorem d_L_law_369 : decode m_L_law.2.1 369 = .ok (.iaload, 1) := by decide +kernel
theorem d_L_law_370 : decode m_L_law.2.1 370 = .ok (.aload_n 0, 1) := by decide +kernel
theorem d_L_law_371 : decode m_L_law.2.1 371 = .ok (.iload_n 3, 1) := by decide +kernel
theorem d_L_law_372 : decode m_L_law.2.1 372 = .ok (.iconst 2, 1) := by decide +kernel
theorem d_L_law_373 : decode m_L_law.2.1 373 = .ok (.iadd, 1) := by decide +kernel
theorem d_L_law_374 : decode m_L_law.2.1 374 = .ok (.iaload, 1) := by decide +kernel
theorem d_L_law_375 : decode m_L_law.2.1 375 = .ok (.invokevirtual 52, 3) := by decide +kernel
theorem d_L_law_378 : decode m_L_law.2.1 378 = .ok (.if_icmp .eq 394, 3) := by decide +kernel
theorem d_L_law_381 : decode m_L_law.2.1 381 = .ok (.iconst 0, 1) := by decide +kernel
theorem d_L_law_382 : decode m_L_law.2.1 382 = .ok (.ireturn, 1) := by decide +kernel
theorem d_L_law_383 : decode m_L_law.2.1 383 = .ok (.aload_n 1, 1) := by decide +kernel
theorem d_L_law_384 : decode m_L_law.2.1 384 = .ok (.aload_n 0, 1) := by decide +kernel
theorem d_L_law_385 : decode m_L_law.2.1 385 = .ok (.iload_n 3, 1) := by decide +kernel
theorem d_L_law_386 : decode m_L_law.2.1 386 = .ok (.iconst 1, 1) := by decide +kernel
theorem d_L_law_387 : decode m_L_law.2.1 387 = .ok (.iadd, 1) := by decide +kernel
theorem d_L_law_388 : decode m_L_law.2.1 388 = .ok (.iaload, 1) := by decide +kernel
theorem d_L_law_389 : decode m_L_law.2.1 389 = .ok (.aload_n 0, 1) := by decide +kernel
theorem d_L_law_390 : decode m_L_law.2.1 390 = .ok (.iload_n 3, 1) := by decide +kernel
theorem d_L_law_391 : decode m_L_law.2.1 391 = .ok (.iconst 2, 1) := by decide +kernel
theorem d_L_law_392 : decode m_L_law.2.1 392 = .ok (.iadd, 1) := by decide +kernel
theorem d_L_law_393 : decode m_L_law.2.1 393 = .ok (.iaload, 1) := by decide +kernel
theorem d_L_law_394 : decode m_L_law.2.1 394 = .ok (.invokevirtual 53, 3) := by decide +kernel
theorem d_L_law_397 : decode m_L_law.2.1 397 = .ok (.aload_n 2, 1) := by decide +kernel
theorem d_L_law_398 : decode m_L_law.2.1 398 = .ok (.aload_n 0, 1) := by decide +kernel
theorem d_L_law_399 : decode m_L_law.2.1 399 = .ok (.iload_n 3, 1) := by decide +kernel
theorem d_L_law_400 : decode m_L_law.2.1 400 = .ok (.iconst 1, 1) := by decide +kernel
theorem d_L_law_401 : decode m_L_law.2.1 401 = .ok (.iadd, 1) := by decide +kernel
theorem d_L_law_402 : decode m_L_law.2.1 402 = .ok (.iaload, 1) := by decide +kernel
theorem d_L_law_403 : decode m_L_law.2.1 403 = .ok (.aload_n 0, 1) := by decide +kernel
theorem d_L_law_404 : decode m_L_law.2.1 404 = .ok (.iload_n 3, 1) := by decide +kernel
theorem d_L_law_405 : decode m_L_law.2.1 405 = .ok (.iconst 2, 1) := by decide +kernel
theorem d_L_law_406 : decode m_L_law.2.1 406 = .ok (.iadd, 1) := by decide +kernel
theorem d_L_law_407 : decode m_L_law.2.1 407 = .ok (.iaload, 1) := by decide +kernel
theorem d_L_law_408 : decode m_L_law.2.1 408 = .ok (.invokevirtual 56, 3) := by decide +kernel
theorem d_L_law_411 : decode m_L_law.2.1 411 = .ok (.if_icmp .eq 361, 3) := by decide +kernel
theorem d_L_law_414 : decode m_L_law.2.1 414 = .ok (.iconst 0, 1) := by decide +kernel
theorem d_L_law_415 : decode m_L_law.2.1 415 = .ok (.ireturn, 1) := by decide +kernel
theorem d_L_law_416 : decode m_L_law.2.1 416 = .ok (.aload_n 1, 1) := by decide +kernel
theorem d_L_law_417 : decode m_L_law.2.1 417 = .ok (.aload_n 0, 1) := by decide +kernel
theorem d_L_law_418 : decode m_L_law.2.1 418 = .ok (.iload_n 3, 1) := by decide +kernel
theorem d_L_law_419 : decode m_L_law.2.1 419 = .ok (.iconst 1, 1) := by decide +kernel
theorem d_L_law_420 : decode m_L_law.2.1 420 = .ok (.iadd, 1) := by decide +kernel
theorem d_L_law_421 : decode m_L_law.2.1 421 = .ok (.iaload, 1) := by decide +kernel
theorem d_L_law_422 : decode m_L_law.2.1 422 = .ok (.invokevirtual 57, 3) := by decide +kernel
theorem d_L_law_425 : decode m_L_law.2.1 425 = .ok (.aload_n 2, 1) := by decide +kernel
theorem d_L_law_426 : decode m_L_law.2.1 426 = .ok (.aload_n 0, 1) := by decide +kernel
theorem d_L_law_427 : decode m_L_law.2.1 427 = .ok (.iload_n 3, 1) := by decide +kernel
theorem d_L_law_428 : decode m_L_law.2.1 428 = .ok (.iconst 1, 1) := by decide +kernel
theorem d_L_law_429 : decode m_L_law.2.1 429 = .ok (.iadd, 1) := by decide +kernel
theorem d_L_law_430 : decode m_L_law.2.1 430 = .ok (.iaload, 1) := by decide +kernel
theorem d_L_law_431 : decode m_L_law.2.1 431 = .ok (.invokevirtual 60, 3) := by decide +kernel
theorem d_L_law_434 : decode m_L_law.2.1 434 = .ok (.if_icmp .eq 338, 3) := by decide +kernel
theorem d_L_law_437 : decode m_L_law.2.1 437 = .ok (.iconst 0, 1) := by decide +kernel
theorem d_L_law_438 : decode m_L_law.2.1 438 = .ok (.ireturn, 1) := by decide +kernel
theorem d_L_law_439 : decode m_L_law.2.1 439 = .ok (.aload_n 1, 1) := by decide +kernel
theorem d_L_law_440 : decode m_L_law.2.1 440 = .ok (.aload_n 0, 1) := by decide +kernel
theorem d_L_law_441 : decode m_L_law.2.1 441 = .ok (.iload_n 3, 1) := by decide +kernel
theorem d_L_law_442 : decode m_L_law.2.1 442 = .ok (.iconst 1, 1) := by decide +kernel
theorem d_L_law_443 : decode m_L_law.2.1 443 = .ok (.iadd, 1) := by decide +kernel
theorem d_L_law_444 : decode m_L_law.2.1 444 = .ok (.iaload, 1) := by decide +kernel
theorem d_L_law_445 : decode m_L_law.2.1 445 = .ok (.aload_n 0, 1) := by decide +kernel
theorem d_L_law_446 : decode m_L_law.2.1 446 = .ok (.iload_n 3, 1) := by decide +kernel
theorem d_L_law_447 : decode m_L_law.2.1 447 = .ok (.iconst 2, 1) := by decide +kernel
theorem d_L_law_448 : decode m_L_law.2.1 448 = .ok (.iadd, 1) := by decide +kernel
theorem d_L_law_449 : decode m_L_law.2.1 449 = .ok (.iaload, 1) := by decide +kernel
theorem d_L_law_450 : decode m_L_law.2.1 450 = .ok (.invokevirtual 61, 3) := by decide +kernel
theorem d_L_law_453 : decode m_L_law.2.1 453 = .ok (.aload_n 2, 1) := by decide +kernel
theorem d_L_law_454 : decode m_L_law.2.1 454 = .ok (.aload_n 0, 1) := by decide +kernel
theorem d_L_law_455 : decode m_L_law.2.1 455 = .ok (.iload_n 3, 1) := by decide +kernel
theorem d_L_law_456 : decode m_L_law.2.1 456 = .ok (.iconst 1, 1) := by decide +kernel
theorem d_L_law_457 : decode m_L_law.2.1 457 = .ok (.iadd, 1) := by decide +kernel
theorem d_L_law_458 : decode m_L_law.2.1 458 = .ok (.iaload, 1) := by decide +kernel
theorem d_L_law_459 : decode m_L_law.2.1 459 = .ok (.aload_n 0, 1) := by decide +kernel
theorem d_L_law_460 : decode m_L_law.2.1 460 = .ok (.iload_n 3, 1) := by decide +kernel
theorem d_L_law_461 : decode m_L_law.2.1 461 = .ok (.iconst 2, 1) := by decide +kernel
theorem d_L_law_462 : decode m_L_law.2.1 462 = .ok (.iadd, 1) := by decide +kernel
theorem d_L_law_463 : decode m_L_law.2.1 463 = .ok (.iaload, 1) := by decide +kernel
theorem d_L_law_464 : decode m_L_law.2.1 464 = .ok (.invokevirtual 64, 3) := by decide +kernel
theorem d_L_law_467 : decode m_L_law.2.1 467 = .ok (.if_icmp .eq 305, 3) := by decide +kernel
theorem d_L_law_470 : decode m_L_law.2.1 470 = .ok (.iconst 0, 1) := by decide +kernel
theorem d_L_law_471 : decode m_L_law.2.1 471 = .ok (.ireturn, 1) := by decide +kernel
theorem d_L_law_472 : decode m_L_law.2.1 472 = .ok (.aload_n 1, 1) := by decide +kernel
theorem d_L_law_473 : decode m_L_law.2.1 473 = .ok (.aload_n 0, 1) := by decide +kernel
theorem d_L_law_474 : decode m_L_law.2.1 474 = .ok (.iload_n 3, 1) := by decide +kernel
theorem d_L_law_475 : decode m_L_law.2.1 475 = .ok (.iconst 1, 1) := by decide +kernel
theorem d_L_law_476 : decode m_L_law.2.1 476 = .ok (.iadd, 1) := by decide +kernel
theorem d_L_law_477 : decode m_L_law.2.1 477 = .ok (.iaload, 1) := by decide +kernel
theorem d_L_law_478 : decode m_L_law.2.1 478 = .ok (.aload_n 0, 1) := by decide +kernel
theorem d_L_law_479 : decode m_L_law.2.1 479 = .ok (.iload_n 3, 1) := by decide +kernel
theorem d_L_law_480 : decode m_L_law.2.1 480 = .ok (.iconst 2, 1) := by decide +kernel
theorem d_L_law_481 : decode m_L_law.2.1 481 = .ok (.iadd, 1) := by decide +kernel
theorem d_L_law_482 : decode m_L_law.2.1 482 = .ok (.iaload, 1) := by decide +kernel
theorem d_L_law_483 : decode m_L_law.2.1 483 = .ok (.invokevirtual 65, 3) := by decide +kernel
theorem d_L_law_486 : decode m_L_law.2.1 486 = .ok (.aload_n 2, 1) := by decide +kernel
theorem d_L_law_487 : decode m_L_law.2.1 487 = .ok (.aload_n 0, 1) := by decide +kernel
theorem d_L_law_488 : decode m_L_law.2.1 488 = .ok (.iload_n 3, 1) := by decide +kernel
theorem d_L_law_489 : decode m_L_law.2.1 489 = .ok (.iconst 1, 1) := by decide +kernel
theorem d_L_law_490 : decode m_L_law.2.1 490 = .ok (.iadd, 1) := by decide +kernel
theorem d_L_law_491 : decode m_L_law.2.1 491 = .ok (.iaload, 1) := by decide +kernel
theorem d_L_law_492 : decode m_L_law.2.1 492 = .ok (.aload_n 0, 1) := by decide +kernel
theorem d_L_law_493 : decode m_L_law.2.1 493 = .ok (.iload_n 3, 1) := by decide +kernel
theorem d_L_law_494 : decode m_L_law.2.1 494 = .ok (.iconst 2, 1) := by decide +kernel
theorem d_L_law_495 : decode m_L_law.2.1 495 = .ok (.iadd, 1) := by decide +kernel
theorem d_L_law_496 : decode m_L_law.2.1 496 = .ok (.iaload, 1) := by decide +kernel
theorem d_L_law_497 : decode m_L_law.2.1 497 = .ok (.invokevirtual 68, 3) := by decide +kernel
theorem d_L_law_500 : decode m_L_law.2.1 500 = .ok (.if_icmp .eq 272, 3) := by decide +kernel
theorem d_L_law_503 : decode m_L_law.2.1 503 = .ok (.iconst 0, 1) := by decide +kernel
theorem d_L_law_504 : decode m_L_law.2.1 504 = .ok (.ireturn, 1) := by decide +kernel
theorem d_L_law_505 : decode m_L_law.2.1 505 = .ok (.aload_n 1, 1) := by decide +kernel
theorem d_L_law_506 : decode m_L_law.2.1 506 = .ok (.aload_n 0, 1) := by decide +kernel
theorem d_L_law_507 : decode m_L_law.2.1 507 = .ok (.iload_n 3, 1) := by decide +kernel
theorem d_L_law_508 : decode m_L_law.2.1 508 = .ok (.iconst 1, 1) := by decide +kernel
theorem d_L_law_509 : decode m_L_law.2.1 509 = .ok (.iadd, 1) := by decide +kernel
theorem d_L_law_510 : decode m_L_law.2.1 510 = .ok (.iaload, 1) := by decide +kernel
theorem d_L_law_511 : decode m_L_law.2.1 511 = .ok (.aload_n 0, 1) := by decide +kernel
theorem d_L_law_512 : decode m_L_law.2.1 512 = .ok (.iload_n 3, 1) := by decide +kernel
theorem d_L_law_513 : decode m_L_law.2.1 513 = .ok (.iconst 2, 1) := by decide +kernel
theorem d_L_law_514 : decode m_L_law.2.1 514 = .ok (.iadd, 1) := by decide +kernel
theorem d_L_law_515 : decode m_L_law.2.1 515 = .ok (.iaload, 1) := by decide +kernel
theorem d_L_law_516 : decode m_L_law.2.1 516 = .ok (.invokevirtual 69, 3) := by decide +kernel
theorem d_L_law_519 : decode m_L_law.2.1 519 = .ok (.aload_n 2, 1) := by decide +kernel
theorem d_L_law_520 : decode m_L_law.2.1 520 = .ok (.aload_n 0, 1) := by decide +kernel
theorem d_L_law_521 : decode m_L_law.2.1 521 = .ok (.iload_n 3, 1) := by decide +kernel
theorem d_L_law_522 : decode m_L_law.2.1 522 = .ok (.iconst 1, 1) := by decide +kernel
theorem d_L_law_523 : decode m_L_law.2.1 523 = .ok (.iadd, 1) := by decide +kernel
theorem d_L_law_524 : decode m_L_law.2.1 524 = .ok (.iaload, 1) := by decide +kernel
theorem d_L_law_525 : decode m_L_law.2.1 525 = .ok (.aload_n 0, 1) := by decide +kernel
theorem d_L_law_526 : decode m_L_law.2.1 526 = .ok (.iload_n 3, 1) := by decide +kernel
theorem d_L_law_527 : decode m_L_law.2.1 527 = .ok (.iconst 2, 1) := by decide +kernel
theorem d_L_law_528 : decode m_L_law.2.1 528 = .ok (.iadd, 1) := by decide +kernel
theorem d_L_law_529 : decode m_L_law.2.1 529 = .ok (.iaload, 1) := by decide +kernel
theorem d_L_law_530 : decode m_L_law.2.1 530 = .ok (.invokevirtual 72, 3) := by decide +kernel
theorem d_L_law_533 : decode m_L_law.2.1 533 = .ok (.if_icmp .eq 239, 3) := by decide +kernel
theorem d_L_law_536 : decode m_L_law.2.1 536 = .ok (.iconst 0, 1) := by decide +kernel
theorem d_L_law_537 : decode m_L_law.2.1 537 = .ok (.ireturn, 1) := by decide +kernel
theorem d_L_law_538 : decode m_L_law.2.1 538 = .ok (.aload_n 1, 1) := by decide +kernel
theorem d_L_law_539 : decode m_L_law.2.1 539 = .ok (.aload_n 0, 1) := by decide +kernel
theorem d_L_law_540 : decode m_L_law.2.1 540 = .ok (.iload_n 3, 1) := by decide +kernel
theorem d_L_law_541 : decode m_L_law.2.1 541 = .ok (.iconst 1, 1) := by decide +kernel
theorem d_L_law_542 : decode m_L_law.2.1 542 = .ok (.iadd, 1) := by decide +kernel
theorem d_L_law_543 : decode m_L_law.2.1 543 = .ok (.iaload, 1) := by decide +kernel
theorem d_L_law_544 : decode m_L_law.2.1 544 = .ok (.aload_n 0, 1) := by decide +kernel
theorem d_L_law_545 : decode m_L_law.2.1 545 = .ok (.iload_n 3, 1) := by decide +kernel
theorem d_L_law_546 : decode m_L_law.2.1 546 = .ok (.iconst 2, 1) := by decide +kernel
theorem d_L_law_547 : decode m_L_law.2.1 547 = .ok (.iadd, 1) := by decide +kernel
theorem d_L_law_548 : decode m_L_law.2.1 548 = .ok (.iaload, 1) := by decide +kernel
theorem d_L_law_549 : decode m_L_law.2.1 549 = .ok (.invokevirtual 73, 3) := by decide +kernel
theorem d_L_law_552 : decode m_L_law.2.1 552 = .ok (.aload_n 2, 1) := by decide +kernel
theorem d_L_law_553 : decode m_L_law.2.1 553 = .ok (.aload_n 0, 1) := by decide +kernel
theorem d_L_law_554 : decode m_L_law.2.1 554 = .ok (.iload_n 3, 1) := by decide +kernel
theorem d_L_law_555 : decode m_L_law.2.1 555 = .ok (.iconst 1, 1) := by decide +kernel
theorem d_L_law_556 : decode m_L_law.2.1 556 = .ok (.iadd, 1) := by decide +kernel
theorem d_L_law_557 : decode m_L_law.2.1 557 = .ok (.iaload, 1) := by decide +kernel
theorem d_L_law_558 : decode m_L_law.2.1 558 = .ok (.aload_n 0, 1) := by decide +kernel
theorem d_L_law_559 : decode m_L_law.2.1 559 = .ok (.iload_n 3, 1) := by decide +kernel
theorem d_L_law_560 : decode m_L_law.2.1 560 = .ok (.iconst 2, 1) := by decide +kernel
theorem d_L_law_561 : decode m_L_law.2.1 561 = .ok (.iadd, 1) := by decide +kernel
theorem d_L_law_562 : decode m_L_law.2.1 562 = .ok (.iaload, 1) := by decide +kernel
theorem d_L_law_563 : decode m_L_law.2.1 563 = .ok (.invokevirtual 76, 3) := by decide +kernel
theorem d_L_law_566 : decode m_L_law.2.1 566 = .ok (.if_icmp .eq 206, 3) := by decide +kernel
theorem d_L_law_569 : decode m_L_law.2.1 569 = .ok (.iconst 0, 1) := by decide +kernel
theorem d_L_law_570 : decode m_L_law.2.1 570 = .ok (.ireturn, 1) := by decide +kernel
theorem d_L_law_571 : decode m_L_law.2.1 571 = .ok (.aload_n 1, 1) := by decide +kernel
theorem d_L_law_572 : decode m_L_law.2.1 572 = .ok (.aload_n 0, 1) := by decide +kernel
theorem d_L_law_573 : decode m_L_law.2.1 573 = .ok (.iload_n 3, 1) := by decide +kernel
theorem d_L_law_574 : decode m_L_law.2.1 574 = .ok (.iconst 1, 1) := by decide +kernel
theorem d_L_law_575 : decode m_L_law.2.1 575 = .ok (.iadd, 1) := by decide +kernel
theorem d_L_law_576 : decode m_L_law.2.1 576 = .ok (.iaload, 1) := by decide +kernel
theorem d_L_law_577 : decode m_L_law.2.1 577 = .ok (.aload_n 0, 1) := by decide +kernel
theorem d_L_law_578 : decode m_L_law.2.1 578 = .ok (.iload_n 3, 1) := by decide +kernel
theorem d_L_law_579 : decode m_L_law.2.1 579 = .ok (.iconst 2, 1) := by decide +kernel
theorem d_L_law_580 : decode m_L_law.2.1 580 = .ok (.iadd, 1) := by decide +kernel
theorem d_L_law_581 : decode m_L_law.2.1 581 = .ok (.iaload, 1) := by decide +kernel
theorem d_L_law_582 : decode m_L_law.2.1 582 = .ok (.aload_n 0, 1) := by decide +kernel
theorem d_L_law_583 : decode m_L_law.2.1 583 = .ok (.iload_n 3, 1) := by decide +kernel
theorem d_L_law_584 : decode m_L_law.2.1 584 = .ok (.iconst 3, 1) := by decide +kernel
theorem d_L_law_585 : decode m_L_law.2.1 585 = .ok (.iadd, 1) := by decide +kernel
theorem d_L_law_586 : decode m_L_law.2.1 586 = .ok (.iaload, 1) := by decide +kernel
theorem d_L_law_587 : decode m_L_law.2.1 587 = .ok (.invokevirtual 77, 3) := by decide +kernel
theorem d_L_law_590 : decode m_L_law.2.1 590 = .ok (.aload_n 2, 1) := by decide +kernel
theorem d_L_law_591 : decode m_L_law.2.1 591 = .ok (.aload_n 0, 1) := by decide +kernel
theorem d_L_law_592 : decode m_L_law.2.1 592 = .ok (.iload_n 3, 1) := by decide +kernel
theorem d_L_law_593 : decode m_L_law.2.1 593 = .ok (.iconst 1, 1) := by decide +kernel
theorem d_L_law_594 : decode m_L_law.2.1 594 = .ok (.iadd, 1) := by decide +kernel
theorem d_L_law_595 : decode m_L_law.2.1 595 = .ok (.iaload, 1) := by decide +kernel
theorem d_L_law_596 : decode m_L_law.2.1 596 = .ok (.aload_n 0, 1) := by decide +kernel
theorem d_L_law_597 : decode m_L_law.2.1 597 = .ok (.iload_n 3, 1) := by decide +kernel
theorem d_L_law_598 : decode m_L_law.2.1 598 = .ok (.iconst 2, 1) := by decide +kernel
theorem d_L_law_599 : decode m_L_law.2.1 599 = .ok (.iadd, 1) := by decide +kernel
theorem d_L_law_600 : decode m_L_law.2.1 600 = .ok (.iaload, 1) := by decide +kernel
theorem d_L_law_601 : decode m_L_law.2.1 601 = .ok (.aload_n 0, 1) := by decide +kernel
theorem d_L_law_602 : decode m_L_law.2.1 602 = .ok (.iload_n 3, 1) := by decide +kernel
theorem d_L_law_603 : decode m_L_law.2.1 603 = .ok (.iconst 3, 1) := by decide +kernel
theorem d_L_law_604 : decode m_L_law.2.1 604 = .ok (.iadd, 1) := by decide +kernel
theorem d_L_law_605 : decode m_L_law.2.1 605 = .ok (.iaload, 1) := by decide +kernel
theorem d_L_law_606 : decode m_L_law.2.1 606 = .ok (.invokevirtual 80, 3) := by decide +kernel
theorem d_L_law_609 : decode m_L_law.2.1 609 = .ok (.if_icmp .eq 163, 3) := by decide +kernel
theorem d_L_law_612 : decode m_L_law.2.1 612 = .ok (.iconst 0, 1) := by decide +kernel
theorem d_L_law_613 : decode m_L_law.2.1 613 = .ok (.ireturn, 1) := by decide +kernel
theorem d_L_law_614 : decode m_L_law.2.1 614 = .ok (.aload_n 1, 1) := by decide +kernel
theorem d_L_law_615 : decode m_L_law.2.1 615 = .ok (.aload_n 0, 1) := by decide +kernel
theorem d_L_law_616 : decode m_L_law.2.1 616 = .ok (.iload_n 3, 1) := by decide +kernel
theorem d_L_law_617 : decode m_L_law.2.1 617 = .ok (.iconst 1, 1) := by decide +kernel
theorem d_L_law_618 : decode m_L_law.2.1 618 = .ok (.iadd, 1) := by decide +kernel
theorem d_L_law_619 : decode m_L_law.2.1 619 = .ok (.iaload, 1) := by decide +kernel
theorem d_L_law_620 : decode m_L_law.2.1 620 = .ok (.aload_n 0, 1) := by decide +kernel
theorem d_L_law_621 : decode m_L_law.2.1 621 = .ok (.iload_n 3, 1) := by decide +kernel
theorem d_L_law_622 : decode m_L_law.2.1 622 = .ok (.iconst 2, 1) := by decide +kernel
theorem d_L_law_623 : decode m_L_law.2.1 623 = .ok (.iadd, 1) := by decide +kernel
theorem d_L_law_624 : decode m_L_law.2.1 624 = .ok (.iaload, 1) := by decide +kernel
theorem d_L_law_625 : decode m_L_law.2.1 625 = .ok (.aload_n 0, 1) := by decide +kernel
theorem d_L_law_626 : decode m_L_law.2.1 626 = .ok (.iload_n 3, 1) := by decide +kernel
theorem d_L_law_627 : decode m_L_law.2.1 627 = .ok (.iconst 3, 1) := by decide +kernel
theorem d_L_law_628 : decode m_L_law.2.1 628 = .ok (.iadd, 1) := by decide +kernel
theorem d_L_law_629 : decode m_L_law.2.1 629 = .ok (.iaload, 1) := by decide +kernel
theorem d_L_law_630 : decode m_L_law.2.1 630 = .ok (.aload_n 0, 1) := by decide +kernel
theorem d_L_law_631 : decode m_L_law.2.1 631 = .ok (.iload_n 3, 1) := by decide +kernel
theorem d_L_law_632 : decode m_L_law.2.1 632 = .ok (.iconst 4, 1) := by decide +kernel
theorem d_L_law_633 : decode m_L_law.2.1 633 = .ok (.iadd, 1) := by decide +kernel
theorem d_L_law_634 : decode m_L_law.2.1 634 = .ok (.iaload, 1) := by decide +kernel
theorem d_L_law_635 : decode m_L_law.2.1 635 = .ok (.invokevirtual 81, 3) := by decide +kernel
theorem d_L_law_638 : decode m_L_law.2.1 638 = .ok (.aload_n 2, 1) := by decide +kernel
theorem d_L_law_639 : decode m_L_law.2.1 639 = .ok (.aload_n 0, 1) := by decide +kernel
theorem d_L_law_640 : decode m_L_law.2.1 640 = .ok (.iload_n 3, 1) := by decide +kernel
theorem d_L_law_641 : decode m_L_law.2.1 641 = .ok (.iconst 1, 1) := by decide +kernel
theorem d_L_law_642 : decode m_L_law.2.1 642 = .ok (.iadd, 1) := by decide +kernel
theorem d_L_law_643 : decode m_L_law.2.1 643 = .ok (.iaload, 1) := by decide +kernel
theorem d_L_law_644 : decode m_L_law.2.1 644 = .ok (.aload_n 0, 1) := by decide +kernel
theorem d_L_law_645 : decode m_L_law.2.1 645 = .ok (.iload_n 3, 1) := by decide +kernel
theorem d_L_law_646 : decode m_L_law.2.1 646 = .ok (.iconst 2, 1) := by decide +kernel
theorem d_L_law_647 : decode m_L_law.2.1 647 = .ok (.iadd, 1) := by decide +kernel
theorem d_L_law_648 : decode m_L_law.2.1 648 = .ok (.iaload, 1) := by decide +kernel
theorem d_L_law_649 : decode m_L_law.2.1 649 = .ok (.aload_n 0, 1) := by decide +kernel
theorem d_L_law_650 : decode m_L_law.2.1 650 = .ok (.iload_n 3, 1) := by decide +kernel
theorem d_L_law_651 : decode m_L_law.2.1 651 = .ok (.iconst 3, 1) := by decide +kernel
theorem d_L_law_652 : decode m_L_law.2.1 652 = .ok (.iadd, 1) := by decide +kernel
theorem d_L_law_653 : decode m_L_law.2.1 653 = .ok (.iaload, 1) := by decide +kernel
theorem d_L_law_654 : decode m_L_law.2.1 654 = .ok (.aload_n 0, 1) := by decide +kernel
theorem d_L_law_655 : decode m_L_law.2.1 655 = .ok (.iload_n 3, 1) := by decide +kernel
theorem d_L_law_656 : decode m_L_law.2.1 656 = .ok (.iconst 4, 1) := by decide +kernel
theorem d_L_law_657 : decode m_L_law.2.1 657 = .ok (.iadd, 1) := by decide +kernel
theorem d_L_law_658 : decode m_L_law.2.1 658 = .ok (.iaload, 1) := by decide +kernel
theorem d_L_law_659 : decode m_L_law.2.1 659 = .ok (.invokevirtual 85, 3) := by decide +kernel
theorem d_L_law_662 : decode m_L_law.2.1 662 = .ok (.if_icmp .eq 110, 3) := by decide +kernel
theorem d_L_law_665 : decode m_L_law.2.1 665 = .ok (.iconst 0, 1) := by decide +kernel
theorem d_L_law_666 : decode m_L_law.2.1 666 = .ok (.ireturn, 1) := by decide +kernel
theorem d_L_law_667 : decode m_L_law.2.1 667 = .ok (.aload_n 1, 1) := by decide +kernel
theorem d_L_law_668 : decode m_L_law.2.1 668 = .ok (.aload_n 0, 1) := by decide +kernel
theorem d_L_law_669 : decode m_L_law.2.1 669 = .ok (.iload_n 3, 1) := by decide +kernel
theorem d_L_law_670 : decode m_L_law.2.1 670 = .ok (.iconst 1, 1) := by decide +kernel
theorem d_L_law_671 : decode m_L_law.2.1 671 = .ok (.iadd, 1) := by decide +kernel
theorem d_L_law_672 : decode m_L_law.2.1 672 = .ok (.iaload, 1) := by decide +kernel
theorem d_L_law_673 : decode m_L_law.2.1 673 = .ok (.invokevirtual 86, 3) := by decide +kernel
theorem d_L_law_676 : decode m_L_law.2.1 676 = .ok (.aload_n 2, 1) := by decide +kernel
theorem d_L_law_677 : decode m_L_law.2.1 677 = .ok (.aload_n 0, 1) := by decide +kernel
theorem d_L_law_678 : decode m_L_law.2.1 678 = .ok (.iload_n 3, 1) := by decide +kernel
theorem d_L_law_679 : decode m_L_law.2.1 679 = .ok (.iconst 1, 1) := by decide +kernel
theorem d_L_law_680 : decode m_L_law.2.1 680 = .ok (.iadd, 1) := by decide +kernel
theorem d_L_law_681 : decode m_L_law.2.1 681 = .ok (.iaload, 1) := by decide +kernel
theorem d_L_law_682 : decode m_L_law.2.1 682 = .ok (.invokevirtual 89, 3) := by decide +kernel
theorem d_L_law_685 : decode m_L_law.2.1 685 = .ok (.if_icmp .eq 87, 3) := by decide +kernel
theorem d_L_law_688 : decode m_L_law.2.1 688 = .ok (.iconst 0, 1) := by decide +kernel
theorem d_L_law_689 : decode m_L_law.2.1 689 = .ok (.ireturn, 1) := by decide +kernel
theorem d_L_law_690 : decode m_L_law.2.1 690 = .ok (.aload_n 1, 1) := by decide +kernel
theorem d_L_law_691 : decode m_L_law.2.1 691 = .ok (.aload_n 0, 1) := by decide +kernel
theorem d_L_law_692 : decode m_L_law.2.1 692 = .ok (.iload_n 3, 1) := by decide +kernel
theorem d_L_law_693 : decode m_L_law.2.1 693 = .ok (.iconst 1, 1) := by decide +kernel
theorem d_L_law_694 : decode m_L_law.2.1 694 = .ok (.iadd, 1) := by decide +kernel
theorem d_L_law_695 : decode m_L_law.2.1 695 = .ok (.iaload, 1) := by decide +kernel
theorem d_L_law_696 : decode m_L_law.2.1 696 = .ok (.invokevirtual 90, 3) := by decide +kernel
theorem d_L_law_699 : decode m_L_law.2.1 699 = .ok (.aload_n 2, 1) := by decide +kernel
theorem d_L_law_700 : decode m_L_law.2.1 700 = .ok (.aload_n 0, 1) := by decide +kernel
theorem d_L_law_701 : decode m_L_law.2.1 701 = .ok (.iload_n 3, 1) := by decide +kernel
theorem d_L_law_702 : decode m_L_law.2.1 702 = .ok (.iconst 1, 1) := by decide +kernel
theorem d_L_law_703 : decode m_L_law.2.1 703 = .ok (.iadd, 1) := by decide +kernel
theorem d_L_law_704 : decode m_L_law.2.1 704 = .ok (.iaload, 1) := by decide +kernel
theorem d_L_law_705 : decode m_L_law.2.1 705 = .ok (.invokevirtual 93, 3) := by decide +kernel
theorem d_L_law_708 : decode m_L_law.2.1 708 = .ok (.if_icmp .eq 64, 3) := by decide +kernel
theorem d_L_law_711 : decode m_L_law.2.1 711 = .ok (.iconst 0, 1) := by decide +kernel
theorem d_L_law_712 : decode m_L_law.2.1 712 = .ok (.ireturn, 1) := by decide +kernel
theorem d_L_law_713 : decode m_L_law.2.1 713 = .ok (.aload_n 1, 1) := by decide +kernel
theorem d_L_law_714 : decode m_L_law.2.1 714 = .ok (.invokevirtual 94, 3) := by decide +kernel
theorem d_L_law_717 : decode m_L_law.2.1 717 = .ok (.aload_n 2, 1) := by decide +kernel
theorem d_L_law_718 : decode m_L_law.2.1 718 = .ok (.invokevirtual 97, 3) := by decide +kernel
theorem d_L_law_721 : decode m_L_law.2.1 721 = .ok (.if_icmp .eq 51, 3) := by decide +kernel
theorem d_L_law_724 : decode m_L_law.2.1 724 = .ok (.iconst 0, 1) := by decide +kernel
theorem d_L_law_725 : decode m_L_law.2.1 725 = .ok (.ireturn, 1) := by decide +kernel
theorem d_L_law_726 : decode m_L_law.2.1 726 = .ok (.aload_n 1, 1) := by decide +kernel
theorem d_L_law_727 : decode m_L_law.2.1 727 = .ok (.aload_n 0, 1) := by decide +kernel
theorem d_L_law_728 : decode m_L_law.2.1 728 = .ok (.iload_n 3, 1) := by decide +kernel
theorem d_L_law_729 : decode m_L_law.2.1 729 = .ok (.iconst 1, 1) := by decide +kernel
theorem d_L_law_730 : decode m_L_law.2.1 730 = .ok (.iadd, 1) := by decide +kernel
theorem d_L_law_731 : decode m_L_law.2.1 731 = .ok (.iaload, 1) := by decide +kernel
theorem d_L_law_732 : decode m_L_law.2.1 732 = .ok (.invokevirtual 98, 3) := by decide +kernel
theorem d_L_law_735 : decode m_L_law.2.1 735 = .ok (.aload_n 2, 1) := by decide +kernel
theorem d_L_law_736 : decode m_L_law.2.1 736 = .ok (.aload_n 0, 1) := by decide +kernel
theorem d_L_law_737 : decode m_L_law.2.1 737 = .ok (.iload_n 3, 1) := by decide +kernel
theorem d_L_law_738 : decode m_L_law.2.1 738 = .ok (.iconst 1, 1) := by decide +kernel
theorem d_L_law_739 : decode m_L_law.2.1 739 = .ok (.iadd, 1) := by decide +kernel
theorem d_L_law_740 : decode m_L_law.2.1 740 = .ok (.iaload, 1) := by decide +kernel
theorem d_L_law_741 : decode m_L_law.2.1 741 = .ok (.invokevirtual 101, 3) := by decide +kernel
theorem d_L_law_744 : decode m_L_law.2.1 744 = .ok (.if_icmp .eq 28, 3) := by decide +kernel
theorem d_L_law_747 : decode m_L_law.2.1 747 = .ok (.iconst 0, 1) := by decide +kernel
theorem d_L_law_748 : decode m_L_law.2.1 748 = .ok (.ireturn, 1) := by decide +kernel
theorem d_L_law_749 : decode m_L_law.2.1 749 = .ok (.aload_n 1, 1) := by decide +kernel
theorem d_L_law_750 : decode m_L_law.2.1 750 = .ok (.aload_n 0, 1) := by decide +kernel
theorem d_L_law_751 : decode m_L_law.2.1 751 = .ok (.iload_n 3, 1) := by decide +kernel
theorem d_L_law_752 : decode m_L_law.2.1 752 = .ok (.iconst 1, 1) := by decide +kernel
theorem d_L_law_753 : decode m_L_law.2.1 753 = .ok (.iadd, 1) := by decide +kernel
theorem d_L_law_754 : decode m_L_law.2.1 754 = .ok (.iaload, 1) := by decide +kernel
theorem d_L_law_755 : decode m_L_law.2.1 755 = .ok (.invokevirtual 102, 3) := by decide +kernel
theorem d_L_law_758 : decode m_L_law.2.1 758 = .ok (.aload_n 2, 1) := by decide +kernel
theorem d_L_law_759 : decode m_L_law.2.1 759 = .ok (.aload_n 0, 1) := by decide +kernel
theorem d_L_law_760 : decode m_L_law.2.1 760 = .ok (.iload_n 3, 1) := by decide +kernel
theorem d_L_law_761 : decode m_L_law.2.1 761 = .ok (.iconst 1, 1) := by decide +kernel
theorem d_L_law_762 : decode m_L_law.2.1 762 = .ok (.iadd, 1) := by decide +kernel
theorem d_L_law_763 : decode m_L_law.2.1 763 = .ok (.iaload, 1) := by decide +kernel
theorem d_L_law_764 : decode m_L_law.2.1 764 = .ok (.invokevirtual 105, 3) := by decide +kernel
theorem d_L_law_767 : decode m_L_law.2.1 767 = .ok (.if_icmp .eq 5, 3) := by decide +kernel
theorem d_L_law_770 : decode m_L_law.2.1 770 = .ok (.iconst 0, 1) := by decide +kernel
theorem d_L_law_771 : decode m_L_law.2.1 771 = .ok (.ireturn, 1) := by decide +kernel
theorem d_L_law_772 : decode m_L_law.2.1 772 = .ok (.iinc 3 5, 3) := by decide +kernel
theorem d_L_law_775 : decode m_L_law.2.1 775 = .ok (.goto (-757), 3) := by decide +kernel
theorem d_L_law_778 : decode m_L_law.2.1 778 = .ok (.iconst 1, 1) := by decide +kernel
theorem d_L_law_779 : decode m_L_law.2.1 779 = .ok (.ireturn, 1) := by decide +kernel
