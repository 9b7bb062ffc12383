theorem dL_cell_0 : decode cL_cell 0 = .ok (.iload_n 1, 1) := by decide +kernel
theorem dL_cell_1 : decode cL_cell 1 = .ok (.aload_n 0, 1) := by decide +kernel
theorem dL_cell_2 : decode cL_cell 2 = .ok (.arraylength, 1) := by decide +kernel
theorem dL_cell_3 : decode cL_cell 3 = .ok (.if_icmp .ge 9, 3) := by decide +kernel
theorem dL_cell_6 : decode cL_cell 6 = .ok (.aload_n 0, 1) := by decide +kernel
theorem dL_cell_7 : decode cL_cell 7 = .ok (.iload_n 1, 1) := by decide +kernel
theorem dL_cell_8 : decode cL_cell 8 = .ok (.iaload, 1) := by decide +kernel
theorem dL_cell_9 : decode cL_cell 9 = .ok (.goto 4, 3) := by decide +kernel
theorem dL_cell_12 : decode cL_cell 12 = .ok (.iconst 0, 1) := by decide +kernel
theorem dL_cell_13 : decode cL_cell 13 = .ok (.ireturn, 1) := by decide +kernel
theorem dL_describe_0 : decode cL_describe 0 = .ok (.aload_n 3, 1) := by decide +kernel
theorem dL_describe_1 : decode cL_describe 1 = .ok (.iconst 0, 1) := by decide +kernel
theorem dL_describe_2 : decode cL_describe 2 = .ok (.aload_n 0, 1) := by decide +kernel
theorem dL_describe_3 : decode cL_describe 3 = .ok (.iload_n 1, 1) := by decide +kernel
theorem dL_describe_4 : decode cL_describe 4 = .ok (.iload_n 2, 1) := by decide +kernel
theorem dL_describe_5 : decode cL_describe 5 = .ok (.invokevirtual 7, 3) := by decide +kernel
theorem dL_describe_8 : decode cL_describe 8 = .ok (.i2l, 1) := by decide +kernel
theorem dL_describe_9 : decode cL_describe 9 = .ok (.lastore, 1) := by decide +kernel
theorem dL_describe_10 : decode cL_describe 10 = .ok (.goto 7, 3) := by decide +kernel
theorem dL_describe_13 : decode cL_describe 13 = .ok (.astore 4, 2) := by decide +kernel
theorem dL_describe_15 : decode cL_describe 15 = .ok (.iconst 1, 1) := by decide +kernel
theorem dL_describe_16 : decode cL_describe 16 = .ok (.ireturn, 1) := by decide +kernel
theorem dL_describe_17 : decode cL_describe 17 = .ok (.iconst 0, 1) := by decide +kernel
theorem dL_describe_18 : decode cL_describe 18 = .ok (.ireturn, 1) := by decide +kernel
theorem dL_fault_0 : decode cL_fault 0 = .ok (.aload_n 3, 1) := by decide +kernel
theorem dL_fault_1 : decode cL_fault 1 = .ok (.iconst 0, 1) := by decide +kernel
theorem dL_fault_2 : decode cL_fault 2 = .ok (.aload_n 0, 1) := by decide +kernel
theorem dL_fault_3 : decode cL_fault 3 = .ok (.iload_n 1, 1) := by decide +kernel
theorem dL_fault_4 : decode cL_fault 4 = .ok (.iload_n 2, 1) := by decide +kernel
theorem dL_fault_5 : decode cL_fault 5 = .ok (.invokevirtual 15, 3) := by decide +kernel
theorem dL_fault_8 : decode cL_fault 8 = .ok (.i2l, 1) := by decide +kernel
theorem dL_fault_9 : decode cL_fault 9 = .ok (.lastore, 1) := by decide +kernel
theorem dL_fault_10 : decode cL_fault 10 = .ok (.goto 7, 3) := by decide +kernel
theorem dL_fault_13 : decode cL_fault 13 = .ok (.astore 4, 2) := by decide +kernel
theorem dL_fault_15 : decode cL_fault 15 = .ok (.iconst 1, 1) := by decide +kernel
theorem dL_fault_16 : decode cL_fault 16 = .ok (.ireturn, 1) := by decide +kernel
theorem dL_fault_17 : decode cL_fault 17 = .ok (.iconst 0, 1) := by decide +kernel
theorem dL_fault_18 : decode cL_fault 18 = .ok (.ireturn, 1) := by decide +kernel
theorem dL_law_0 : decode cL_law 0 = .ok (.new 8, 3) := by decide +kernel
theorem dL_law_3 : decode cL_law 3 = .ok (.dup, 1) := by decide +kernel
theorem dL_law_4 : decode cL_law 4 = .ok (.aload_n 0, 1) := by decide +kernel
theorem dL_law_5 : decode cL_law 5 = .ok (.iconst 0, 1) := by decide +kernel
theorem dL_law_6 : decode cL_law 6 = .ok (.invokestatic 18, 3) := by decide +kernel
theorem dL_law_9 : decode cL_law 9 = .ok (.aload_n 0, 1) := by decide +kernel
theorem dL_law_10 : decode cL_law 10 = .ok (.iconst 1, 1) := by decide +kernel
theorem dL_law_11 : decode cL_law 11 = .ok (.invokestatic 18, 3) := by decide +kernel
theorem dL_law_14 : decode cL_law 14 = .ok (.aload_n 0, 1) := by decide +kernel
theorem dL_law_15 : decode cL_law 15 = .ok (.iconst 2, 1) := by decide +kernel
theorem dL_law_16 : decode cL_law 16 = .ok (.invokestatic 18, 3) := by decide +kernel
theorem dL_law_19 : decode cL_law 19 = .ok (.invokespecial 24, 3) := by decide +kernel
theorem dL_law_22 : decode cL_law 22 = .ok (.astore_n 1, 1) := by decide +kernel
theorem dL_law_23 : decode cL_law 23 = .ok (.new 27, 3) := by decide +kernel
theorem dL_law_26 : decode cL_law 26 = .ok (.dup, 1) := by decide +kernel
theorem dL_law_27 : decode cL_law 27 = .ok (.aload_n 0, 1) := by decide +kernel
theorem dL_law_28 : decode cL_law 28 = .ok (.iconst 0, 1) := by decide +kernel
theorem dL_law_29 : decode cL_law 29 = .ok (.invokestatic 18, 3) := by decide +kernel
theorem dL_law_32 : decode cL_law 32 = .ok (.aload_n 0, 1) := by decide +kernel
theorem dL_law_33 : decode cL_law 33 = .ok (.iconst 1, 1) := by decide +kernel
theorem dL_law_34 : decode cL_law 34 = .ok (.invokestatic 18, 3) := by decide +kernel
theorem dL_law_37 : decode cL_law 37 = .ok (.aload_n 0, 1) := by decide +kernel
theorem dL_law_38 : decode cL_law 38 = .ok (.iconst 2, 1) := by decide +kernel
theorem dL_law_39 : decode cL_law 39 = .ok (.invokestatic 18, 3) := by decide +kernel
theorem dL_law_42 : decode cL_law 42 = .ok (.invokespecial 29, 3) := by decide +kernel
theorem dL_law_45 : decode cL_law 45 = .ok (.astore_n 2, 1) := by decide +kernel
theorem dL_law_46 : decode cL_law 46 = .ok (.iconst 1, 1) := by decide +kernel
theorem dL_law_47 : decode cL_law 47 = .ok (.newarray .long, 2) := by decide +kernel
theorem dL_law_49 : decode cL_law 49 = .ok (.astore_n 3, 1) := by decide +kernel
theorem dL_law_50 : decode cL_law 50 = .ok (.iconst 3, 1) := by decide +kernel
theorem dL_law_51 : decode cL_law 51 = .ok (.istore 4, 2) := by decide +kernel
theorem dL_law_53 : decode cL_law 53 = .ok (.iload 4, 2) := by decide +kernel
theorem dL_law_55 : decode cL_law 55 = .ok (.aload_n 0, 1) := by decide +kernel
theorem dL_law_56 : decode cL_law 56 = .ok (.arraylength, 1) := by decide +kernel
theorem dL_law_57 : decode cL_law 57 = .ok (.iconst 4, 1) := by decide +kernel
theorem dL_law_58 : decode cL_law 58 = .ok (.isub, 1) := by decide +kernel
theorem dL_law_59 : decode cL_law 59 = .ok (.if_icmp .gt 699, 3) := by decide +kernel
theorem dL_law_62 : decode cL_law 62 = .ok (.aload_n 0, 1) := by decide +kernel
theorem dL_law_63 : decode cL_law 63 = .ok (.iload 4, 2) := by decide +kernel
theorem dL_law_65 : decode cL_law 65 = .ok (.iaload, 1) := by decide +kernel
theorem dL_law_66 : decode cL_law 66 = .ok (.bipush 31, 2) := by decide +kernel
theorem dL_law_68 : decode cL_law 68 = .ok (.iand, 1) := by decide +kernel
theorem dL_law_69 : decode cL_law 69 = .ok (.tableswitch 683 0 17 #[87, 112, 137, 174, 199, 236, 261, 310, 335, 403, 440, 453, 490, 503, 528, 553, 590, 615], 87) := by decide +kernel
theorem dL_law_156 : decode cL_law 156 = .ok (.aload_n 1, 1) := by decide +kernel
theorem dL_law_157 : decode cL_law 157 = .ok (.aload_n 0, 1) := by decide +kernel
theorem dL_law_158 : decode cL_law 158 = .ok (.iload 4, 2) := by decide +kernel
theorem dL_law_160 : decode cL_law 160 = .ok (.iconst 1, 1) := by decide +kernel
theorem dL_law_161 : decode cL_law 161 = .ok (.iadd, 1) := by decide +kernel
theorem dL_law_162 : decode cL_law 162 = .ok (.iaload, 1) := by decide +kernel
theorem dL_law_163 : decode cL_law 163 = .ok (.invokevirtual 30, 3) := by decide +kernel
theorem dL_law_166 : decode cL_law 166 = .ok (.aload_n 2, 1) := by decide +kernel
theorem dL_law_167 : decode cL_law 167 = .ok (.aload_n 0, 1) := by decide +kernel
theorem dL_law_168 : decode cL_law 168 = .ok (.iload 4, 2) := by decide +kernel
theorem dL_law_170 : decode cL_law 170 = .ok (.iconst 1, 1) := by decide +kernel
theorem dL_law_171 : decode cL_law 171 = .ok (.iadd, 1) := by decide +kernel
theorem dL_law_172 : decode cL_law 172 = .ok (.iaload, 1) := by decide +kernel
theorem dL_law_173 : decode cL_law 173 = .ok (.invokevirtual 34, 3) := by decide +kernel
theorem dL_law_176 : decode cL_law 176 = .ok (.if_icmp .eq 576, 3) := by decide +kernel
theorem dL_law_179 : decode cL_law 179 = .ok (.iconst 0, 1) := by decide +kernel
theorem dL_law_180 : decode cL_law 180 = .ok (.ireturn, 1) := by decide +kernel
theorem dL_law_181 : decode cL_law 181 = .ok (.aload_n 1, 1) := by decide +kernel
theorem dL_law_182 : decode cL_law 182 = .ok (.aload_n 0, 1) := by decide +kernel
theorem dL_law_183 : decode cL_law 183 = .ok (.iload 4, 2) := by decide +kernel
theorem dL_law_185 : decode cL_law 185 = .ok (.iconst 1, 1) := by decide +kernel
theorem dL_law_186 : decode cL_law 186 = .ok (.iadd, 1) := by decide +kernel
theorem dL_law_187 : decode cL_law 187 = .ok (.iaload, 1) := by decide +kernel
theorem dL_law_188 : decode cL_law 188 = .ok (.invokevirtual 35, 3) := by decide +kernel
theorem dL_law_191 : decode cL_law 191 = .ok (.aload_n 2, 1) := by decide +kernel
theorem dL_law_192 : decode cL_law 192 = .ok (.aload_n 0, 1) := by decide +kernel
theorem dL_law_193 : decode cL_law 193 = .ok (.iload 4, 2) := by decide +kernel
theorem dL_law_195 : decode cL_law 195 = .ok (.iconst 1, 1) := by decide +kernel
theorem dL_law_196 : decode cL_law 196 = .ok (.iadd, 1) := by decide +kernel
theorem dL_law_197 : decode cL_law 197 = .ok (.iaload, 1) := by decide +kernel
theorem dL_law_198 : decode cL_law 198 = .ok (.invokevirtual 38, 3) := by decide +kernel
theorem dL_law_201 : decode cL_law 201 = .ok (.if_icmp .eq 551, 3) := by decide +kernel
theorem dL_law_204 : decode cL_law 204 = .ok (.iconst 0, 1) := by decide +kernel
theorem dL_law_205 : decode cL_law 205 = .ok (.ireturn, 1) := by decide +kernel
theorem dL_law_206 : decode cL_law 206 = .ok (.aload_n 1, 1) := by decide +kernel
theorem dL_law_207 : decode cL_law 207 = .ok (.aload_n 0, 1) := by decide +kernel
theorem dL_law_208 : decode cL_law 208 = .ok (.iload 4, 2) := by decide +kernel
theorem dL_law_210 : decode cL_law 210 = .ok (.iconst 1, 1) := by decide +kernel
theorem dL_law_211 : decode cL_law 211 = .ok (.iadd, 1) := by decide +kernel
theorem dL_law_212 : decode cL_law 212 = .ok (.iaload, 1) := by decide +kernel
theorem dL_law_213 : decode cL_law 213 = .ok (.aload_n 0, 1) := by decide +kernel
theorem dL_law_214 : decode cL_law 214 = .ok (.iload 4, 2) := by decide +kernel
theorem dL_law_216 : decode cL_law 216 = .ok (.iconst 2, 1) := by decide +kernel
theorem dL_law_217 : decode cL_law 217 = .ok (.iadd, 1) := by decide +kernel
theorem dL_law_218 : decode cL_law 218 = .ok (.iaload, 1) := by decide +kernel
theorem dL_law_219 : decode cL_law 219 = .ok (.invokevirtual 39, 3) := by decide +kernel
theorem dL_law_222 : decode cL_law 222 = .ok (.aload_n 2, 1) := by decide +kernel
theorem dL_law_223 : decode cL_law 223 = .ok (.aload_n 0, 1) := by decide +kernel
theorem dL_law_224 : decode cL_law 224 = .ok (.iload 4, 2) := by decide +kernel
theorem dL_law_226 : decode cL_law 226 = .ok (.iconst 1, 1) := by decide +kernel
theorem dL_law_227 : decode cL_law 227 = .ok (.iadd, 1) := by decide +kernel
theorem dL_law_228 : decode cL_law 228 = .ok (.iaload, 1) := by decide +kernel
theorem dL_law_229 : decode cL_law 229 = .ok (.aload_n 0, 1) := by decide +kernel
theorem dL_law_230 : decode cL_law 230 = .ok (.iload 4, 2) := by decide +kernel
theorem dL_law_232 : decode cL_law 232 = .ok (.iconst 2, 1) := by decide +kernel
theorem dL_law_233 : decode cL_law 233 = .ok (.iadd, 1) := by decide +kernel
theorem dL_law_234 : decode cL_law 234 = .ok (.iaload, 1) := by decide +kernel
theorem dL_law_235 : decode cL_law 235 = .ok (.invokevirtual 42, 3) := by decide +kernel
theorem dL_law_238 : decode cL_law 238 = .ok (.if_icmp .eq 514, 3) := by decide +kernel
theorem dL_law_241 : decode cL_law 241 = .ok (.iconst 0, 1) := by decide +kernel
theorem dL_law_242 : decode cL_law 242 = .ok (.ireturn, 1) := by decide +kernel
theorem dL_law_243 : decode cL_law 243 = .ok (.aload_n 1, 1) := by decide +kernel
theorem dL_law_244 : decode cL_law 244 = .ok (.aload_n 0, 1) := by decide +kernel
theorem dL_law_245 : decode cL_law 245 = .ok (.iload 4, 2) := by decide +kernel
theorem dL_law_247 : decode cL_law 247 = .ok (.iconst 1, 1) := by decide +kernel
theorem dL_law_248 : decode cL_law 248 = .ok (.iadd, 1) := by decide +kernel
theorem dL_law_249 : decode cL_law 249 = .ok (.iaload, 1) := by decide +kernel
theorem dL_law_250 : decode cL_law 250 = .ok (.invokevirtual 43, 3) := by decide +kernel
theorem dL_law_253 : decode cL_law 253 = .ok (.aload_n 2, 1) := by decide +kernel
theorem dL_law_254 : decode cL_law 254 = .ok (.aload_n 0, 1) := by decide +kernel
theorem dL_law_255 : decode cL_law 255 = .ok (.iload 4, 2) := by decide +kernel
theorem dL_law_257 : decode cL_law 257 = .ok (.iconst 1, 1) := by decide +kernel
theorem dL_law_258 : decode cL_law 258 = .ok (.iadd, 1) := by decide +kernel
theorem dL_law_259 : decode cL_law 259 = .ok (.iaload, 1) := by decide +kernel
theorem dL_law_260 : decode cL_law 260 = .ok (.invokevirtual 46, 3) := by decide +kernel
theorem dL_law_263 : decode cL_law 263 = .ok (.if_icmp .eq 489, 3) := by decide +kernel
theorem dL_law_266 : decode cL_law 266 = .ok (.iconst 0, 1) := by decide +kernel
theorem dL_law_267 : decode cL_law 267 = .ok (.ireturn, 1) := by decide +kernel
theorem dL_law_268 : decode cL_law 268 = .ok (.aload_n 1, 1) := by decide +kernel
theorem dL_law_269 : decode cL_law 269 = .ok (.aload_n 0, 1) := by decide +kernel
theorem dL_law_270 : decode cL_law 270 = .ok (.iload 4, 2) := by decide +kernel
theorem dL_law_272 : decode cL_law 272 = .ok (.iconst 1, 1) := by decide +kernel
theorem dL_law_273 : decode cL_law 273 = .ok (.iadd, 1) := by decide +kernel
theorem dL_law_274 : decode cL_law 274 = .ok (.iaload, 1) := by decide +kernel
theorem dL_law_275 : decode cL_law 275 = .ok (.aload_n 0, 1) := by decide +kernel
theorem dL_law_276 : decode cL_law 276 = .ok (.iload 4, 2) := by decide +kernel
theorem dL_law_278 : decode cL_law 278 = .ok (.iconst 2, 1) := by decide +kernel
theorem dL_law_279 : decode cL_law 279 = .ok (.iadd, 1) := by decide +kernel
theorem dL_law_280 : decode cL_law 280 = .ok (.iaload, 1) := by decide +kernel
theorem dL_law_281 : decode cL_law 281 = .ok (.invokevirtual 47, 3) := by decide +kernel
theorem dL_law_284 : decode cL_law 284 = .ok (.aload_n 2, 1) := by decide +kernel
theorem dL_law_285 : decode cL_law 285 = .ok (.aload_n 0, 1) := by decide +kernel
theorem dL_law_286 : decode cL_law 286 = .ok (.iload 4, 2) := by decide +kernel
theorem dL_law_288 : decode cL_law 288 = .ok (.iconst 1, 1) := by decide +kernel
theorem dL_law_289 : decode cL_law 289 = .ok (.iadd, 1) := by decide +kernel
theorem dL_law_290 : decode cL_law 290 = .ok (.iaload, 1) := by decide +kernel
theorem dL_law_291 : decode cL_law 291 = .ok (.aload_n 0, 1) := by decide +kernel
theorem dL_law_292 : decode cL_law 292 = .ok (.iload 4, 2) := by decide +kernel
theorem dL_law_294 : decode cL_law 294 = .ok (.iconst 2, 1) := by decide +kernel
theorem dL_law_295 : decode cL_law 295 = .ok (.iadd, 1) := by decide +kernel
theorem dL_law_296 : decode cL_law 296 = .ok (.iaload, 1) := by decide +kernel
theorem dL_law_297 : decode cL_law 297 = .ok (.invokevirtual 50, 3) := by decide +kernel
theorem dL_law_300 : decode cL_law 300 = .ok (.if_icmp .eq 452, 3) := by decide +kernel
theorem dL_law_303 : decode cL_law 303 = .ok (.iconst 0, 1) := by decide +kernel
theorem dL_law_304 : decode cL_law 304 = .ok (.ireturn, 1) := by decide +kernel
theorem dL_law_305 : decode cL_law 305 = .ok (.aload_n 1, 1) := by decide +kernel
theorem dL_law_306 : decode cL_law 306 = .ok (.aload_n 0, 1) := by decide +kernel
theorem dL_law_307 : decode cL_law 307 = .ok (.iload 4, 2) := by decide +kernel
theorem dL_law_309 : decode cL_law 309 = .ok (.iconst 1, 1) := by decide +kernel
theorem dL_law_310 : decode cL_law 310 = .ok (.iadd, 1) := by decide +kernel
theorem dL_law_311 : decode cL_law 311 = .ok (.iaload, 1) := by decide +kernel
theorem dL_law_312 : decode cL_law 312 = .ok (.invokevirtual 51, 3) := by decide +kernel
theorem dL_law_315 : decode cL_law 315 = .ok (.aload_n 2, 1) := by decide +kernel
theorem dL_law_316 : decode cL_law 316 = .ok (.aload_n 0, 1) := by decide +kernel
theorem dL_law_317 : decode cL_law 317 = .ok (.iload 4, 2) := by decide +kernel
theorem dL_law_319 : decode cL_law 319 = .ok (.iconst 1, 1) := by decide +kernel
theorem dL_law_320 : decode cL_law 320 = .ok (.iadd, 1) := by decide +kernel
theorem dL_law_321 : decode cL_law 321 = .ok (.iaload, 1) := by decide +kernel
theorem dL_law_322 : decode cL_law 322 = .ok (.invokevirtual 54, 3) := by decide +kernel
theorem dL_law_325 : decode cL_law 325 = .ok (.if_icmp .eq 427, 3) := by decide +kernel
theorem dL_law_328 : decode cL_law 328 = .ok (.iconst 0, 1) := by decide +kernel
theorem dL_law_329 : decode cL_law 329 = .ok (.ireturn, 1) := by decide +kernel
theorem dL_law_330 : decode cL_law 330 = .ok (.aload_n 1, 1) := by decide +kernel
theorem dL_law_331 : decode cL_law 331 = .ok (.aload_n 0, 1) := by decide +kernel
theorem dL_law_332 : decode cL_law 332 = .ok (.iload 4, 2) := by decide +kernel
theorem dL_law_334 : decode cL_law 334 = .ok (.iconst 1, 1) := by decide +kernel
theorem dL_law_335 : decode cL_law 335 = .ok (.iadd, 1) := by decide +kernel
theorem dL_law_336 : decode cL_law 336 = .ok (.iaload, 1) := by decide +kernel
theorem dL_law_337 : decode cL_law 337 = .ok (.aload_n 0, 1) := by decide +kernel
theorem dL_law_338 : decode cL_law 338 = .ok (.iload 4, 2) := by decide +kernel
theorem dL_law_340 : decode cL_law 340 = .ok (.iconst 2, 1) := by decide +kernel
theorem dL_law_341 : decode cL_law 341 = .ok (.iadd, 1) := by decide +kernel
theorem dL_law_342 : decode cL_law 342 = .ok (.iaload, 1) := by decide +kernel
theorem dL_law_343 : decode cL_law 343 = .ok (.aload_n 0, 1) := by decide +kernel
theorem dL_law_344 : decode cL_law 344 = .ok (.iload 4, 2) := by decide +kernel
theorem dL_law_346 : decode cL_law 346 = .ok (.iconst 3, 1) := by decide +kernel
theorem dL_law_347 : decode cL_law 347 = .ok (.iadd, 1) := by decide +kernel
theorem dL_law_348 : decode cL_law 348 = .ok (.iaload, 1) := by decide +kernel
theorem dL_law_349 : decode cL_law 349 = .ok (.invokevirtual 55, 3) := by decide +kernel
theorem dL_law_352 : decode cL_law 352 = .ok (.aload_n 2, 1) := by decide +kernel
theorem dL_law_353 : decode cL_law 353 = .ok (.aload_n 0, 1) := by decide +kernel
theorem dL_law_354 : decode cL_law 354 = .ok (.iload 4, 2) := by decide +kernel
theorem dL_law_356 : decode cL_law 356 = .ok (.iconst 1, 1) := by decide +kernel
theorem dL_law_357 : decode cL_law 357 = .ok (.iadd, 1) := by decide +kernel
theorem dL_law_358 : decode cL_law 358 = .ok (.iaload, 1) := by decide +kernel
theorem dL_law_359 : decode cL_law 359 = .ok (.aload_n 0, 1) := by decide +kernel
theorem dL_law_360 : decode cL_law 360 = .ok (.iload 4, 2) := by decide +kernel
theorem dL_law_362 : decode cL_law 362 = .ok (.iconst 2, 1) := by decide +kernel
theorem dL_law_363 : decode cL_law 363 = .ok (.iadd, 1) := by decide +kernel
theorem dL_law_364 : decode cL_law 364 = .ok (.iaload, 1) := by decide +kernel
theorem dL_law_365 : decode cL_law 365 = .ok (.aload_n 0, 1) := by decide +kernel
theorem dL_law_366 : decode cL_law 366 = .ok (.iload 4, 2) := by decide +kernel
theorem dL_law_368 : decode cL_law 368 = .ok (.iconst 3, 1) := by decide +kernel
theorem dL_law_369 : decode cL_law 369 = .ok (.iadd, 1) := by decide +kernel
theorem dL_law_370 : decode cL_law 370 = .ok (.iaload, 1) := by decide +kernel
theorem dL_law_371 : decode cL_law 371 = .ok (.invokevirtual 59, 3) := by decide +kernel
theorem dL_law_374 : decode cL_law 374 = .ok (.if_icmp .eq 378, 3) := by decide +kernel
theorem dL_law_377 : decode cL_law 377 = .ok (.iconst 0, 1) := by decide +kernel
theorem dL_law_378 : decode cL_law 378 = .ok (.ireturn, 1) := by decide +kernel
theorem dL_law_379 : decode cL_law 379 = .ok (.aload_n 1, 1) := by decide +kernel
theorem dL_law_380 : decode cL_law 380 = .ok (.aload_n 0, 1) := by decide +kernel
theorem dL_law_381 : decode cL_law 381 = .ok (.iload 4, 2) := by decide +kernel
theorem dL_law_383 : decode cL_law 383 = .ok (.iconst 1, 1) := by decide +kernel
theorem dL_law_384 : decode cL_law 384 = .ok (.iadd, 1) := by decide +kernel
theorem dL_law_385 : decode cL_law 385 = .ok (.iaload, 1) := by decide +kernel
theorem dL_law_386 : decode cL_law 386 = .ok (.invokevirtual 60, 3) := by decide +kernel
theorem dL_law_389 : decode cL_law 389 = .ok (.aload_n 2, 1) := by decide +kernel
theorem dL_law_390 : decode cL_law 390 = .ok (.aload_n 0, 1) := by decide +kernel
theorem dL_law_391 : decode cL_law 391 = .ok (.iload 4, 2) := by decide +kernel
theorem dL_law_393 : decode cL_law 393 = .ok (.iconst 1, 1) := by decide +kernel
theorem dL_law_394 : decode cL_law 394 = .ok (.iadd, 1) := by decide +kernel
theorem dL_law_395 : decode cL_law 395 = .ok (.iaload, 1) := by decide +kernel
theorem dL_law_396 : decode cL_law 396 = .ok (.invokevirtual 63, 3) := by decide +kernel
theorem dL_law_399 : decode cL_law 399 = .ok (.if_icmp .eq 353, 3) := by decide +kernel
theorem dL_law_402 : decode cL_law 402 = .ok (.iconst 0, 1) := by decide +kernel
theorem dL_law_403 : decode cL_law 403 = .ok (.ireturn, 1) := by decide +kernel
theorem dL_law_404 : decode cL_law 404 = .ok (.aload_n 1, 1) := by decide +kernel
theorem dL_law_405 : decode cL_law 405 = .ok (.aload_n 0, 1) := by decide +kernel
theorem dL_law_406 : decode cL_law 406 = .ok (.iload 4, 2) := by decide +kernel
theorem dL_law_408 : decode cL_law 408 = .ok (.iconst 1, 1) := by decide +kernel
theorem dL_law_409 : decode cL_law 409 = .ok (.iadd, 1) := by decide +kernel
theorem dL_law_410 : decode cL_law 410 = .ok (.iaload, 1) := by decide +kernel
theorem dL_law_411 : decode cL_law 411 = .ok (.aload_n 0, 1) := by decide +kernel
theorem dL_law_412 : decode cL_law 412 = .ok (.iload 4, 2) := by decide +kernel
theorem dL_law_414 : decode cL_law 414 = .ok (.iconst 2, 1) := by decide +kernel
theorem dL_law_415 : decode cL_law 415 = .ok (.iadd, 1) := by decide +kernel
theorem dL_law_416 : decode cL_law 416 = .ok (.iaload, 1) := by decide +kernel
theorem dL_law_417 : decode cL_law 417 = .ok (.aload_n 3, 1) := by decide +kernel
theorem dL_law_418 : decode cL_law 418 = .ok (.invokestatic 64, 3) := by decide +kernel
theorem dL_law_421 : decode cL_law 421 = .ok (.istore 5, 2) := by decide +kernel
theorem dL_law_423 : decode cL_law 423 = .ok (.aload_n 2, 1) := by decide +kernel
theorem dL_law_424 : decode cL_law 424 = .ok (.aload_n 0, 1) := by decide +kernel
theorem dL_law_425 : decode cL_law 425 = .ok (.iload 4, 2) := by decide +kernel
theorem dL_law_427 : decode cL_law 427 = .ok (.iconst 1, 1) := by decide +kernel
theorem dL_law_428 : decode cL_law 428 = .ok (.iadd, 1) := by decide +kernel
theorem dL_law_429 : decode cL_law 429 = .ok (.iaload, 1) := by decide +kernel
theorem dL_law_430 : decode cL_law 430 = .ok (.aload_n 0, 1) := by decide +kernel
theorem dL_law_431 : decode cL_law 431 = .ok (.iload 4, 2) := by decide +kernel
theorem dL_law_433 : decode cL_law 433 = .ok (.iconst 2, 1) := by decide +kernel
theorem dL_law_434 : decode cL_law 434 = .ok (.iadd, 1) := by decide +kernel
theorem dL_law_435 : decode cL_law 435 = .ok (.iaload, 1) := by decide +kernel
theorem dL_law_436 : decode cL_law 436 = .ok (.invokevirtual 67, 3) := by decide +kernel
theorem dL_law_439 : decode cL_law 439 = .ok (.istore 6, 2) := by decide +kernel
theorem dL_law_441 : decode cL_law 441 = .ok (.aload_n 2, 1) := by decide +kernel
theorem dL_law_442 : decode cL_law 442 = .ok (.invokevirtual 68, 3) := by decide +kernel
theorem dL_law_445 : decode cL_law 445 = .ok (.iload 5, 2) := by decide +kernel
theorem dL_law_447 : decode cL_law 447 = .ok (.if_icmp .eq 5, 3) := by decide +kernel
theorem dL_law_450 : decode cL_law 450 = .ok (.iconst 0, 1) := by decide +kernel
theorem dL_law_451 : decode cL_law 451 = .ok (.ireturn, 1) := by decide +kernel
theorem dL_law_452 : decode cL_law 452 = .ok (.iload 5, 2) := by decide +kernel
theorem dL_law_454 : decode cL_law 454 = .ok (.ifCond .ne 15, 3) := by decide +kernel
theorem dL_law_457 : decode cL_law 457 = .ok (.aload_n 3, 1) := by decide +kernel
theorem dL_law_458 : decode cL_law 458 = .ok (.iconst 0, 1) := by decide +kernel
theorem dL_law_459 : decode cL_law 459 = .ok (.laload, 1) := by decide +kernel
theorem dL_law_460 : decode cL_law 460 = .ok (.iload 6, 2) := by decide +kernel
theorem dL_law_462 : decode cL_law 462 = .ok (.i2l, 1) := by decide +kernel
theorem dL_law_463 : decode cL_law 463 = .ok (.lcmp, 1) := by decide +kernel
theorem dL_law_464 : decode cL_law 464 = .ok (.ifCond .eq 5, 3) := by decide +kernel
theorem dL_law_467 : decode cL_law 467 = .ok (.iconst 0, 1) := by decide +kernel
theorem dL_law_468 : decode cL_law 468 = .ok (.ireturn, 1) := by decide +kernel
theorem dL_law_469 : decode cL_law 469 = .ok (.goto 283, 3) := by decide +kernel
theorem dL_law_472 : decode cL_law 472 = .ok (.aload_n 1, 1) := by decide +kernel
theorem dL_law_473 : decode cL_law 473 = .ok (.aload_n 0, 1) := by decide +kernel
theorem dL_law_474 : decode cL_law 474 = .ok (.iload 4, 2) := by decide +kernel
theorem dL_law_476 : decode cL_law 476 = .ok (.iconst 1, 1) := by decide +kernel
theorem dL_law_477 : decode cL_law 477 = .ok (.iadd, 1) := by decide +kernel
theorem dL_law_478 : decode cL_law 478 = .ok (.iaload, 1) := by decide +kernel
theorem dL_law_479 : decode cL_law 479 = .ok (.aload_n 0, 1) := by decide +kernel
theorem dL_law_480 : decode cL_law 480 = .ok (.iload 4, 2) := by decide +kernel
theorem dL_law_482 : decode cL_law 482 = .ok (.iconst 2, 1) := by decide +kernel
theorem dL_law_483 : decode cL_law 483 = .ok (.iadd, 1) := by decide +kernel
theorem dL_law_484 : decode cL_law 484 = .ok (.iaload, 1) := by decide +kernel
theorem dL_law_485 : decode cL_law 485 = .ok (.invokevirtual 72, 3) := by decide +kernel
theorem dL_law_488 : decode cL_law 488 = .ok (.aload_n 2, 1) := by decide +kernel
theorem dL_law_489 : decode cL_law 489 = .ok (.aload_n 0, 1) := by decide +kernel
theorem dL_law_490 : decode cL_law 490 = .ok (.iload 4, 2) := by decide +kernel
theorem dL_law_492 : decode cL_law 492 = .ok (.iconst 1, 1) := by decide +kernel
theorem dL_law_493 : decode cL_law 493 = .ok (.iadd, 1) := by decide +kernel
theorem dL_law_494 : decode cL_law 494 = .ok (.iaload, 1) := by decide +kernel
theorem dL_law_495 : decode cL_law 495 = .ok (.aload_n 0, 1) := by decide +kernel
theorem dL_law_496 : decode cL_law 496 = .ok (.iload 4, 2) := by decide +kernel
theorem dL_law_498 : decode cL_law 498 = .ok (.iconst 2, 1) := by decide +kernel
theorem dL_law_499 : decode cL_law 499 = .ok (.iadd, 1) := by decide +kernel
theorem dL_law_500 : decode cL_law 500 = .ok (.iaload, 1) := by decide +kernel
theorem dL_law_501 : decode cL_law 501 = .ok (.invokevirtual 76, 3) := by decide +kernel
theorem dL_law_504 : decode cL_law 504 = .ok (.if_icmp .eq 248, 3) := by decide +kernel
theorem dL_law_507 : decode cL_law 507 = .ok (.iconst 0, 1) := by decide +kernel
theorem dL_law_508 : decode cL_law 508 = .ok (.ireturn, 1) := by decide +kernel
theorem dL_law_509 : decode cL_law 509 = .ok (.aload_n 1, 1) := by decide +kernel
theorem dL_law_510 : decode cL_law 510 = .ok (.invokevirtual 77, 3) := by decide +kernel
theorem dL_law_513 : decode cL_law 513 = .ok (.aload_n 2, 1) := by decide +kernel
theorem dL_law_514 : decode cL_law 514 = .ok (.invokevirtual 80, 3) := by decide +kernel
theorem dL_law_517 : decode cL_law 517 = .ok (.if_icmp .eq 235, 3) := by decide +kernel
theorem dL_law_520 : decode cL_law 520 = .ok (.iconst 0, 1) := by decide +kernel
theorem dL_law_521 : decode cL_law 521 = .ok (.ireturn, 1) := by decide +kernel
theorem dL_law_522 : decode cL_law 522 = .ok (.aload_n 1, 1) := by decide +kernel
theorem dL_law_523 : decode cL_law 523 = .ok (.aload_n 0, 1) := by decide +kernel
theorem dL_law_524 : decode cL_law 524 = .ok (.iload 4, 2) := by decide +kernel
theorem dL_law_526 : decode cL_law 526 = .ok (.iconst 1, 1) := by decide +kernel
theorem dL_law_527 : decode cL_law 527 = .ok (.iadd, 1) := by decide +kernel
theorem dL_law_528 : decode cL_law 528 = .ok (.iaload, 1) := by decide +kernel
theorem dL_law_529 : decode cL_law 529 = .ok (.aload_n 0, 1) := by decide +kernel
theorem dL_law_530 : decode cL_law 530 = .ok (.iload 4, 2) := by decide +kernel
theorem dL_law_532 : decode cL_law 532 = .ok (.iconst 2, 1) := by decide +kernel
theorem dL_law_533 : decode cL_law 533 = .ok (.iadd, 1) := by decide +kernel
theorem dL_law_534 : decode cL_law 534 = .ok (.iaload, 1) := by decide +kernel
theorem dL_law_535 : decode cL_law 535 = .ok (.invokevirtual 81, 3) := by decide +kernel
theorem dL_law_538 : decode cL_law 538 = .ok (.aload_n 2, 1) := by decide +kernel
theorem dL_law_539 : decode cL_law 539 = .ok (.aload_n 0, 1) := by decide +kernel
theorem dL_law_540 : decode cL_law 540 = .ok (.iload 4, 2) := by decide +kernel
theorem dL_law_542 : decode cL_law 542 = .ok (.iconst 1, 1) := by decide +kernel
theorem dL_law_543 : decode cL_law 543 = .ok (.iadd, 1) := by decide +kernel
theorem dL_law_544 : decode cL_law 544 = .ok (.iaload, 1) := by decide +kernel
theorem dL_law_545 : decode cL_law 545 = .ok (.aload_n 0, 1) := by decide +kernel
theorem dL_law_546 : decode cL_law 546 = .ok (.iload 4, 2) := by decide +kernel
theorem dL_law_548 : decode cL_law 548 = .ok (.iconst 2, 1) := by decide +kernel
theorem dL_law_549 : decode cL_law 549 = .ok (.iadd, 1) := by decide +kernel
theorem dL_law_550 : decode cL_law 550 = .ok (.iaload, 1) := by decide +kernel
theorem dL_law_551 : decode cL_law 551 = .ok (.invokevirtual 84, 3) := by decide +kernel
theorem dL_law_554 : decode cL_law 554 = .ok (.if_icmp .eq 198, 3) := by decide +kernel
theorem dL_law_557 : decode cL_law 557 = .ok (.iconst 0, 1) := by decide +kernel
theorem dL_law_558 : decode cL_law 558 = .ok (.ireturn, 1) := by decide +kernel
theorem dL_law_559 : decode cL_law 559 = .ok (.aload_n 1, 1) := by decide +kernel
theorem dL_law_560 : decode cL_law 560 = .ok (.invokevirtual 85, 3) := by decide +kernel
theorem dL_law_563 : decode cL_law 563 = .ok (.aload_n 2, 1) := by decide +kernel
theorem dL_law_564 : decode cL_law 564 = .ok (.invokevirtual 88, 3) := by decide +kernel
theorem dL_law_567 : decode cL_law 567 = .ok (.if_icmp .eq 185, 3) := by decide +kernel
theorem dL_law_570 : decode cL_law 570 = .ok (.iconst 0, 1) := by decide +kernel
theorem dL_law_571 : decode cL_law 571 = .ok (.ireturn, 1) := by decide +kernel
theorem dL_law_572 : decode cL_law 572 = .ok (.aload_n 1, 1) := by decide +kernel
theorem dL_law_573 : decode cL_law 573 = .ok (.aload_n 0, 1) := by decide +kernel
theorem dL_law_574 : decode cL_law 574 = .ok (.iload 4, 2) := by decide +kernel
theorem dL_law_576 : decode cL_law 576 = .ok (.iconst 1, 1) := by decide +kernel
theorem dL_law_577 : decode cL_law 577 = .ok (.iadd, 1) := by decide +kernel
theorem dL_law_578 : decode cL_law 578 = .ok (.iaload, 1) := by decide +kernel
theorem dL_law_579 : decode cL_law 579 = .ok (.invokevirtual 89, 3) := by decide +kernel
theorem dL_law_582 : decode cL_law 582 = .ok (.aload_n 2, 1) := by decide +kernel
theorem dL_law_583 : decode cL_law 583 = .ok (.aload_n 0, 1) := by decide +kernel
theorem dL_law_584 : decode cL_law 584 = .ok (.iload 4, 2) := by decide +kernel
theorem dL_law_586 : decode cL_law 586 = .ok (.iconst 1, 1) := by decide +kernel
theorem dL_law_587 : decode cL_law 587 = .ok (.iadd, 1) := by decide +kernel
theorem dL_law_588 : decode cL_law 588 = .ok (.iaload, 1) := by decide +kernel
theorem dL_law_589 : decode cL_law 589 = .ok (.invokevirtual 92, 3) := by decide +kernel
theorem dL_law_592 : decode cL_law 592 = .ok (.if_icmp .eq 160, 3) := by decide +kernel
theorem dL_law_595 : decode cL_law 595 = .ok (.iconst 0, 1) := by decide +kernel
theorem dL_law_596 : decode cL_law 596 = .ok (.ireturn, 1) := by decide +kernel
theorem dL_law_597 : decode cL_law 597 = .ok (.aload_n 1, 1) := by decide +kernel
theorem dL_law_598 : decode cL_law 598 = .ok (.aload_n 0, 1) := by decide +kernel
theorem dL_law_599 : decode cL_law 599 = .ok (.iload 4, 2) := by decide +kernel
theorem dL_law_601 : decode cL_law 601 = .ok (.iconst 1, 1) := by decide +kernel
theorem dL_law_602 : decode cL_law 602 = .ok (.iadd, 1) := by decide +kernel
theorem dL_law_603 : decode cL_law 603 = .ok (.iaload, 1) := by decide +kernel
theorem dL_law_604 : decode cL_law 604 = .ok (.invokevirtual 93, 3) := by decide +kernel
theorem dL_law_607 : decode cL_law 607 = .ok (.aload_n 2, 1) := by decide +kernel
theorem dL_law_608 : decode cL_law 608 = .ok (.aload_n 0, 1) := by decide +kernel
theorem dL_law_609 : decode cL_law 609 = .ok (.iload 4, 2) := by decide +kernel
theorem dL_law_611 : decode cL_law 611 = .ok (.iconst 1, 1) := by decide +kernel
theorem dL_law_612 : decode cL_law 612 = .ok (.iadd, 1) := by decide +kernel
theorem dL_law_613 : decode cL_law 613 = .ok (.iaload, 1) := by decide +kernel
theorem dL_law_614 : decode cL_law 614 = .ok (.invokevirtual 96, 3) := by decide +kernel
theorem dL_law_617 : decode cL_law 617 = .ok (.if_icmp .eq 135, 3) := by decide +kernel
theorem dL_law_620 : decode cL_law 620 = .ok (.iconst 0, 1) := by decide +kernel
theorem dL_law_621 : decode cL_law 621 = .ok (.ireturn, 1) := by decide +kernel
theorem dL_law_622 : decode cL_law 622 = .ok (.aload_n 1, 1) := by decide +kernel
theorem dL_law_623 : decode cL_law 623 = .ok (.aload_n 0, 1) := by decide +kernel
theorem dL_law_624 : decode cL_law 624 = .ok (.iload 4, 2) := by decide +kernel
theorem dL_law_626 : decode cL_law 626 = .ok (.iconst 1, 1) := by decide +kernel
theorem dL_law_627 : decode cL_law 627 = .ok (.iadd, 1) := by decide +kernel
theorem dL_law_628 : decode cL_law 628 = .ok (.iaload, 1) := by decide +kernel
theorem dL_law_629 : decode cL_law 629 = .ok (.aload_n 0, 1) := by decide +kernel
theorem dL_law_630 : decode cL_law 630 = .ok (.iload 4, 2) := by decide +kernel
theorem dL_law_632 : decode cL_law 632 = .ok (.iconst 2, 1) := by decide +kernel
theorem dL_law_633 : decode cL_law 633 = .ok (.iadd, 1) := by decide +kernel
theorem dL_law_634 : decode cL_law 634 = .ok (.iaload, 1) := by decide +kernel
theorem dL_law_635 : decode cL_law 635 = .ok (.invokevirtual 97, 3) := by decide +kernel
theorem dL_law_638 : decode cL_law 638 = .ok (.aload_n 2, 1) := by decide +kernel
theorem dL_law_639 : decode cL_law 639 = .ok (.aload_n 0, 1) := by decide +kernel
theorem dL_law_640 : decode cL_law 640 = .ok (.iload 4, 2) := by decide +kernel
theorem dL_law_642 : decode cL_law 642 = .ok (.iconst 1, 1) := by decide +kernel
theorem dL_law_643 : decode cL_law 643 = .ok (.iadd, 1) := by decide +kernel
theorem dL_law_644 : decode cL_law 644 = .ok (.iaload, 1) := by decide +kernel
theorem dL_law_645 : decode cL_law 645 = .ok (.aload_n 0, 1) := by decide +kernel
theorem dL_law_646 : decode cL_law 646 = .ok (.iload 4, 2) := by decide +kernel
theorem dL_law_648 : decode cL_law 648 = .ok (.iconst 2, 1) := by decide +kernel
theorem dL_law_649 : decode cL_law 649 = .ok (.iadd, 1) := by decide +kernel
theorem dL_law_650 : decode cL_law 650 = .ok (.iaload, 1) := by decide +kernel
theorem dL_law_651 : decode cL_law 651 = .ok (.invokevirtual 100, 3) := by decide +kernel
theorem dL_law_654 : decode cL_law 654 = .ok (.if_icmp .eq 98, 3) := by decide +kernel
theorem dL_law_657 : decode cL_law 657 = .ok (.iconst 0, 1) := by decide +kernel
theorem dL_law_658 : decode cL_law 658 = .ok (.ireturn, 1) := by decide +kernel
theorem dL_law_659 : decode cL_law 659 = .ok (.aload_n 1, 1) := by decide +kernel
theorem dL_law_660 : decode cL_law 660 = .ok (.aload_n 0, 1) := by decide +kernel
theorem dL_law_661 : decode cL_law 661 = .ok (.iload 4, 2) := by decide +kernel
theorem dL_law_663 : decode cL_law 663 = .ok (.iconst 1, 1) := by decide +kernel
theorem dL_law_664 : decode cL_law 664 = .ok (.iadd, 1) := by decide +kernel
theorem dL_law_665 : decode cL_law 665 = .ok (.iaload, 1) := by decide +kernel
theorem dL_law_666 : decode cL_law 666 = .ok (.invokevirtual 101, 3) := by decide +kernel
theorem dL_law_669 : decode cL_law 669 = .ok (.aload_n 2, 1) := by decide +kernel
theorem dL_law_670 : decode cL_law 670 = .ok (.aload_n 0, 1) := by decide +kernel
theorem dL_law_671 : decode cL_law 671 = .ok (.iload 4, 2) := by decide +kernel
theorem dL_law_673 : decode cL_law 673 = .ok (.iconst 1, 1) := by decide +kernel
theorem dL_law_674 : decode cL_law 674 = .ok (.iadd, 1) := by decide +kernel
theorem dL_law_675 : decode cL_law 675 = .ok (.iaload, 1) := by decide +kernel
theorem dL_law_676 : decode cL_law 676 = .ok (.invokevirtual 104, 3) := by decide +kernel
theorem dL_law_679 : decode cL_law 679 = .ok (.if_icmp .eq 73, 3) := by decide +kernel
theorem dL_law_682 : decode cL_law 682 = .ok (.iconst 0, 1) := by decide +kernel
theorem dL_law_683 : decode cL_law 683 = .ok (.ireturn, 1) := by decide +kernel
theorem dL_law_684 : decode cL_law 684 = .ok (.aload_n 1, 1) := by decide +kernel
theorem dL_law_685 : decode cL_law 685 = .ok (.aload_n 0, 1) := by decide +kernel
theorem dL_law_686 : decode cL_law 686 = .ok (.iload 4, 2) := by decide +kernel
theorem dL_law_688 : decode cL_law 688 = .ok (.iconst 1, 1) := by decide +kernel
theorem dL_law_689 : decode cL_law 689 = .ok (.iadd, 1) := by decide +kernel
theorem dL_law_690 : decode cL_law 690 = .ok (.iaload, 1) := by decide +kernel
theorem dL_law_691 : decode cL_law 691 = .ok (.aload_n 0, 1) := by decide +kernel
theorem dL_law_692 : decode cL_law 692 = .ok (.iload 4, 2) := by decide +kernel
theorem dL_law_694 : decode cL_law 694 = .ok (.iconst 2, 1) := by decide +kernel
theorem dL_law_695 : decode cL_law 695 = .ok (.iadd, 1) := by decide +kernel
theorem dL_law_696 : decode cL_law 696 = .ok (.iaload, 1) := by decide +kernel
theorem dL_law_697 : decode cL_law 697 = .ok (.aload_n 3, 1) := by decide +kernel
theorem dL_law_698 : decode cL_law 698 = .ok (.invokestatic 105, 3) := by decide +kernel
theorem dL_law_701 : decode cL_law 701 = .ok (.istore 5, 2) := by decide +kernel
theorem dL_law_703 : decode cL_law 703 = .ok (.aload_n 2, 1) := by decide +kernel
theorem dL_law_704 : decode cL_law 704 = .ok (.aload_n 0, 1) := by decide +kernel
theorem dL_law_705 : decode cL_law 705 = .ok (.iload 4, 2) := by decide +kernel
theorem dL_law_707 : decode cL_law 707 = .ok (.iconst 1, 1) := by decide +kernel
theorem dL_law_708 : decode cL_law 708 = .ok (.iadd, 1) := by decide +kernel
theorem dL_law_709 : decode cL_law 709 = .ok (.iaload, 1) := by decide +kernel
theorem dL_law_710 : decode cL_law 710 = .ok (.aload_n 0, 1) := by decide +kernel
theorem dL_law_711 : decode cL_law 711 = .ok (.iload 4, 2) := by decide +kernel
theorem dL_law_713 : decode cL_law 713 = .ok (.iconst 2, 1) := by decide +kernel
theorem dL_law_714 : decode cL_law 714 = .ok (.iadd, 1) := by decide +kernel
theorem dL_law_715 : decode cL_law 715 = .ok (.iaload, 1) := by decide +kernel
theorem dL_law_716 : decode cL_law 716 = .ok (.invokevirtual 107, 3) := by decide +kernel
theorem dL_law_719 : decode cL_law 719 = .ok (.istore 6, 2) := by decide +kernel
theorem dL_law_721 : decode cL_law 721 = .ok (.aload_n 2, 1) := by decide +kernel
theorem dL_law_722 : decode cL_law 722 = .ok (.invokevirtual 68, 3) := by decide +kernel
theorem dL_law_725 : decode cL_law 725 = .ok (.iload 5, 2) := by decide +kernel
theorem dL_law_727 : decode cL_law 727 = .ok (.if_icmp .eq 5, 3) := by decide +kernel
theorem dL_law_730 : decode cL_law 730 = .ok (.iconst 0, 1) := by decide +kernel
theorem dL_law_731 : decode cL_law 731 = .ok (.ireturn, 1) := by decide +kernel
theorem dL_law_732 : decode cL_law 732 = .ok (.iload 5, 2) := by decide +kernel
theorem dL_law_734 : decode cL_law 734 = .ok (.ifCond .ne 15, 3) := by decide +kernel
theorem dL_law_737 : decode cL_law 737 = .ok (.aload_n 3, 1) := by decide +kernel
theorem dL_law_738 : decode cL_law 738 = .ok (.iconst 0, 1) := by decide +kernel
theorem dL_law_739 : decode cL_law 739 = .ok (.laload, 1) := by decide +kernel
theorem dL_law_740 : decode cL_law 740 = .ok (.iload 6, 2) := by decide +kernel
theorem dL_law_742 : decode cL_law 742 = .ok (.i2l, 1) := by decide +kernel
theorem dL_law_743 : decode cL_law 743 = .ok (.lcmp, 1) := by decide +kernel
theorem dL_law_744 : decode cL_law 744 = .ok (.ifCond .eq 5, 3) := by decide +kernel
theorem dL_law_747 : decode cL_law 747 = .ok (.iconst 0, 1) := by decide +kernel
theorem dL_law_748 : decode cL_law 748 = .ok (.ireturn, 1) := by decide +kernel
theorem dL_law_749 : decode cL_law 749 = .ok (.goto 3, 3) := by decide +kernel
theorem dL_law_752 : decode cL_law 752 = .ok (.iinc 4 4, 3) := by decide +kernel
theorem dL_law_755 : decode cL_law 755 = .ok (.goto (-702), 3) := by decide +kernel
theorem dL_law_758 : decode cL_law 758 = .ok (.iconst 1, 1) := by decide +kernel
theorem dL_law_759 : decode cL_law 759 = .ok (.ireturn, 1) := by decide +kernel
theorem sgL_cell_0 {X : CX} {d mc ms cells slots : Nat} {pp : Int32 → Hp → Prop} {h : Hp} {b0 : Nat} {x1 : Int32}  (C : CmI X mL_cell d mc ms pp) (hc : cells ≤ mc) (hs : slots ≤ ms) (h0 : h.K b0 = 20) (h1 : ¬ nI (h.N b0) ≤ x1 → vp_in x1 (h.N b0)) (k0 : nI (h.N b0) ≤ x1 → pp 0 h) (k1 : ¬ nI (h.N b0) ≤ x1 → pp (h.AI b0 (x1.toNatClampNeg)) h) : At X cells slots 0 [some (va_rf (some b0)), some (.int x1)] [] h := by
  refine st_iload_n (pc := 0) C.1 dL_cell_0 rfl rfl ?_
  refine st_aload_n (pc := 1) C.1 (some b0) dL_cell_1 rfl rfl ?_
  refine st_slen (pc := 2) C.1 dL_cell_2 h0 ?_
  refine st_icmp_ge (pc := 3) (tgt := 12) C.1 dL_cell_3 (by decide) (fun c0 => ?_) (fun c0 => ?_)
  · refine st_iconst (pc := 12) (v := 0) C.1 dL_cell_12 (by decide) ?_
    exact rt_i C (Or.inl rfl) dL_cell_13 hc hs ⟨_, rfl, (k0 c0)⟩
  · refine st_aload_n (pc := 6) C.1 (some b0) dL_cell_6 rfl rfl ?_
    refine st_iload_n (pc := 7) C.1 dL_cell_7 rfl rfl ?_
    refine st_saload (pc := 8) C.1 dL_cell_8 h0 (h1 c0) ?_
    refine st_goto (pc := 9) (tgt := 13) C.1 dL_cell_9 (by decide) ?_
    exact rt_i C (Or.inl rfl) dL_cell_13 hc hs ⟨_, rfl, (k1 c0)⟩

theorem sgL_describe_0 {X : CX} {d mc ms cells slots : Nat} {pp : Int32 → Hp → Prop} {h : Hp} {o0 : Option Nat} {x1 : Int32} {x2 : Int32} {o3 : Option Nat}  (C : CmI X mL_describe d mc ms pp)  (k0 : At X cells slots 5 [some (va_rf o0), some (.int x1), some (.int x2), some (va_rf o3), none] [.int x2, .int x1, va_rf o0, .int 0, va_rf o3] h) : At X cells slots 0 [some (va_rf o0), some (.int x1), some (.int x2), some (va_rf o3), none] [] h := by
  refine st_aload_n (pc := 0) C.1 o3 dL_describe_0 rfl rfl ?_
  refine st_iconst (pc := 1) (v := 0) C.1 dL_describe_1 (by decide) ?_
  refine st_aload_n (pc := 2) C.1 o0 dL_describe_2 rfl rfl ?_
  refine st_iload_n (pc := 3) C.1 dL_describe_3 rfl rfl ?_
  refine st_iload_n (pc := 4) C.1 dL_describe_4 rfl rfl ?_
  exact k0

theorem sgL_describe_8 {X : CX} {d mc ms cells slots : Nat} {pp : Int32 → Hp → Prop} {h : Hp} {o0 : Option Nat} {x1 : Int32} {x2 : Int32} {o3 : Option Nat} {u0 : Int32} {u1 : Int32} {q2 : Nat}  (C : CmI X mL_describe d mc ms pp) (hc : cells ≤ mc) (hs : slots ≤ ms) (h0 : h.K q2 = 15) (h1 : vp_in u1 (h.N q2)) (k0 : pp 0 (h.sAL q2 (u1.toNatClampNeg) u0.toInt64)) : At X cells slots 8 [some (va_rf o0), some (.int x1), some (.int x2), some (va_rf o3), none] [.int u0, .int u1, va_rf (some q2)] h := by
  refine st_i2l (pc := 8) C.1 dL_describe_8 ?_
  refine st_lastore (pc := 9) C.1 dL_describe_9 h0 h1 ?_
  refine st_goto (pc := 10) (tgt := 17) C.1 dL_describe_10 (by decide) ?_
  refine st_iconst (pc := 17) (v := 0) C.1 dL_describe_17 (by decide) ?_
  exact rt_i C (Or.inl rfl) dL_describe_18 hc hs ⟨_, rfl, k0⟩

theorem sgL_fault_0 {X : CX} {d mc ms cells slots : Nat} {pp : Int32 → Hp → Prop} {h : Hp} {o0 : Option Nat} {x1 : Int32} {x2 : Int32} {o3 : Option Nat}  (C : CmI X mL_fault d mc ms pp)  (k0 : At X cells slots 5 [some (va_rf o0), some (.int x1), some (.int x2), some (va_rf o3), none] [.int x2, .int x1, va_rf o0, .int 0, va_rf o3] h) : At X cells slots 0 [some (va_rf o0), some (.int x1), some (.int x2), some (va_rf o3), none] [] h := by
  refine st_aload_n (pc := 0) C.1 o3 dL_fault_0 rfl rfl ?_
  refine st_iconst (pc := 1) (v := 0) C.1 dL_fault_1 (by decide) ?_
  refine st_aload_n (pc := 2) C.1 o0 dL_fault_2 rfl rfl ?_
  refine st_iload_n (pc := 3) C.1 dL_fault_3 rfl rfl ?_
  refine st_iload_n (pc := 4) C.1 dL_fault_4 rfl rfl ?_
  exact k0

theorem sgL_fault_8 {X : CX} {d mc ms cells slots : Nat} {pp : Int32 → Hp → Prop} {h : Hp} {o0 : Option Nat} {x1 : Int32} {x2 : Int32} {o3 : Option Nat} {u0 : Int32} {u1 : Int32} {q2 : Nat}  (C : CmI X mL_fault d mc ms pp) (hc : cells ≤ mc) (hs : slots ≤ ms) (h0 : h.K q2 = 15) (h1 : vp_in u1 (h.N q2)) (k0 : pp 0 (h.sAL q2 (u1.toNatClampNeg) u0.toInt64)) : At X cells slots 8 [some (va_rf o0), some (.int x1), some (.int x2), some (va_rf o3), none] [.int u0, .int u1, va_rf (some q2)] h := by
  refine st_i2l (pc := 8) C.1 dL_fault_8 ?_
  refine st_lastore (pc := 9) C.1 dL_fault_9 h0 h1 ?_
  refine st_goto (pc := 10) (tgt := 17) C.1 dL_fault_10 (by decide) ?_
  refine st_iconst (pc := 17) (v := 0) C.1 dL_fault_17 (by decide) ?_
  exact rt_i C (Or.inl rfl) dL_fault_18 hc hs ⟨_, rfl, k0⟩

theorem sgL_law_0 {X : CX} {d mc ms cells slots : Nat} {pp : Int32 → Hp → Prop} {h : Hp} {o0 : Option Nat}  (C : CmI X mL_law d mc ms pp)  (k0 : At X cells slots 0 [some (va_rf o0), none, none, none, none, none, none] [] h) : At X cells slots 0 [some (va_rf o0), none, none, none, none, none, none] [] h := by
  exact k0

theorem sgL_law_3 {X : CX} {d mc ms cells slots : Nat} {pp : Int32 → Hp → Prop} {h : Hp} {o0 : Option Nat} {p0 : Option Nat}  (C : CmI X mL_law d mc ms pp)  (k0 : At X cells slots 6 [some (va_rf o0), none, none, none, none, none, none] [.int 0, va_rf o0, va_rf p0, va_rf p0] h) : At X cells slots 3 [some (va_rf o0), none, none, none, none, none, none] [va_rf p0] h := by
  refine st_dup (pc := 3) C.1 dL_law_3 (rf_cat p0) ?_
  refine st_aload_n (pc := 4) C.1 o0 dL_law_4 rfl rfl ?_
  refine st_iconst (pc := 5) (v := 0) C.1 dL_law_5 (by decide) ?_
  exact k0

theorem sgL_law_9 {X : CX} {d mc ms cells slots : Nat} {pp : Int32 → Hp → Prop} {h : Hp} {o0 : Option Nat} {u0 : Int32} {p1 : Option Nat} {p2 : Option Nat}  (C : CmI X mL_law d mc ms pp)  (k0 : At X cells slots 11 [some (va_rf o0), none, none, none, none, none, none] [.int 1, va_rf o0, .int u0, va_rf p1, va_rf p2] h) : At X cells slots 9 [some (va_rf o0), none, none, none, none, none, none] [.int u0, va_rf p1, va_rf p2] h := by
  refine st_aload_n (pc := 9) C.1 o0 dL_law_9 rfl rfl ?_
  refine st_iconst (pc := 10) (v := 1) C.1 dL_law_10 (by decide) ?_
  exact k0

theorem sgL_law_14 {X : CX} {d mc ms cells slots : Nat} {pp : Int32 → Hp → Prop} {h : Hp} {o0 : Option Nat} {u0 : Int32} {u1 : Int32} {p2 : Option Nat} {p3 : Option Nat}  (C : CmI X mL_law d mc ms pp)  (k0 : At X cells slots 16 [some (va_rf o0), none, none, none, none, none, none] [.int 2, va_rf o0, .int u0, .int u1, va_rf p2, va_rf p3] h) : At X cells slots 14 [some (va_rf o0), none, none, none, none, none, none] [.int u0, .int u1, va_rf p2, va_rf p3] h := by
  refine st_aload_n (pc := 14) C.1 o0 dL_law_14 rfl rfl ?_
  refine st_iconst (pc := 15) (v := 2) C.1 dL_law_15 (by decide) ?_
  exact k0

theorem sgL_law_19 {X : CX} {d mc ms cells slots : Nat} {pp : Int32 → Hp → Prop} {h : Hp} {o0 : Option Nat} {u0 : Int32} {u1 : Int32} {u2 : Int32} {p3 : Option Nat} {p4 : Option Nat}  (C : CmI X mL_law d mc ms pp)  (k0 : At X cells slots 19 [some (va_rf o0), none, none, none, none, none, none] [.int u0, .int u1, .int u2, va_rf p3, va_rf p4] h) : At X cells slots 19 [some (va_rf o0), none, none, none, none, none, none] [.int u0, .int u1, .int u2, va_rf p3, va_rf p4] h := by
  exact k0

theorem sgL_law_22 {X : CX} {d mc ms cells slots : Nat} {pp : Int32 → Hp → Prop} {h : Hp} {o0 : Option Nat} {p0 : Option Nat}  (C : CmI X mL_law d mc ms pp)  (k0 : At X cells slots 23 [some (va_rf o0), some (va_rf p0), none, none, none, none, none] [] h) : At X cells slots 22 [some (va_rf o0), none, none, none, none, none, none] [va_rf p0] h := by
  refine sv_astore_n (pc := 22) (i := 1) C.1 [some (va_rf o0), some (va_rf p0), none, none, none, none, none] p0 dL_law_22 rfl (Nat.le_of_ble_eq_true rfl) (by rw [C.2.1]; exact Nat.le_of_ble_eq_true rfl) (l1_rf (o := o0) rfl) rfl ?_
  exact k0

theorem sgL_law_26 {X : CX} {d mc ms cells slots : Nat} {pp : Int32 → Hp → Prop} {h : Hp} {o0 : Option Nat} {o1 : Option Nat} {p0 : Option Nat}  (C : CmI X mL_law d mc ms pp)  (k0 : At X cells slots 29 [some (va_rf o0), some (va_rf o1), none, none, none, none, none] [.int 0, va_rf o0, va_rf p0, va_rf p0] h) : At X cells slots 26 [some (va_rf o0), some (va_rf o1), none, none, none, none, none] [va_rf p0] h := by
  refine st_dup (pc := 26) C.1 dL_law_26 (rf_cat p0) ?_
  refine st_aload_n (pc := 27) C.1 o0 dL_law_27 rfl rfl ?_
  refine st_iconst (pc := 28) (v := 0) C.1 dL_law_28 (by decide) ?_
  exact k0

theorem sgL_law_32 {X : CX} {d mc ms cells slots : Nat} {pp : Int32 → Hp → Prop} {h : Hp} {o0 : Option Nat} {o1 : Option Nat} {u0 : Int32} {p1 : Option Nat} {p2 : Option Nat}  (C : CmI X mL_law d mc ms pp)  (k0 : At X cells slots 34 [some (va_rf o0), some (va_rf o1), none, none, none, none, none] [.int 1, va_rf o0, .int u0, va_rf p1, va_rf p2] h) : At X cells slots 32 [some (va_rf o0), some (va_rf o1), none, none, none, none, none] [.int u0, va_rf p1, va_rf p2] h := by
  refine st_aload_n (pc := 32) C.1 o0 dL_law_32 rfl rfl ?_
  refine st_iconst (pc := 33) (v := 1) C.1 dL_law_33 (by decide) ?_
  exact k0

theorem sgL_law_37 {X : CX} {d mc ms cells slots : Nat} {pp : Int32 → Hp → Prop} {h : Hp} {o0 : Option Nat} {o1 : Option Nat} {u0 : Int32} {u1 : Int32} {p2 : Option Nat} {p3 : Option Nat}  (C : CmI X mL_law d mc ms pp)  (k0 : At X cells slots 39 [some (va_rf o0), some (va_rf o1), none, none, none, none, none] [.int 2, va_rf o0, .int u0, .int u1, va_rf p2, va_rf p3] h) : At X cells slots 37 [some (va_rf o0), some (va_rf o1), none, none, none, none, none] [.int u0, .int u1, va_rf p2, va_rf p3] h := by
  refine st_aload_n (pc := 37) C.1 o0 dL_law_37 rfl rfl ?_
  refine st_iconst (pc := 38) (v := 2) C.1 dL_law_38 (by decide) ?_
  exact k0

theorem sgL_law_42 {X : CX} {d mc ms cells slots : Nat} {pp : Int32 → Hp → Prop} {h : Hp} {o0 : Option Nat} {o1 : Option Nat} {u0 : Int32} {u1 : Int32} {u2 : Int32} {p3 : Option Nat} {p4 : Option Nat}  (C : CmI X mL_law d mc ms pp)  (k0 : At X cells slots 42 [some (va_rf o0), some (va_rf o1), none, none, none, none, none] [.int u0, .int u1, .int u2, va_rf p3, va_rf p4] h) : At X cells slots 42 [some (va_rf o0), some (va_rf o1), none, none, none, none, none] [.int u0, .int u1, .int u2, va_rf p3, va_rf p4] h := by
  exact k0

theorem sgL_law_45 {X : CX} {d mc ms cells slots : Nat} {pp : Int32 → Hp → Prop} {h : Hp} {o0 : Option Nat} {o1 : Option Nat} {p0 : Option Nat}  (C : CmI X mL_law d mc ms pp)  (k0 : At X cells slots 47 [some (va_rf o0), some (va_rf o1), some (va_rf p0), none, none, none, none] [.int 1] h) : At X cells slots 45 [some (va_rf o0), some (va_rf o1), none, none, none, none, none] [va_rf p0] h := by
  refine sv_astore_n (pc := 45) (i := 2) C.1 [some (va_rf o0), some (va_rf o1), some (va_rf p0), none, none, none, none] p0 dL_law_45 rfl (Nat.le_of_ble_eq_true rfl) (by rw [C.2.1]; exact Nat.le_of_ble_eq_true rfl) (l1_rf (o := o1) rfl) rfl ?_
  refine st_iconst (pc := 46) (v := 1) C.1 dL_law_46 (by decide) ?_
  exact k0

theorem sgL_law_49 {X : CX} {d mc ms cells slots : Nat} {pp : Int32 → Hp → Prop} {h : Hp} {o0 : Option Nat} {o1 : Option Nat} {o2 : Option Nat} {p0 : Option Nat}  (C : CmI X mL_law d mc ms pp)  (k0 : At X cells slots 53 [some (va_rf o0), some (va_rf o1), some (va_rf o2), some (va_rf p0), some (.int 3), none, none] [] h) : At X cells slots 49 [some (va_rf o0), some (va_rf o1), some (va_rf o2), none, none, none, none] [va_rf p0] h := by
  refine sv_astore_n (pc := 49) (i := 3) C.1 [some (va_rf o0), some (va_rf o1), some (va_rf o2), some (va_rf p0), none, none, none] p0 dL_law_49 rfl (Nat.le_of_ble_eq_true rfl) (by rw [C.2.1]; exact Nat.le_of_ble_eq_true rfl) (l1_rf (o := o2) rfl) rfl ?_
  refine st_iconst (pc := 50) (v := 3) C.1 dL_law_50 (by decide) ?_
  refine sv_istore (pc := 51) (i := 4) C.1 [some (va_rf o0), some (va_rf o1), some (va_rf o2), some (va_rf p0), some (.int 3), none, none] dL_law_51 (Nat.le_of_ble_eq_true rfl) (by rw [C.2.1]; exact Nat.le_of_ble_eq_true rfl) (l1_rf (o := p0) rfl) rfl ?_
  exact k0

theorem sgL_law_53 {X : CX} {d mc ms cells slots : Nat} {pp : Int32 → Hp → Prop} {h : Hp} {b0 : Nat} {o1 : Option Nat} {o2 : Option Nat} {o3 : Option Nat} {x4 : Int32}  (C : CmI X mL_law d mc ms pp) (hc : cells ≤ mc) (hs : slots ≤ ms) (h0 : h.K b0 = 20) (h1 : ¬ (nI (h.N b0)) - 4 < x4 → vp_in x4 (h.N b0)) (h2 : ¬ (nI (h.N b0)) - 4 < x4 → (h.AI b0 (x4.toNatClampNeg)) &&& 31 = 0 → vp_in (x4 + 1) (h.N b0)) (h3 : ¬ (nI (h.N b0)) - 4 < x4 → (h.AI b0 (x4.toNatClampNeg)) &&& 31 = 1 → vp_in (x4 + 1) (h.N b0)) (h4 : ¬ (nI (h.N b0)) - 4 < x4 → (h.AI b0 (x4.toNatClampNeg)) &&& 31 = 2 → vp_in (x4 + 1) (h.N b0)) (h5 : ¬ (nI (h.N b0)) - 4 < x4 → (h.AI b0 (x4.toNatClampNeg)) &&& 31 = 2 → vp_in (x4 + 2) (h.N b0)) (h6 : ¬ (nI (h.N b0)) - 4 < x4 → (h.AI b0 (x4.toNatClampNeg)) &&& 31 = 3 → vp_in (x4 + 1) (h.N b0)) (h7 : ¬ (nI (h.N b0)) - 4 < x4 → (h.AI b0 (x4.toNatClampNeg)) &&& 31 = 4 → vp_in (x4 + 1) (h.N b0)) (h8 : ¬ (nI (h.N b0)) - 4 < x4 → (h.AI b0 (x4.toNatClampNeg)) &&& 31 = 4 → vp_in (x4 + 2) (h.N b0)) (h9 : ¬ (nI (h.N b0)) - 4 < x4 → (h.AI b0 (x4.toNatClampNeg)) &&& 31 = 5 → vp_in (x4 + 1) (h.N b0)) (h10 : ¬ (nI (h.N b0)) - 4 < x4 → (h.AI b0 (x4.toNatClampNeg)) &&& 31 = 6 → vp_in (x4 + 1) (h.N b0)) (h11 : ¬ (nI (h.N b0)) - 4 < x4 → (h.AI b0 (x4.toNatClampNeg)) &&& 31 = 6 → vp_in (x4 + 2) (h.N b0)) (h12 : ¬ (nI (h.N b0)) - 4 < x4 → (h.AI b0 (x4.toNatClampNeg)) &&& 31 = 6 → vp_in (x4 + 3) (h.N b0)) (h13 : ¬ (nI (h.N b0)) - 4 < x4 → (h.AI b0 (x4.toNatClampNeg)) &&& 31 = 7 → vp_in (x4 + 1) (h.N b0)) (h14 : ¬ (nI (h.N b0)) - 4 < x4 → (h.AI b0 (x4.toNatClampNeg)) &&& 31 = 8 → vp_in (x4 + 1) (h.N b0)) (h15 : ¬ (nI (h.N b0)) - 4 < x4 → (h.AI b0 (x4.toNatClampNeg)) &&& 31 = 8 → vp_in (x4 + 2) (h.N b0)) (h16 : ¬ (nI (h.N b0)) - 4 < x4 → (h.AI b0 (x4.toNatClampNeg)) &&& 31 = 9 → vp_in (x4 + 1) (h.N b0)) (h17 : ¬ (nI (h.N b0)) - 4 < x4 → (h.AI b0 (x4.toNatClampNeg)) &&& 31 = 9 → vp_in (x4 + 2) (h.N b0)) (h18 : ¬ (nI (h.N b0)) - 4 < x4 → (h.AI b0 (x4.toNatClampNeg)) &&& 31 = 11 → vp_in (x4 + 1) (h.N b0)) (h19 : ¬ (nI (h.N b0)) - 4 < x4 → (h.AI b0 (x4.toNatClampNeg)) &&& 31 = 11 → vp_in (x4 + 2) (h.N b0)) (h20 : ¬ (nI (h.N b0)) - 4 < x4 → (h.AI b0 (x4.toNatClampNeg)) &&& 31 = 13 → vp_in (x4 + 1) (h.N b0)) (h21 : ¬ (nI (h.N b0)) - 4 < x4 → (h.AI b0 (x4.toNatClampNeg)) &&& 31 = 14 → vp_in (x4 + 1) (h.N b0)) (h22 : ¬ (nI (h.N b0)) - 4 < x4 → (h.AI b0 (x4.toNatClampNeg)) &&& 31 = 15 → vp_in (x4 + 1) (h.N b0)) (h23 : ¬ (nI (h.N b0)) - 4 < x4 → (h.AI b0 (x4.toNatClampNeg)) &&& 31 = 15 → vp_in (x4 + 2) (h.N b0)) (h24 : ¬ (nI (h.N b0)) - 4 < x4 → (h.AI b0 (x4.toNatClampNeg)) &&& 31 = 16 → vp_in (x4 + 1) (h.N b0)) (h25 : ¬ (nI (h.N b0)) - 4 < x4 → (h.AI b0 (x4.toNatClampNeg)) &&& 31 = 17 → vp_in (x4 + 1) (h.N b0)) (h26 : ¬ (nI (h.N b0)) - 4 < x4 → (h.AI b0 (x4.toNatClampNeg)) &&& 31 = 17 → vp_in (x4 + 2) (h.N b0)) (k0 : (nI (h.N b0)) - 4 < x4 → pp 1 h) (k1 : ¬ (nI (h.N b0)) - 4 < x4 → ((h.AI b0 (x4.toNatClampNeg)) &&& 31).toInt < 0 ∨ 17 < ((h.AI b0 (x4.toNatClampNeg)) &&& 31).toInt → At X cells slots 53 [some (va_rf (some b0)), some (va_rf o1), some (va_rf o2), some (va_rf o3), some (.int (x4 + 4)), none, none] [] h) (k2 : ¬ (nI (h.N b0)) - 4 < x4 → (h.AI b0 (x4.toNatClampNeg)) &&& 31 = 0 → At X cells slots 163 [some (va_rf (some b0)), some (va_rf o1), some (va_rf o2), some (va_rf o3), some (.int x4), none, none] [.int (h.AI b0 ((x4 + 1).toNatClampNeg)), va_rf o1] h) (k3 : ¬ (nI (h.N b0)) - 4 < x4 → (h.AI b0 (x4.toNatClampNeg)) &&& 31 = 1 → At X cells slots 188 [some (va_rf (some b0)), some (va_rf o1), some (va_rf o2), some (va_rf o3), some (.int x4), none, none] [.int (h.AI b0 ((x4 + 1).toNatClampNeg)), va_rf o1] h) (k4 : ¬ (nI (h.N b0)) - 4 < x4 → (h.AI b0 (x4.toNatClampNeg)) &&& 31 = 2 → At X cells slots 219 [some (va_rf (some b0)), some (va_rf o1), some (va_rf o2), some (va_rf o3), some (.int x4), none, none] [.int (h.AI b0 ((x4 + 2).toNatClampNeg)), .int (h.AI b0 ((x4 + 1).toNatClampNeg)), va_rf o1] h) (k5 : ¬ (nI (h.N b0)) - 4 < x4 → (h.AI b0 (x4.toNatClampNeg)) &&& 31 = 3 → At X cells slots 250 [some (va_rf (some b0)), some (va_rf o1), some (va_rf o2), some (va_rf o3), some (.int x4), none, none] [.int (h.AI b0 ((x4 + 1).toNatClampNeg)), va_rf o1] h) (k6 : ¬ (nI (h.N b0)) - 4 < x4 → (h.AI b0 (x4.toNatClampNeg)) &&& 31 = 4 → At X cells slots 281 [some (va_rf (some b0)), some (va_rf o1), some (va_rf o2), some (va_rf o3), some (.int x4), none, none] [.int (h.AI b0 ((x4 + 2).toNatClampNeg)), .int (h.AI b0 ((x4 + 1).toNatClampNeg)), va_rf o1] h) (k7 : ¬ (nI (h.N b0)) - 4 < x4 → (h.AI b0 (x4.toNatClampNeg)) &&& 31 = 5 → At X cells slots 312 [some (va_rf (some b0)), some (va_rf o1), some (va_rf o2), some (va_rf o3), some (.int x4), none, none] [.int (h.AI b0 ((x4 + 1).toNatClampNeg)), va_rf o1] h) (k8 : ¬ (nI (h.N b0)) - 4 < x4 → (h.AI b0 (x4.toNatClampNeg)) &&& 31 = 6 → At X cells slots 349 [some (va_rf (some b0)), some (va_rf o1), some (va_rf o2), some (va_rf o3), some (.int x4), none, none] [.int (h.AI b0 ((x4 + 3).toNatClampNeg)), .int (h.AI b0 ((x4 + 2).toNatClampNeg)), .int (h.AI b0 ((x4 + 1).toNatClampNeg)), va_rf o1] h) (k9 : ¬ (nI (h.N b0)) - 4 < x4 → (h.AI b0 (x4.toNatClampNeg)) &&& 31 = 7 → At X cells slots 386 [some (va_rf (some b0)), some (va_rf o1), some (va_rf o2), some (va_rf o3), some (.int x4), none, none] [.int (h.AI b0 ((x4 + 1).toNatClampNeg)), va_rf o1] h) (k10 : ¬ (nI (h.N b0)) - 4 < x4 → (h.AI b0 (x4.toNatClampNeg)) &&& 31 = 8 → At X cells slots 418 [some (va_rf (some b0)), some (va_rf o1), some (va_rf o2), some (va_rf o3), some (.int x4), none, none] [va_rf o3, .int (h.AI b0 ((x4 + 2).toNatClampNeg)), .int (h.AI b0 ((x4 + 1).toNatClampNeg)), va_rf o1] h) (k11 : ¬ (nI (h.N b0)) - 4 < x4 → (h.AI b0 (x4.toNatClampNeg)) &&& 31 = 9 → At X cells slots 485 [some (va_rf (some b0)), some (va_rf o1), some (va_rf o2), some (va_rf o3), some (.int x4), none, none] [.int (h.AI b0 ((x4 + 2).toNatClampNeg)), .int (h.AI b0 ((x4 + 1).toNatClampNeg)), va_rf o1] h) (k12 : ¬ (nI (h.N b0)) - 4 < x4 → (h.AI b0 (x4.toNatClampNeg)) &&& 31 = 10 → At X cells slots 510 [some (va_rf (some b0)), some (va_rf o1), some (va_rf o2), some (va_rf o3), some (.int x4), none, none] [va_rf o1] h) (k13 : ¬ (nI (h.N b0)) - 4 < x4 → (h.AI b0 (x4.toNatClampNeg)) &&& 31 = 11 → At X cells slots 535 [some (va_rf (some b0)), some (va_rf o1), some (va_rf o2), some (va_rf o3), some (.int x4), none, none] [.int (h.AI b0 ((x4 + 2).toNatClampNeg)), .int (h.AI b0 ((x4 + 1).toNatClampNeg)), va_rf o1] h) (k14 : ¬ (nI (h.N b0)) - 4 < x4 → (h.AI b0 (x4.toNatClampNeg)) &&& 31 = 12 → At X cells slots 560 [some (va_rf (some b0)), some (va_rf o1), some (va_rf o2), some (va_rf o3), some (.int x4), none, none] [va_rf o1] h) (k15 : ¬ (nI (h.N b0)) - 4 < x4 → (h.AI b0 (x4.toNatClampNeg)) &&& 31 = 13 → At X cells slots 579 [some (va_rf (some b0)), some (va_rf o1), some (va_rf o2), some (va_rf o3), some (.int x4), none, none] [.int (h.AI b0 ((x4 + 1).toNatClampNeg)), va_rf o1] h) (k16 : ¬ (nI (h.N b0)) - 4 < x4 → (h.AI b0 (x4.toNatClampNeg)) &&& 31 = 14 → At X cells slots 604 [some (va_rf (some b0)), some (va_rf o1), some (va_rf o2), some (va_rf o3), some (.int x4), none, none] [.int (h.AI b0 ((x4 + 1).toNatClampNeg)), va_rf o1] h) (k17 : ¬ (nI (h.N b0)) - 4 < x4 → (h.AI b0 (x4.toNatClampNeg)) &&& 31 = 15 → At X cells slots 635 [some (va_rf (some b0)), some (va_rf o1), some (va_rf o2), some (va_rf o3), some (.int x4), none, none] [.int (h.AI b0 ((x4 + 2).toNatClampNeg)), .int (h.AI b0 ((x4 + 1).toNatClampNeg)), va_rf o1] h) (k18 : ¬ (nI (h.N b0)) - 4 < x4 → (h.AI b0 (x4.toNatClampNeg)) &&& 31 = 16 → At X cells slots 666 [some (va_rf (some b0)), some (va_rf o1), some (va_rf o2), some (va_rf o3), some (.int x4), none, none] [.int (h.AI b0 ((x4 + 1).toNatClampNeg)), va_rf o1] h) (k19 : ¬ (nI (h.N b0)) - 4 < x4 → (h.AI b0 (x4.toNatClampNeg)) &&& 31 = 17 → At X cells slots 698 [some (va_rf (some b0)), some (va_rf o1), some (va_rf o2), some (va_rf o3), some (.int x4), none, none] [va_rf o3, .int (h.AI b0 ((x4 + 2).toNatClampNeg)), .int (h.AI b0 ((x4 + 1).toNatClampNeg)), va_rf o1] h) : At X cells slots 53 [some (va_rf (some b0)), some (va_rf o1), some (va_rf o2), some (va_rf o3), some (.int x4), none, none] [] h := by
  refine st_iload (pc := 53) C.1 dL_law_53 rfl ?_
  refine st_aload_n (pc := 55) C.1 (some b0) dL_law_55 rfl rfl ?_
  refine st_slen (pc := 56) C.1 dL_law_56 h0 ?_
  refine st_iconst (pc := 57) (v := 4) C.1 dL_law_57 (by decide) ?_
  refine st_isub (pc := 58) C.1 dL_law_58 ?_
  refine st_icmp_gt (pc := 59) (tgt := 758) C.1 dL_law_59 (by decide) (fun c0 => ?_) (fun c0 => ?_)
  · refine st_iconst (pc := 758) (v := 1) C.1 dL_law_758 (by decide) ?_
    exact rt_i C (Or.inr ⟨rfl, (Or.inr rfl)⟩) dL_law_759 hc hs ⟨_, rfl, (k0 c0)⟩
  · refine st_aload_n (pc := 62) C.1 (some b0) dL_law_62 rfl rfl ?_
    refine st_iload (pc := 63) C.1 dL_law_63 rfl ?_
    refine st_saload (pc := 65) C.1 dL_law_65 h0 (h1 c0) ?_
    refine st_bipush (pc := 66) (v := 31) C.1 dL_law_66 (by decide) ?_
    refine st_iand (pc := 68) C.1 dL_law_68 ?_
    by_cases c1o : ((h.AI b0 (x4.toNatClampNeg)) &&& 31).toInt < 0 ∨ 17 < ((h.AI b0 (x4.toNatClampNeg)) &&& 31).toInt
    · refine st_tableOut (pc := 69) (tgt := 752) C.1 dL_law_69 c1o (by decide) ?_
      refine sv_iinc (pc := 752) (i := 4) (v := x4 + 4) C.1 [some (va_rf (some b0)), some (va_rf o1), some (va_rf o2), some (va_rf o3), some (.int (x4 + 4)), none, none] dL_law_752 rfl rfl (by rw [C.2.1]; exact Nat.le_of_ble_eq_true rfl) (l1_rf (o := o3) rfl) rfl ?_
      refine st_goto (pc := 755) (tgt := 53) C.1 dL_law_755 (by decide) ?_
      exact (k1 c0 c1o)
    · rcases (show ((h.AI b0 (x4.toNatClampNeg)) &&& 31).toInt = 0 ∨ ((h.AI b0 (x4.toNatClampNeg)) &&& 31).toInt = 1 ∨ ((h.AI b0 (x4.toNatClampNeg)) &&& 31).toInt = 2 ∨ ((h.AI b0 (x4.toNatClampNeg)) &&& 31).toInt = 3 ∨ ((h.AI b0 (x4.toNatClampNeg)) &&& 31).toInt = 4 ∨ ((h.AI b0 (x4.toNatClampNeg)) &&& 31).toInt = 5 ∨ ((h.AI b0 (x4.toNatClampNeg)) &&& 31).toInt = 6 ∨ ((h.AI b0 (x4.toNatClampNeg)) &&& 31).toInt = 7 ∨ ((h.AI b0 (x4.toNatClampNeg)) &&& 31).toInt = 8 ∨ ((h.AI b0 (x4.toNatClampNeg)) &&& 31).toInt = 9 ∨ ((h.AI b0 (x4.toNatClampNeg)) &&& 31).toInt = 10 ∨ ((h.AI b0 (x4.toNatClampNeg)) &&& 31).toInt = 11 ∨ ((h.AI b0 (x4.toNatClampNeg)) &&& 31).toInt = 12 ∨ ((h.AI b0 (x4.toNatClampNeg)) &&& 31).toInt = 13 ∨ ((h.AI b0 (x4.toNatClampNeg)) &&& 31).toInt = 14 ∨ ((h.AI b0 (x4.toNatClampNeg)) &&& 31).toInt = 15 ∨ ((h.AI b0 (x4.toNatClampNeg)) &&& 31).toInt = 16 ∨ ((h.AI b0 (x4.toNatClampNeg)) &&& 31).toInt = 17 by omega) with c1 | c1 | c1 | c1 | c1 | c1 | c1 | c1 | c1 | c1 | c1 | c1 | c1 | c1 | c1 | c1 | c1 | c1
      · have c1e : (h.AI b0 (x4.toNatClampNeg)) &&& 31 = 0 := Int32.toInt_inj.mp (by rw [c1]; rfl)
        refine st_tableIn (pc := 69) (off := 87) (tgt := 156) C.1 dL_law_69 (by omega) (by omega) (by rw [c1]; rfl) (by decide) ?_
        refine st_aload_n (pc := 156) C.1 o1 dL_law_156 rfl rfl ?_
        refine st_aload_n (pc := 157) C.1 (some b0) dL_law_157 rfl rfl ?_
        refine st_iload (pc := 158) C.1 dL_law_158 rfl ?_
        refine st_iconst (pc := 160) (v := 1) C.1 dL_law_160 (by decide) ?_
        refine st_iadd (pc := 161) C.1 dL_law_161 ?_
        refine st_saload (pc := 162) C.1 dL_law_162 h0 (h2 c0 c1e) ?_
        exact (k2 c0 c1e)
      · have c1e : (h.AI b0 (x4.toNatClampNeg)) &&& 31 = 1 := Int32.toInt_inj.mp (by rw [c1]; rfl)
        refine st_tableIn (pc := 69) (off := 112) (tgt := 181) C.1 dL_law_69 (by omega) (by omega) (by rw [c1]; rfl) (by decide) ?_
        refine st_aload_n (pc := 181) C.1 o1 dL_law_181 rfl rfl ?_
        refine st_aload_n (pc := 182) C.1 (some b0) dL_law_182 rfl rfl ?_
        refine st_iload (pc := 183) C.1 dL_law_183 rfl ?_
        refine st_iconst (pc := 185) (v := 1) C.1 dL_law_185 (by decide) ?_
        refine st_iadd (pc := 186) C.1 dL_law_186 ?_
        refine st_saload (pc := 187) C.1 dL_law_187 h0 (h3 c0 c1e) ?_
        exact (k3 c0 c1e)
      · have c1e : (h.AI b0 (x4.toNatClampNeg)) &&& 31 = 2 := Int32.toInt_inj.mp (by rw [c1]; rfl)
        refine st_tableIn (pc := 69) (off := 137) (tgt := 206) C.1 dL_law_69 (by omega) (by omega) (by rw [c1]; rfl) (by decide) ?_
        refine st_aload_n (pc := 206) C.1 o1 dL_law_206 rfl rfl ?_
        refine st_aload_n (pc := 207) C.1 (some b0) dL_law_207 rfl rfl ?_
        refine st_iload (pc := 208) C.1 dL_law_208 rfl ?_
        refine st_iconst (pc := 210) (v := 1) C.1 dL_law_210 (by decide) ?_
        refine st_iadd (pc := 211) C.1 dL_law_211 ?_
        refine st_saload (pc := 212) C.1 dL_law_212 h0 (h4 c0 c1e) ?_
        refine st_aload_n (pc := 213) C.1 (some b0) dL_law_213 rfl rfl ?_
        refine st_iload (pc := 214) C.1 dL_law_214 rfl ?_
        refine st_iconst (pc := 216) (v := 2) C.1 dL_law_216 (by decide) ?_
        refine st_iadd (pc := 217) C.1 dL_law_217 ?_
        refine st_saload (pc := 218) C.1 dL_law_218 h0 (h5 c0 c1e) ?_
        exact (k4 c0 c1e)
      · have c1e : (h.AI b0 (x4.toNatClampNeg)) &&& 31 = 3 := Int32.toInt_inj.mp (by rw [c1]; rfl)
        refine st_tableIn (pc := 69) (off := 174) (tgt := 243) C.1 dL_law_69 (by omega) (by omega) (by rw [c1]; rfl) (by decide) ?_
        refine st_aload_n (pc := 243) C.1 o1 dL_law_243 rfl rfl ?_
        refine st_aload_n (pc := 244) C.1 (some b0) dL_law_244 rfl rfl ?_
        refine st_iload (pc := 245) C.1 dL_law_245 rfl ?_
        refine st_iconst (pc := 247) (v := 1) C.1 dL_law_247 (by decide) ?_
        refine st_iadd (pc := 248) C.1 dL_law_248 ?_
        refine st_saload (pc := 249) C.1 dL_law_249 h0 (h6 c0 c1e) ?_
        exact (k5 c0 c1e)
      · have c1e : (h.AI b0 (x4.toNatClampNeg)) &&& 31 = 4 := Int32.toInt_inj.mp (by rw [c1]; rfl)
        refine st_tableIn (pc := 69) (off := 199) (tgt := 268) C.1 dL_law_69 (by omega) (by omega) (by rw [c1]; rfl) (by decide) ?_
        refine st_aload_n (pc := 268) C.1 o1 dL_law_268 rfl rfl ?_
        refine st_aload_n (pc := 269) C.1 (some b0) dL_law_269 rfl rfl ?_
        refine st_iload (pc := 270) C.1 dL_law_270 rfl ?_
        refine st_iconst (pc := 272) (v := 1) C.1 dL_law_272 (by decide) ?_
        refine st_iadd (pc := 273) C.1 dL_law_273 ?_
        refine st_saload (pc := 274) C.1 dL_law_274 h0 (h7 c0 c1e) ?_
        refine st_aload_n (pc := 275) C.1 (some b0) dL_law_275 rfl rfl ?_
        refine st_iload (pc := 276) C.1 dL_law_276 rfl ?_
        refine st_iconst (pc := 278) (v := 2) C.1 dL_law_278 (by decide) ?_
        refine st_iadd (pc := 279) C.1 dL_law_279 ?_
        refine st_saload (pc := 280) C.1 dL_law_280 h0 (h8 c0 c1e) ?_
        exact (k6 c0 c1e)
      · have c1e : (h.AI b0 (x4.toNatClampNeg)) &&& 31 = 5 := Int32.toInt_inj.mp (by rw [c1]; rfl)
        refine st_tableIn (pc := 69) (off := 236) (tgt := 305) C.1 dL_law_69 (by omega) (by omega) (by rw [c1]; rfl) (by decide) ?_
        refine st_aload_n (pc := 305) C.1 o1 dL_law_305 rfl rfl ?_
        refine st_aload_n (pc := 306) C.1 (some b0) dL_law_306 rfl rfl ?_
        refine st_iload (pc := 307) C.1 dL_law_307 rfl ?_
        refine st_iconst (pc := 309) (v := 1) C.1 dL_law_309 (by decide) ?_
        refine st_iadd (pc := 310) C.1 dL_law_310 ?_
        refine st_saload (pc := 311) C.1 dL_law_311 h0 (h9 c0 c1e) ?_
        exact (k7 c0 c1e)
      · have c1e : (h.AI b0 (x4.toNatClampNeg)) &&& 31 = 6 := Int32.toInt_inj.mp (by rw [c1]; rfl)
        refine st_tableIn (pc := 69) (off := 261) (tgt := 330) C.1 dL_law_69 (by omega) (by omega) (by rw [c1]; rfl) (by decide) ?_
        refine st_aload_n (pc := 330) C.1 o1 dL_law_330 rfl rfl ?_
        refine st_aload_n (pc := 331) C.1 (some b0) dL_law_331 rfl rfl ?_
        refine st_iload (pc := 332) C.1 dL_law_332 rfl ?_
        refine st_iconst (pc := 334) (v := 1) C.1 dL_law_334 (by decide) ?_
        refine st_iadd (pc := 335) C.1 dL_law_335 ?_
        refine st_saload (pc := 336) C.1 dL_law_336 h0 (h10 c0 c1e) ?_
        refine st_aload_n (pc := 337) C.1 (some b0) dL_law_337 rfl rfl ?_
        refine st_iload (pc := 338) C.1 dL_law_338 rfl ?_
        refine st_iconst (pc := 340) (v := 2) C.1 dL_law_340 (by decide) ?_
        refine st_iadd (pc := 341) C.1 dL_law_341 ?_
        refine st_saload (pc := 342) C.1 dL_law_342 h0 (h11 c0 c1e) ?_
        refine st_aload_n (pc := 343) C.1 (some b0) dL_law_343 rfl rfl ?_
        refine st_iload (pc := 344) C.1 dL_law_344 rfl ?_
        refine st_iconst (pc := 346) (v := 3) C.1 dL_law_346 (by decide) ?_
        refine st_iadd (pc := 347) C.1 dL_law_347 ?_
        refine st_saload (pc := 348) C.1 dL_law_348 h0 (h12 c0 c1e) ?_
        exact (k8 c0 c1e)
      · have c1e : (h.AI b0 (x4.toNatClampNeg)) &&& 31 = 7 := Int32.toInt_inj.mp (by rw [c1]; rfl)
        refine st_tableIn (pc := 69) (off := 310) (tgt := 379) C.1 dL_law_69 (by omega) (by omega) (by rw [c1]; rfl) (by decide) ?_
        refine st_aload_n (pc := 379) C.1 o1 dL_law_379 rfl rfl ?_
        refine st_aload_n (pc := 380) C.1 (some b0) dL_law_380 rfl rfl ?_
        refine st_iload (pc := 381) C.1 dL_law_381 rfl ?_
        refine st_iconst (pc := 383) (v := 1) C.1 dL_law_383 (by decide) ?_
        refine st_iadd (pc := 384) C.1 dL_law_384 ?_
        refine st_saload (pc := 385) C.1 dL_law_385 h0 (h13 c0 c1e) ?_
        exact (k9 c0 c1e)
      · have c1e : (h.AI b0 (x4.toNatClampNeg)) &&& 31 = 8 := Int32.toInt_inj.mp (by rw [c1]; rfl)
        refine st_tableIn (pc := 69) (off := 335) (tgt := 404) C.1 dL_law_69 (by omega) (by omega) (by rw [c1]; rfl) (by decide) ?_
        refine st_aload_n (pc := 404) C.1 o1 dL_law_404 rfl rfl ?_
        refine st_aload_n (pc := 405) C.1 (some b0) dL_law_405 rfl rfl ?_
        refine st_iload (pc := 406) C.1 dL_law_406 rfl ?_
        refine st_iconst (pc := 408) (v := 1) C.1 dL_law_408 (by decide) ?_
        refine st_iadd (pc := 409) C.1 dL_law_409 ?_
        refine st_saload (pc := 410) C.1 dL_law_410 h0 (h14 c0 c1e) ?_
        refine st_aload_n (pc := 411) C.1 (some b0) dL_law_411 rfl rfl ?_
        refine st_iload (pc := 412) C.1 dL_law_412 rfl ?_
        refine st_iconst (pc := 414) (v := 2) C.1 dL_law_414 (by decide) ?_
        refine st_iadd (pc := 415) C.1 dL_law_415 ?_
        refine st_saload (pc := 416) C.1 dL_law_416 h0 (h15 c0 c1e) ?_
        refine st_aload_n (pc := 417) C.1 o3 dL_law_417 rfl rfl ?_
        exact (k10 c0 c1e)
      · have c1e : (h.AI b0 (x4.toNatClampNeg)) &&& 31 = 9 := Int32.toInt_inj.mp (by rw [c1]; rfl)
        refine st_tableIn (pc := 69) (off := 403) (tgt := 472) C.1 dL_law_69 (by omega) (by omega) (by rw [c1]; rfl) (by decide) ?_
        refine st_aload_n (pc := 472) C.1 o1 dL_law_472 rfl rfl ?_
        refine st_aload_n (pc := 473) C.1 (some b0) dL_law_473 rfl rfl ?_
        refine st_iload (pc := 474) C.1 dL_law_474 rfl ?_
        refine st_iconst (pc := 476) (v := 1) C.1 dL_law_476 (by decide) ?_
        refine st_iadd (pc := 477) C.1 dL_law_477 ?_
        refine st_saload (pc := 478) C.1 dL_law_478 h0 (h16 c0 c1e) ?_
        refine st_aload_n (pc := 479) C.1 (some b0) dL_law_479 rfl rfl ?_
        refine st_iload (pc := 480) C.1 dL_law_480 rfl ?_
        refine st_iconst (pc := 482) (v := 2) C.1 dL_law_482 (by decide) ?_
        refine st_iadd (pc := 483) C.1 dL_law_483 ?_
        refine st_saload (pc := 484) C.1 dL_law_484 h0 (h17 c0 c1e) ?_
        exact (k11 c0 c1e)
      · have c1e : (h.AI b0 (x4.toNatClampNeg)) &&& 31 = 10 := Int32.toInt_inj.mp (by rw [c1]; rfl)
        refine st_tableIn (pc := 69) (off := 440) (tgt := 509) C.1 dL_law_69 (by omega) (by omega) (by rw [c1]; rfl) (by decide) ?_
        refine st_aload_n (pc := 509) C.1 o1 dL_law_509 rfl rfl ?_
        exact (k12 c0 c1e)
      · have c1e : (h.AI b0 (x4.toNatClampNeg)) &&& 31 = 11 := Int32.toInt_inj.mp (by rw [c1]; rfl)
        refine st_tableIn (pc := 69) (off := 453) (tgt := 522) C.1 dL_law_69 (by omega) (by omega) (by rw [c1]; rfl) (by decide) ?_
        refine st_aload_n (pc := 522) C.1 o1 dL_law_522 rfl rfl ?_
        refine st_aload_n (pc := 523) C.1 (some b0) dL_law_523 rfl rfl ?_
        refine st_iload (pc := 524) C.1 dL_law_524 rfl ?_
        refine st_iconst (pc := 526) (v := 1) C.1 dL_law_526 (by decide) ?_
        refine st_iadd (pc := 527) C.1 dL_law_527 ?_
        refine st_saload (pc := 528) C.1 dL_law_528 h0 (h18 c0 c1e) ?_
        refine st_aload_n (pc := 529) C.1 (some b0) dL_law_529 rfl rfl ?_
        refine st_iload (pc := 530) C.1 dL_law_530 rfl ?_
        refine st_iconst (pc := 532) (v := 2) C.1 dL_law_532 (by decide) ?_
        refine st_iadd (pc := 533) C.1 dL_law_533 ?_
        refine st_saload (pc := 534) C.1 dL_law_534 h0 (h19 c0 c1e) ?_
        exact (k13 c0 c1e)
      · have c1e : (h.AI b0 (x4.toNatClampNeg)) &&& 31 = 12 := Int32.toInt_inj.mp (by rw [c1]; rfl)
        refine st_tableIn (pc := 69) (off := 490) (tgt := 559) C.1 dL_law_69 (by omega) (by omega) (by rw [c1]; rfl) (by decide) ?_
        refine st_aload_n (pc := 559) C.1 o1 dL_law_559 rfl rfl ?_
        exact (k14 c0 c1e)
      · have c1e : (h.AI b0 (x4.toNatClampNeg)) &&& 31 = 13 := Int32.toInt_inj.mp (by rw [c1]; rfl)
        refine st_tableIn (pc := 69) (off := 503) (tgt := 572) C.1 dL_law_69 (by omega) (by omega) (by rw [c1]; rfl) (by decide) ?_
        refine st_aload_n (pc := 572) C.1 o1 dL_law_572 rfl rfl ?_
        refine st_aload_n (pc := 573) C.1 (some b0) dL_law_573 rfl rfl ?_
        refine st_iload (pc := 574) C.1 dL_law_574 rfl ?_
        refine st_iconst (pc := 576) (v := 1) C.1 dL_law_576 (by decide) ?_
        refine st_iadd (pc := 577) C.1 dL_law_577 ?_
        refine st_saload (pc := 578) C.1 dL_law_578 h0 (h20 c0 c1e) ?_
        exact (k15 c0 c1e)
      · have c1e : (h.AI b0 (x4.toNatClampNeg)) &&& 31 = 14 := Int32.toInt_inj.mp (by rw [c1]; rfl)
        refine st_tableIn (pc := 69) (off := 528) (tgt := 597) C.1 dL_law_69 (by omega) (by omega) (by rw [c1]; rfl) (by decide) ?_
        refine st_aload_n (pc := 597) C.1 o1 dL_law_597 rfl rfl ?_
        refine st_aload_n (pc := 598) C.1 (some b0) dL_law_598 rfl rfl ?_
        refine st_iload (pc := 599) C.1 dL_law_599 rfl ?_
        refine st_iconst (pc := 601) (v := 1) C.1 dL_law_601 (by decide) ?_
        refine st_iadd (pc := 602) C.1 dL_law_602 ?_
        refine st_saload (pc := 603) C.1 dL_law_603 h0 (h21 c0 c1e) ?_
        exact (k16 c0 c1e)
      · have c1e : (h.AI b0 (x4.toNatClampNeg)) &&& 31 = 15 := Int32.toInt_inj.mp (by rw [c1]; rfl)
        refine st_tableIn (pc := 69) (off := 553) (tgt := 622) C.1 dL_law_69 (by omega) (by omega) (by rw [c1]; rfl) (by decide) ?_
        refine st_aload_n (pc := 622) C.1 o1 dL_law_622 rfl rfl ?_
        refine st_aload_n (pc := 623) C.1 (some b0) dL_law_623 rfl rfl ?_
        refine st_iload (pc := 624) C.1 dL_law_624 rfl ?_
        refine st_iconst (pc := 626) (v := 1) C.1 dL_law_626 (by decide) ?_
        refine st_iadd (pc := 627) C.1 dL_law_627 ?_
        refine st_saload (pc := 628) C.1 dL_law_628 h0 (h22 c0 c1e) ?_
        refine st_aload_n (pc := 629) C.1 (some b0) dL_law_629 rfl rfl ?_
        refine st_iload (pc := 630) C.1 dL_law_630 rfl ?_
        refine st_iconst (pc := 632) (v := 2) C.1 dL_law_632 (by decide) ?_
        refine st_iadd (pc := 633) C.1 dL_law_633 ?_
        refine st_saload (pc := 634) C.1 dL_law_634 h0 (h23 c0 c1e) ?_
        exact (k17 c0 c1e)
      · have c1e : (h.AI b0 (x4.toNatClampNeg)) &&& 31 = 16 := Int32.toInt_inj.mp (by rw [c1]; rfl)
        refine st_tableIn (pc := 69) (off := 590) (tgt := 659) C.1 dL_law_69 (by omega) (by omega) (by rw [c1]; rfl) (by decide) ?_
        refine st_aload_n (pc := 659) C.1 o1 dL_law_659 rfl rfl ?_
        refine st_aload_n (pc := 660) C.1 (some b0) dL_law_660 rfl rfl ?_
        refine st_iload (pc := 661) C.1 dL_law_661 rfl ?_
        refine st_iconst (pc := 663) (v := 1) C.1 dL_law_663 (by decide) ?_
        refine st_iadd (pc := 664) C.1 dL_law_664 ?_
        refine st_saload (pc := 665) C.1 dL_law_665 h0 (h24 c0 c1e) ?_
        exact (k18 c0 c1e)
      · have c1e : (h.AI b0 (x4.toNatClampNeg)) &&& 31 = 17 := Int32.toInt_inj.mp (by rw [c1]; rfl)
        refine st_tableIn (pc := 69) (off := 615) (tgt := 684) C.1 dL_law_69 (by omega) (by omega) (by rw [c1]; rfl) (by decide) ?_
        refine st_aload_n (pc := 684) C.1 o1 dL_law_684 rfl rfl ?_
        refine st_aload_n (pc := 685) C.1 (some b0) dL_law_685 rfl rfl ?_
        refine st_iload (pc := 686) C.1 dL_law_686 rfl ?_
        refine st_iconst (pc := 688) (v := 1) C.1 dL_law_688 (by decide) ?_
        refine st_iadd (pc := 689) C.1 dL_law_689 ?_
        refine st_saload (pc := 690) C.1 dL_law_690 h0 (h25 c0 c1e) ?_
        refine st_aload_n (pc := 691) C.1 (some b0) dL_law_691 rfl rfl ?_
        refine st_iload (pc := 692) C.1 dL_law_692 rfl ?_
        refine st_iconst (pc := 694) (v := 2) C.1 dL_law_694 (by decide) ?_
        refine st_iadd (pc := 695) C.1 dL_law_695 ?_
        refine st_saload (pc := 696) C.1 dL_law_696 h0 (h26 c0 c1e) ?_
        refine st_aload_n (pc := 697) C.1 o3 dL_law_697 rfl rfl ?_
        exact (k19 c0 c1e)

theorem sgL_law_166 {X : CX} {d mc ms cells slots : Nat} {pp : Int32 → Hp → Prop} {h : Hp} {b0 : Nat} {o1 : Option Nat} {o2 : Option Nat} {o3 : Option Nat} {x4 : Int32} {u0 : Int32}  (C : CmI X mL_law d mc ms pp) (h0 : h.K b0 = 20) (h1 : vp_in (x4 + 1) (h.N b0)) (k0 : At X cells slots 173 [some (va_rf (some b0)), some (va_rf o1), some (va_rf o2), some (va_rf o3), some (.int x4), none, none] [.int (h.AI b0 ((x4 + 1).toNatClampNeg)), va_rf o2, .int u0] h) : At X cells slots 166 [some (va_rf (some b0)), some (va_rf o1), some (va_rf o2), some (va_rf o3), some (.int x4), none, none] [.int u0] h := by
  refine st_aload_n (pc := 166) C.1 o2 dL_law_166 rfl rfl ?_
  refine st_aload_n (pc := 167) C.1 (some b0) dL_law_167 rfl rfl ?_
  refine st_iload (pc := 168) C.1 dL_law_168 rfl ?_
  refine st_iconst (pc := 170) (v := 1) C.1 dL_law_170 (by decide) ?_
  refine st_iadd (pc := 171) C.1 dL_law_171 ?_
  refine st_saload (pc := 172) C.1 dL_law_172 h0 h1 ?_
  exact k0

theorem sgL_law_176 {X : CX} {d mc ms cells slots : Nat} {pp : Int32 → Hp → Prop} {h : Hp} {o0 : Option Nat} {o1 : Option Nat} {o2 : Option Nat} {o3 : Option Nat} {x4 : Int32} {u0 : Int32} {u1 : Int32}  (C : CmI X mL_law d mc ms pp) (hc : cells ≤ mc) (hs : slots ≤ ms)  (k0 : u1 = u0 → At X cells slots 53 [some (va_rf o0), some (va_rf o1), some (va_rf o2), some (va_rf o3), some (.int (x4 + 4)), none, none] [] h) (k1 : ¬ u1 = u0 → pp 0 h) : At X cells slots 176 [some (va_rf o0), some (va_rf o1), some (va_rf o2), some (va_rf o3), some (.int x4), none, none] [.int u0, .int u1] h := by
  refine st_icmp_eq (pc := 176) (tgt := 752) C.1 dL_law_176 (by decide) (fun c0 => ?_) (fun c0 => ?_)
  · refine sv_iinc (pc := 752) (i := 4) (v := x4 + 4) C.1 [some (va_rf o0), some (va_rf o1), some (va_rf o2), some (va_rf o3), some (.int (x4 + 4)), none, none] dL_law_752 rfl rfl (by rw [C.2.1]; exact Nat.le_of_ble_eq_true rfl) (l1_rf (o := o3) rfl) rfl ?_
    refine st_goto (pc := 755) (tgt := 53) C.1 dL_law_755 (by decide) ?_
    exact (k0 c0)
  · refine st_iconst (pc := 179) (v := 0) C.1 dL_law_179 (by decide) ?_
    exact rt_i C (Or.inr ⟨rfl, (Or.inl rfl)⟩) dL_law_180 hc hs ⟨_, rfl, (k1 c0)⟩

theorem sgL_law_191 {X : CX} {d mc ms cells slots : Nat} {pp : Int32 → Hp → Prop} {h : Hp} {b0 : Nat} {o1 : Option Nat} {o2 : Option Nat} {o3 : Option Nat} {x4 : Int32} {u0 : Int32}  (C : CmI X mL_law d mc ms pp) (h0 : h.K b0 = 20) (h1 : vp_in (x4 + 1) (h.N b0)) (k0 : At X cells slots 198 [some (va_rf (some b0)), some (va_rf o1), some (va_rf o2), some (va_rf o3), some (.int x4), none, none] [.int (h.AI b0 ((x4 + 1).toNatClampNeg)), va_rf o2, .int u0] h) : At X cells slots 191 [some (va_rf (some b0)), some (va_rf o1), some (va_rf o2), some (va_rf o3), some (.int x4), none, none] [.int u0] h := by
  refine st_aload_n (pc := 191) C.1 o2 dL_law_191 rfl rfl ?_
  refine st_aload_n (pc := 192) C.1 (some b0) dL_law_192 rfl rfl ?_
  refine st_iload (pc := 193) C.1 dL_law_193 rfl ?_
  refine st_iconst (pc := 195) (v := 1) C.1 dL_law_195 (by decide) ?_
  refine st_iadd (pc := 196) C.1 dL_law_196 ?_
  refine st_saload (pc := 197) C.1 dL_law_197 h0 h1 ?_
  exact k0

theorem sgL_law_201 {X : CX} {d mc ms cells slots : Nat} {pp : Int32 → Hp → Prop} {h : Hp} {o0 : Option Nat} {o1 : Option Nat} {o2 : Option Nat} {o3 : Option Nat} {x4 : Int32} {u0 : Int32} {u1 : Int32}  (C : CmI X mL_law d mc ms pp) (hc : cells ≤ mc) (hs : slots ≤ ms)  (k0 : u1 = u0 → At X cells slots 53 [some (va_rf o0), some (va_rf o1), some (va_rf o2), some (va_rf o3), some (.int (x4 + 4)), none, none] [] h) (k1 : ¬ u1 = u0 → pp 0 h) : At X cells slots 201 [some (va_rf o0), some (va_rf o1), some (va_rf o2), some (va_rf o3), some (.int x4), none, none] [.int u0, .int u1] h := by
  refine st_icmp_eq (pc := 201) (tgt := 752) C.1 dL_law_201 (by decide) (fun c0 => ?_) (fun c0 => ?_)
  · refine sv_iinc (pc := 752) (i := 4) (v := x4 + 4) C.1 [some (va_rf o0), some (va_rf o1), some (va_rf o2), some (va_rf o3), some (.int (x4 + 4)), none, none] dL_law_752 rfl rfl (by rw [C.2.1]; exact Nat.le_of_ble_eq_true rfl) (l1_rf (o := o3) rfl) rfl ?_
    refine st_goto (pc := 755) (tgt := 53) C.1 dL_law_755 (by decide) ?_
    exact (k0 c0)
  · refine st_iconst (pc := 204) (v := 0) C.1 dL_law_204 (by decide) ?_
    exact rt_i C (Or.inr ⟨rfl, (Or.inl rfl)⟩) dL_law_205 hc hs ⟨_, rfl, (k1 c0)⟩

theorem sgL_law_222 {X : CX} {d mc ms cells slots : Nat} {pp : Int32 → Hp → Prop} {h : Hp} {b0 : Nat} {o1 : Option Nat} {o2 : Option Nat} {o3 : Option Nat} {x4 : Int32} {u0 : Int32}  (C : CmI X mL_law d mc ms pp) (h0 : h.K b0 = 20) (h1 : vp_in (x4 + 1) (h.N b0)) (h2 : vp_in (x4 + 2) (h.N b0)) (k0 : At X cells slots 235 [some (va_rf (some b0)), some (va_rf o1), some (va_rf o2), some (va_rf o3), some (.int x4), none, none] [.int (h.AI b0 ((x4 + 2).toNatClampNeg)), .int (h.AI b0 ((x4 + 1).toNatClampNeg)), va_rf o2, .int u0] h) : At X cells slots 222 [some (va_rf (some b0)), some (va_rf o1), some (va_rf o2), some (va_rf o3), some (.int x4), none, none] [.int u0] h := by
  refine st_aload_n (pc := 222) C.1 o2 dL_law_222 rfl rfl ?_
  refine st_aload_n (pc := 223) C.1 (some b0) dL_law_223 rfl rfl ?_
  refine st_iload (pc := 224) C.1 dL_law_224 rfl ?_
  refine st_iconst (pc := 226) (v := 1) C.1 dL_law_226 (by decide) ?_
  refine st_iadd (pc := 227) C.1 dL_law_227 ?_
  refine st_saload (pc := 228) C.1 dL_law_228 h0 h1 ?_
  refine st_aload_n (pc := 229) C.1 (some b0) dL_law_229 rfl rfl ?_
  refine st_iload (pc := 230) C.1 dL_law_230 rfl ?_
  refine st_iconst (pc := 232) (v := 2) C.1 dL_law_232 (by decide) ?_
  refine st_iadd (pc := 233) C.1 dL_law_233 ?_
  refine st_saload (pc := 234) C.1 dL_law_234 h0 h2 ?_
  exact k0

theorem sgL_law_238 {X : CX} {d mc ms cells slots : Nat} {pp : Int32 → Hp → Prop} {h : Hp} {o0 : Option Nat} {o1 : Option Nat} {o2 : Option Nat} {o3 : Option Nat} {x4 : Int32} {u0 : Int32} {u1 : Int32}  (C : CmI X mL_law d mc ms pp) (hc : cells ≤ mc) (hs : slots ≤ ms)  (k0 : u1 = u0 → At X cells slots 53 [some (va_rf o0), some (va_rf o1), some (va_rf o2), some (va_rf o3), some (.int (x4 + 4)), none, none] [] h) (k1 : ¬ u1 = u0 → pp 0 h) : At X cells slots 238 [some (va_rf o0), some (va_rf o1), some (va_rf o2), some (va_rf o3), some (.int x4), none, none] [.int u0, .int u1] h := by
  refine st_icmp_eq (pc := 238) (tgt := 752) C.1 dL_law_238 (by decide) (fun c0 => ?_) (fun c0 => ?_)
  · refine sv_iinc (pc := 752) (i := 4) (v := x4 + 4) C.1 [some (va_rf o0), some (va_rf o1), some (va_rf o2), some (va_rf o3), some (.int (x4 + 4)), none, none] dL_law_752 rfl rfl (by rw [C.2.1]; exact Nat.le_of_ble_eq_true rfl) (l1_rf (o := o3) rfl) rfl ?_
    refine st_goto (pc := 755) (tgt := 53) C.1 dL_law_755 (by decide) ?_
    exact (k0 c0)
  · refine st_iconst (pc := 241) (v := 0) C.1 dL_law_241 (by decide) ?_
    exact rt_i C (Or.inr ⟨rfl, (Or.inl rfl)⟩) dL_law_242 hc hs ⟨_, rfl, (k1 c0)⟩

theorem sgL_law_253 {X : CX} {d mc ms cells slots : Nat} {pp : Int32 → Hp → Prop} {h : Hp} {b0 : Nat} {o1 : Option Nat} {o2 : Option Nat} {o3 : Option Nat} {x4 : Int32} {u0 : Int32}  (C : CmI X mL_law d mc ms pp) (h0 : h.K b0 = 20) (h1 : vp_in (x4 + 1) (h.N b0)) (k0 : At X cells slots 260 [some (va_rf (some b0)), some (va_rf o1), some (va_rf o2), some (va_rf o3), some (.int x4), none, none] [.int (h.AI b0 ((x4 + 1).toNatClampNeg)), va_rf o2, .int u0] h) : At X cells slots 253 [some (va_rf (some b0)), some (va_rf o1), some (va_rf o2), some (va_rf o3), some (.int x4), none, none] [.int u0] h := by
  refine st_aload_n (pc := 253) C.1 o2 dL_law_253 rfl rfl ?_
  refine st_aload_n (pc := 254) C.1 (some b0) dL_law_254 rfl rfl ?_
  refine st_iload (pc := 255) C.1 dL_law_255 rfl ?_
  refine st_iconst (pc := 257) (v := 1) C.1 dL_law_257 (by decide) ?_
  refine st_iadd (pc := 258) C.1 dL_law_258 ?_
  refine st_saload (pc := 259) C.1 dL_law_259 h0 h1 ?_
  exact k0

theorem sgL_law_263 {X : CX} {d mc ms cells slots : Nat} {pp : Int32 → Hp → Prop} {h : Hp} {o0 : Option Nat} {o1 : Option Nat} {o2 : Option Nat} {o3 : Option Nat} {x4 : Int32} {u0 : Int32} {u1 : Int32}  (C : CmI X mL_law d mc ms pp) (hc : cells ≤ mc) (hs : slots ≤ ms)  (k0 : u1 = u0 → At X cells slots 53 [some (va_rf o0), some (va_rf o1), some (va_rf o2), some (va_rf o3), some (.int (x4 + 4)), none, none] [] h) (k1 : ¬ u1 = u0 → pp 0 h) : At X cells slots 263 [some (va_rf o0), some (va_rf o1), some (va_rf o2), some (va_rf o3), some (.int x4), none, none] [.int u0, .int u1] h := by
  refine st_icmp_eq (pc := 263) (tgt := 752) C.1 dL_law_263 (by decide) (fun c0 => ?_) (fun c0 => ?_)
  · refine sv_iinc (pc := 752) (i := 4) (v := x4 + 4) C.1 [some (va_rf o0), some (va_rf o1), some (va_rf o2), some (va_rf o3), some (.int (x4 + 4)), none, none] dL_law_752 rfl rfl (by rw [C.2.1]; exact Nat.le_of_ble_eq_true rfl) (l1_rf (o := o3) rfl) rfl ?_
    refine st_goto (pc := 755) (tgt := 53) C.1 dL_law_755 (by decide) ?_
    exact (k0 c0)
  · refine st_iconst (pc := 266) (v := 0) C.1 dL_law_266 (by decide) ?_
    exact rt_i C (Or.inr ⟨rfl, (Or.inl rfl)⟩) dL_law_267 hc hs ⟨_, rfl, (k1 c0)⟩

theorem sgL_law_284 {X : CX} {d mc ms cells slots : Nat} {pp : Int32 → Hp → Prop} {h : Hp} {b0 : Nat} {o1 : Option Nat} {o2 : Option Nat} {o3 : Option Nat} {x4 : Int32} {u0 : Int32}  (C : CmI X mL_law d mc ms pp) (h0 : h.K b0 = 20) (h1 : vp_in (x4 + 1) (h.N b0)) (h2 : vp_in (x4 + 2) (h.N b0)) (k0 : At X cells slots 297 [some (va_rf (some b0)), some (va_rf o1), some (va_rf o2), some (va_rf o3), some (.int x4), none, none] [.int (h.AI b0 ((x4 + 2).toNatClampNeg)), .int (h.AI b0 ((x4 + 1).toNatClampNeg)), va_rf o2, .int u0] h) : At X cells slots 284 [some (va_rf (some b0)), some (va_rf o1), some (va_rf o2), some (va_rf o3), some (.int x4), none, none] [.int u0] h := by
  refine st_aload_n (pc := 284) C.1 o2 dL_law_284 rfl rfl ?_
  refine st_aload_n (pc := 285) C.1 (some b0) dL_law_285 rfl rfl ?_
  refine st_iload (pc := 286) C.1 dL_law_286 rfl ?_
  refine st_iconst (pc := 288) (v := 1) C.1 dL_law_288 (by decide) ?_
  refine st_iadd (pc := 289) C.1 dL_law_289 ?_
  refine st_saload (pc := 290) C.1 dL_law_290 h0 h1 ?_
  refine st_aload_n (pc := 291) C.1 (some b0) dL_law_291 rfl rfl ?_
  refine st_iload (pc := 292) C.1 dL_law_292 rfl ?_
  refine st_iconst (pc := 294) (v := 2) C.1 dL_law_294 (by decide) ?_
  refine st_iadd (pc := 295) C.1 dL_law_295 ?_
  refine st_saload (pc := 296) C.1 dL_law_296 h0 h2 ?_
  exact k0

theorem sgL_law_300 {X : CX} {d mc ms cells slots : Nat} {pp : Int32 → Hp → Prop} {h : Hp} {o0 : Option Nat} {o1 : Option Nat} {o2 : Option Nat} {o3 : Option Nat} {x4 : Int32} {u0 : Int32} {u1 : Int32}  (C : CmI X mL_law d mc ms pp) (hc : cells ≤ mc) (hs : slots ≤ ms)  (k0 : u1 = u0 → At X cells slots 53 [some (va_rf o0), some (va_rf o1), some (va_rf o2), some (va_rf o3), some (.int (x4 + 4)), none, none] [] h) (k1 : ¬ u1 = u0 → pp 0 h) : At X cells slots 300 [some (va_rf o0), some (va_rf o1), some (va_rf o2), some (va_rf o3), some (.int x4), none, none] [.int u0, .int u1] h := by
  refine st_icmp_eq (pc := 300) (tgt := 752) C.1 dL_law_300 (by decide) (fun c0 => ?_) (fun c0 => ?_)
  · refine sv_iinc (pc := 752) (i := 4) (v := x4 + 4) C.1 [some (va_rf o0), some (va_rf o1), some (va_rf o2), some (va_rf o3), some (.int (x4 + 4)), none, none] dL_law_752 rfl rfl (by rw [C.2.1]; exact Nat.le_of_ble_eq_true rfl) (l1_rf (o := o3) rfl) rfl ?_
    refine st_goto (pc := 755) (tgt := 53) C.1 dL_law_755 (by decide) ?_
    exact (k0 c0)
  · refine st_iconst (pc := 303) (v := 0) C.1 dL_law_303 (by decide) ?_
    exact rt_i C (Or.inr ⟨rfl, (Or.inl rfl)⟩) dL_law_304 hc hs ⟨_, rfl, (k1 c0)⟩

theorem sgL_law_315 {X : CX} {d mc ms cells slots : Nat} {pp : Int32 → Hp → Prop} {h : Hp} {b0 : Nat} {o1 : Option Nat} {o2 : Option Nat} {o3 : Option Nat} {x4 : Int32} {u0 : Int32}  (C : CmI X mL_law d mc ms pp) (h0 : h.K b0 = 20) (h1 : vp_in (x4 + 1) (h.N b0)) (k0 : At X cells slots 322 [some (va_rf (some b0)), some (va_rf o1), some (va_rf o2), some (va_rf o3), some (.int x4), none, none] [.int (h.AI b0 ((x4 + 1).toNatClampNeg)), va_rf o2, .int u0] h) : At X cells slots 315 [some (va_rf (some b0)), some (va_rf o1), some (va_rf o2), some (va_rf o3), some (.int x4), none, none] [.int u0] h := by
  refine st_aload_n (pc := 315) C.1 o2 dL_law_315 rfl rfl ?_
  refine st_aload_n (pc := 316) C.1 (some b0) dL_law_316 rfl rfl ?_
  refine st_iload (pc := 317) C.1 dL_law_317 rfl ?_
  refine st_iconst (pc := 319) (v := 1) C.1 dL_law_319 (by decide) ?_
  refine st_iadd (pc := 320) C.1 dL_law_320 ?_
  refine st_saload (pc := 321) C.1 dL_law_321 h0 h1 ?_
  exact k0

theorem sgL_law_325 {X : CX} {d mc ms cells slots : Nat} {pp : Int32 → Hp → Prop} {h : Hp} {o0 : Option Nat} {o1 : Option Nat} {o2 : Option Nat} {o3 : Option Nat} {x4 : Int32} {u0 : Int32} {u1 : Int32}  (C : CmI X mL_law d mc ms pp) (hc : cells ≤ mc) (hs : slots ≤ ms)  (k0 : u1 = u0 → At X cells slots 53 [some (va_rf o0), some (va_rf o1), some (va_rf o2), some (va_rf o3), some (.int (x4 + 4)), none, none] [] h) (k1 : ¬ u1 = u0 → pp 0 h) : At X cells slots 325 [some (va_rf o0), some (va_rf o1), some (va_rf o2), some (va_rf o3), some (.int x4), none, none] [.int u0, .int u1] h := by
  refine st_icmp_eq (pc := 325) (tgt := 752) C.1 dL_law_325 (by decide) (fun c0 => ?_) (fun c0 => ?_)
  · refine sv_iinc (pc := 752) (i := 4) (v := x4 + 4) C.1 [some (va_rf o0), some (va_rf o1), some (va_rf o2), some (va_rf o3), some (.int (x4 + 4)), none, none] dL_law_752 rfl rfl (by rw [C.2.1]; exact Nat.le_of_ble_eq_true rfl) (l1_rf (o := o3) rfl) rfl ?_
    refine st_goto (pc := 755) (tgt := 53) C.1 dL_law_755 (by decide) ?_
    exact (k0 c0)
  · refine st_iconst (pc := 328) (v := 0) C.1 dL_law_328 (by decide) ?_
    exact rt_i C (Or.inr ⟨rfl, (Or.inl rfl)⟩) dL_law_329 hc hs ⟨_, rfl, (k1 c0)⟩

theorem sgL_law_352 {X : CX} {d mc ms cells slots : Nat} {pp : Int32 → Hp → Prop} {h : Hp} {b0 : Nat} {o1 : Option Nat} {o2 : Option Nat} {o3 : Option Nat} {x4 : Int32} {u0 : Int32}  (C : CmI X mL_law d mc ms pp) (h0 : h.K b0 = 20) (h1 : vp_in (x4 + 1) (h.N b0)) (h2 : vp_in (x4 + 2) (h.N b0)) (h3 : vp_in (x4 + 3) (h.N b0)) (k0 : At X cells slots 371 [some (va_rf (some b0)), some (va_rf o1), some (va_rf o2), some (va_rf o3), some (.int x4), none, none] [.int (h.AI b0 ((x4 + 3).toNatClampNeg)), .int (h.AI b0 ((x4 + 2).toNatClampNeg)), .int (h.AI b0 ((x4 + 1).toNatClampNeg)), va_rf o2, .int u0] h) : At X cells slots 352 [some (va_rf (some b0)), some (va_rf o1), some (va_rf o2), some (va_rf o3), some (.int x4), none, none] [.int u0] h := by
  refine st_aload_n (pc := 352) C.1 o2 dL_law_352 rfl rfl ?_
  refine st_aload_n (pc := 353) C.1 (some b0) dL_law_353 rfl rfl ?_
  refine st_iload (pc := 354) C.1 dL_law_354 rfl ?_
  refine st_iconst (pc := 356) (v := 1) C.1 dL_law_356 (by decide) ?_
  refine st_iadd (pc := 357) C.1 dL_law_357 ?_
  refine st_saload (pc := 358) C.1 dL_law_358 h0 h1 ?_
  refine st_aload_n (pc := 359) C.1 (some b0) dL_law_359 rfl rfl ?_
  refine st_iload (pc := 360) C.1 dL_law_360 rfl ?_
  refine st_iconst (pc := 362) (v := 2) C.1 dL_law_362 (by decide) ?_
  refine st_iadd (pc := 363) C.1 dL_law_363 ?_
  refine st_saload (pc := 364) C.1 dL_law_364 h0 h2 ?_
  refine st_aload_n (pc := 365) C.1 (some b0) dL_law_365 rfl rfl ?_
  refine st_iload (pc := 366) C.1 dL_law_366 rfl ?_
  refine st_iconst (pc := 368) (v := 3) C.1 dL_law_368 (by decide) ?_
  refine st_iadd (pc := 369) C.1 dL_law_369 ?_
  refine st_saload (pc := 370) C.1 dL_law_370 h0 h3 ?_
  exact k0

theorem sgL_law_374 {X : CX} {d mc ms cells slots : Nat} {pp : Int32 → Hp → Prop} {h : Hp} {o0 : Option Nat} {o1 : Option Nat} {o2 : Option Nat} {o3 : Option Nat} {x4 : Int32} {u0 : Int32} {u1 : Int32}  (C : CmI X mL_law d mc ms pp) (hc : cells ≤ mc) (hs : slots ≤ ms)  (k0 : u1 = u0 → At X cells slots 53 [some (va_rf o0), some (va_rf o1), some (va_rf o2), some (va_rf o3), some (.int (x4 + 4)), none, none] [] h) (k1 : ¬ u1 = u0 → pp 0 h) : At X cells slots 374 [some (va_rf o0), some (va_rf o1), some (va_rf o2), some (va_rf o3), some (.int x4), none, none] [.int u0, .int u1] h := by
  refine st_icmp_eq (pc := 374) (tgt := 752) C.1 dL_law_374 (by decide) (fun c0 => ?_) (fun c0 => ?_)
  · refine sv_iinc (pc := 752) (i := 4) (v := x4 + 4) C.1 [some (va_rf o0), some (va_rf o1), some (va_rf o2), some (va_rf o3), some (.int (x4 + 4)), none, none] dL_law_752 rfl rfl (by rw [C.2.1]; exact Nat.le_of_ble_eq_true rfl) (l1_rf (o := o3) rfl) rfl ?_
    refine st_goto (pc := 755) (tgt := 53) C.1 dL_law_755 (by decide) ?_
    exact (k0 c0)
  · refine st_iconst (pc := 377) (v := 0) C.1 dL_law_377 (by decide) ?_
    exact rt_i C (Or.inr ⟨rfl, (Or.inl rfl)⟩) dL_law_378 hc hs ⟨_, rfl, (k1 c0)⟩

theorem sgL_law_389 {X : CX} {d mc ms cells slots : Nat} {pp : Int32 → Hp → Prop} {h : Hp} {b0 : Nat} {o1 : Option Nat} {o2 : Option Nat} {o3 : Option Nat} {x4 : Int32} {u0 : Int32}  (C : CmI X mL_law d mc ms pp) (h0 : h.K b0 = 20) (h1 : vp_in (x4 + 1) (h.N b0)) (k0 : At X cells slots 396 [some (va_rf (some b0)), some (va_rf o1), some (va_rf o2), some (va_rf o3), some (.int x4), none, none] [.int (h.AI b0 ((x4 + 1).toNatClampNeg)), va_rf o2, .int u0] h) : At X cells slots 389 [some (va_rf (some b0)), some (va_rf o1), some (va_rf o2), some (va_rf o3), some (.int x4), none, none] [.int u0] h := by
  refine st_aload_n (pc := 389) C.1 o2 dL_law_389 rfl rfl ?_
  refine st_aload_n (pc := 390) C.1 (some b0) dL_law_390 rfl rfl ?_
  refine st_iload (pc := 391) C.1 dL_law_391 rfl ?_
  refine st_iconst (pc := 393) (v := 1) C.1 dL_law_393 (by decide) ?_
  refine st_iadd (pc := 394) C.1 dL_law_394 ?_
  refine st_saload (pc := 395) C.1 dL_law_395 h0 h1 ?_
  exact k0

theorem sgL_law_399 {X : CX} {d mc ms cells slots : Nat} {pp : Int32 → Hp → Prop} {h : Hp} {o0 : Option Nat} {o1 : Option Nat} {o2 : Option Nat} {o3 : Option Nat} {x4 : Int32} {u0 : Int32} {u1 : Int32}  (C : CmI X mL_law d mc ms pp) (hc : cells ≤ mc) (hs : slots ≤ ms)  (k0 : u1 = u0 → At X cells slots 53 [some (va_rf o0), some (va_rf o1), some (va_rf o2), some (va_rf o3), some (.int (x4 + 4)), none, none] [] h) (k1 : ¬ u1 = u0 → pp 0 h) : At X cells slots 399 [some (va_rf o0), some (va_rf o1), some (va_rf o2), some (va_rf o3), some (.int x4), none, none] [.int u0, .int u1] h := by
  refine st_icmp_eq (pc := 399) (tgt := 752) C.1 dL_law_399 (by decide) (fun c0 => ?_) (fun c0 => ?_)
  · refine sv_iinc (pc := 752) (i := 4) (v := x4 + 4) C.1 [some (va_rf o0), some (va_rf o1), some (va_rf o2), some (va_rf o3), some (.int (x4 + 4)), none, none] dL_law_752 rfl rfl (by rw [C.2.1]; exact Nat.le_of_ble_eq_true rfl) (l1_rf (o := o3) rfl) rfl ?_
    refine st_goto (pc := 755) (tgt := 53) C.1 dL_law_755 (by decide) ?_
    exact (k0 c0)
  · refine st_iconst (pc := 402) (v := 0) C.1 dL_law_402 (by decide) ?_
    exact rt_i C (Or.inr ⟨rfl, (Or.inl rfl)⟩) dL_law_403 hc hs ⟨_, rfl, (k1 c0)⟩

theorem sgL_law_421 {X : CX} {d mc ms cells slots : Nat} {pp : Int32 → Hp → Prop} {h : Hp} {b0 : Nat} {o1 : Option Nat} {o2 : Option Nat} {o3 : Option Nat} {x4 : Int32} {u0 : Int32}  (C : CmI X mL_law d mc ms pp) (h0 : h.K b0 = 20) (h1 : vp_in (x4 + 1) (h.N b0)) (h2 : vp_in (x4 + 2) (h.N b0)) (k0 : At X cells slots 436 [some (va_rf (some b0)), some (va_rf o1), some (va_rf o2), some (va_rf o3), some (.int x4), some (.int u0), none] [.int (h.AI b0 ((x4 + 2).toNatClampNeg)), .int (h.AI b0 ((x4 + 1).toNatClampNeg)), va_rf o2] h) : At X cells slots 421 [some (va_rf (some b0)), some (va_rf o1), some (va_rf o2), some (va_rf o3), some (.int x4), none, none] [.int u0] h := by
  refine sv_istore (pc := 421) (i := 5) C.1 [some (va_rf (some b0)), some (va_rf o1), some (va_rf o2), some (va_rf o3), some (.int x4), some (.int u0), none] dL_law_421 (Nat.le_of_ble_eq_true rfl) (by rw [C.2.1]; exact Nat.le_of_ble_eq_true rfl) rfl rfl ?_
  refine st_aload_n (pc := 423) C.1 o2 dL_law_423 rfl rfl ?_
  refine st_aload_n (pc := 424) C.1 (some b0) dL_law_424 rfl rfl ?_
  refine st_iload (pc := 425) C.1 dL_law_425 rfl ?_
  refine st_iconst (pc := 427) (v := 1) C.1 dL_law_427 (by decide) ?_
  refine st_iadd (pc := 428) C.1 dL_law_428 ?_
  refine st_saload (pc := 429) C.1 dL_law_429 h0 h1 ?_
  refine st_aload_n (pc := 430) C.1 (some b0) dL_law_430 rfl rfl ?_
  refine st_iload (pc := 431) C.1 dL_law_431 rfl ?_
  refine st_iconst (pc := 433) (v := 2) C.1 dL_law_433 (by decide) ?_
  refine st_iadd (pc := 434) C.1 dL_law_434 ?_
  refine st_saload (pc := 435) C.1 dL_law_435 h0 h2 ?_
  exact k0

theorem sgL_law_439 {X : CX} {d mc ms cells slots : Nat} {pp : Int32 → Hp → Prop} {h : Hp} {o0 : Option Nat} {o1 : Option Nat} {o2 : Option Nat} {o3 : Option Nat} {x4 : Int32} {x5 : Int32} {u0 : Int32}  (C : CmI X mL_law d mc ms pp)  (k0 : At X cells slots 442 [some (va_rf o0), some (va_rf o1), some (va_rf o2), some (va_rf o3), some (.int x4), some (.int x5), some (.int u0)] [va_rf o2] h) : At X cells slots 439 [some (va_rf o0), some (va_rf o1), some (va_rf o2), some (va_rf o3), some (.int x4), some (.int x5), none] [.int u0] h := by
  refine sv_istore (pc := 439) (i := 6) C.1 [some (va_rf o0), some (va_rf o1), some (va_rf o2), some (va_rf o3), some (.int x4), some (.int x5), some (.int u0)] dL_law_439 (Nat.le_of_ble_eq_true rfl) (by rw [C.2.1]; exact Nat.le_of_ble_eq_true rfl) rfl rfl ?_
  refine st_aload_n (pc := 441) C.1 o2 dL_law_441 rfl rfl ?_
  exact k0

theorem sgL_law_445 {X : CX} {d mc ms cells slots : Nat} {pp : Int32 → Hp → Prop} {h : Hp} {o0 : Option Nat} {o1 : Option Nat} {o2 : Option Nat} {b3 : Nat} {x4 : Int32} {x5 : Int32} {x6 : Int32} {u0 : Int32}  (C : CmI X mL_law d mc ms pp) (hc : cells ≤ mc) (hs : slots ≤ ms) (h0 : h.K b3 = 15) (h1 : u0 = x5 → x5 = 0 → vp_in 0 (h.N b3)) (k0 : u0 = x5 → ¬ x5 = 0 → At X cells slots 53 [some (va_rf o0), some (va_rf o1), some (va_rf o2), some (va_rf (some b3)), some (.int (x4 + 4)), some (.int x5), some (.int x6)] [] h) (k1 : u0 = x5 → x5 = 0 → lg_cmp (h.AL b3 ((0 : Int32).toNatClampNeg)) x6.toInt64 = 0 → At X cells slots 53 [some (va_rf o0), some (va_rf o1), some (va_rf o2), some (va_rf (some b3)), some (.int (x4 + 4)), some (.int x5), some (.int x6)] [] h) (k2 : u0 = x5 → x5 = 0 → ¬ lg_cmp (h.AL b3 ((0 : Int32).toNatClampNeg)) x6.toInt64 = 0 → pp 0 h) (k3 : ¬ u0 = x5 → pp 0 h) : At X cells slots 445 [some (va_rf o0), some (va_rf o1), some (va_rf o2), some (va_rf (some b3)), some (.int x4), some (.int x5), some (.int x6)] [.int u0] h := by
  refine st_iload (pc := 445) C.1 dL_law_445 rfl ?_
  refine st_icmp_eq (pc := 447) (tgt := 452) C.1 dL_law_447 (by decide) (fun c0 => ?_) (fun c0 => ?_)
  · refine st_iload (pc := 452) C.1 dL_law_452 rfl ?_
    refine st_if_ne (pc := 454) (tgt := 469) C.1 dL_law_454 (by decide) (fun c1 => ?_) (fun c1 => ?_)
    · refine st_goto (pc := 469) (tgt := 752) C.1 dL_law_469 (by decide) ?_
      refine sv_iinc (pc := 752) (i := 4) (v := x4 + 4) C.1 [some (va_rf o0), some (va_rf o1), some (va_rf o2), some (va_rf (some b3)), some (.int (x4 + 4)), some (.int x5), some (.int x6)] dL_law_752 rfl rfl (by rw [C.2.1]; exact Nat.le_of_ble_eq_true rfl) rfl rfl ?_
      refine st_goto (pc := 755) (tgt := 53) C.1 dL_law_755 (by decide) ?_
      exact (k0 c0 c1)
    · refine st_aload_n (pc := 457) C.1 (some b3) dL_law_457 rfl rfl ?_
      refine st_iconst (pc := 458) (v := 0) C.1 dL_law_458 (by decide) ?_
      refine sv_laload (pc := 459) C.1 (h.AL b3 ((0 : Int32).toNatClampNeg)) dL_law_459 h0 (h1 c0 c1) rfl ?_
      refine st_iload (pc := 460) C.1 dL_law_460 rfl ?_
      refine st_i2l (pc := 462) C.1 dL_law_462 ?_
      refine st_lcmp (pc := 463) C.1 dL_law_463 ?_
      refine st_if_eq (pc := 464) (tgt := 469) C.1 dL_law_464 (by decide) (fun c2 => ?_) (fun c2 => ?_)
      · refine st_goto (pc := 469) (tgt := 752) C.1 dL_law_469 (by decide) ?_
        refine sv_iinc (pc := 752) (i := 4) (v := x4 + 4) C.1 [some (va_rf o0), some (va_rf o1), some (va_rf o2), some (va_rf (some b3)), some (.int (x4 + 4)), some (.int x5), some (.int x6)] dL_law_752 rfl rfl (by rw [C.2.1]; exact Nat.le_of_ble_eq_true rfl) rfl rfl ?_
        refine st_goto (pc := 755) (tgt := 53) C.1 dL_law_755 (by decide) ?_
        exact (k1 c0 c1 c2)
      · refine st_iconst (pc := 467) (v := 0) C.1 dL_law_467 (by decide) ?_
        exact rt_i C (Or.inr ⟨rfl, (Or.inl rfl)⟩) dL_law_468 hc hs ⟨_, rfl, (k2 c0 c1 c2)⟩
  · refine st_iconst (pc := 450) (v := 0) C.1 dL_law_450 (by decide) ?_
    exact rt_i C (Or.inr ⟨rfl, (Or.inl rfl)⟩) dL_law_451 hc hs ⟨_, rfl, (k3 c0)⟩

theorem sgL_law_488 {X : CX} {d mc ms cells slots : Nat} {pp : Int32 → Hp → Prop} {h : Hp} {b0 : Nat} {o1 : Option Nat} {o2 : Option Nat} {o3 : Option Nat} {x4 : Int32} {u0 : Int32}  (C : CmI X mL_law d mc ms pp) (h0 : h.K b0 = 20) (h1 : vp_in (x4 + 1) (h.N b0)) (h2 : vp_in (x4 + 2) (h.N b0)) (k0 : At X cells slots 501 [some (va_rf (some b0)), some (va_rf o1), some (va_rf o2), some (va_rf o3), some (.int x4), none, none] [.int (h.AI b0 ((x4 + 2).toNatClampNeg)), .int (h.AI b0 ((x4 + 1).toNatClampNeg)), va_rf o2, .int u0] h) : At X cells slots 488 [some (va_rf (some b0)), some (va_rf o1), some (va_rf o2), some (va_rf o3), some (.int x4), none, none] [.int u0] h := by
  refine st_aload_n (pc := 488) C.1 o2 dL_law_488 rfl rfl ?_
  refine st_aload_n (pc := 489) C.1 (some b0) dL_law_489 rfl rfl ?_
  refine st_iload (pc := 490) C.1 dL_law_490 rfl ?_
  refine st_iconst (pc := 492) (v := 1) C.1 dL_law_492 (by decide) ?_
  refine st_iadd (pc := 493) C.1 dL_law_493 ?_
  refine st_saload (pc := 494) C.1 dL_law_494 h0 h1 ?_
  refine st_aload_n (pc := 495) C.1 (some b0) dL_law_495 rfl rfl ?_
  refine st_iload (pc := 496) C.1 dL_law_496 rfl ?_
  refine st_iconst (pc := 498) (v := 2) C.1 dL_law_498 (by decide) ?_
  refine st_iadd (pc := 499) C.1 dL_law_499 ?_
  refine st_saload (pc := 500) C.1 dL_law_500 h0 h2 ?_
  exact k0

theorem sgL_law_504 {X : CX} {d mc ms cells slots : Nat} {pp : Int32 → Hp → Prop} {h : Hp} {o0 : Option Nat} {o1 : Option Nat} {o2 : Option Nat} {o3 : Option Nat} {x4 : Int32} {u0 : Int32} {u1 : Int32}  (C : CmI X mL_law d mc ms pp) (hc : cells ≤ mc) (hs : slots ≤ ms)  (k0 : u1 = u0 → At X cells slots 53 [some (va_rf o0), some (va_rf o1), some (va_rf o2), some (va_rf o3), some (.int (x4 + 4)), none, none] [] h) (k1 : ¬ u1 = u0 → pp 0 h) : At X cells slots 504 [some (va_rf o0), some (va_rf o1), some (va_rf o2), some (va_rf o3), some (.int x4), none, none] [.int u0, .int u1] h := by
  refine st_icmp_eq (pc := 504) (tgt := 752) C.1 dL_law_504 (by decide) (fun c0 => ?_) (fun c0 => ?_)
  · refine sv_iinc (pc := 752) (i := 4) (v := x4 + 4) C.1 [some (va_rf o0), some (va_rf o1), some (va_rf o2), some (va_rf o3), some (.int (x4 + 4)), none, none] dL_law_752 rfl rfl (by rw [C.2.1]; exact Nat.le_of_ble_eq_true rfl) (l1_rf (o := o3) rfl) rfl ?_
    refine st_goto (pc := 755) (tgt := 53) C.1 dL_law_755 (by decide) ?_
    exact (k0 c0)
  · refine st_iconst (pc := 507) (v := 0) C.1 dL_law_507 (by decide) ?_
    exact rt_i C (Or.inr ⟨rfl, (Or.inl rfl)⟩) dL_law_508 hc hs ⟨_, rfl, (k1 c0)⟩

theorem sgL_law_513 {X : CX} {d mc ms cells slots : Nat} {pp : Int32 → Hp → Prop} {h : Hp} {o0 : Option Nat} {o1 : Option Nat} {o2 : Option Nat} {o3 : Option Nat} {x4 : Int32} {u0 : Int32}  (C : CmI X mL_law d mc ms pp)  (k0 : At X cells slots 514 [some (va_rf o0), some (va_rf o1), some (va_rf o2), some (va_rf o3), some (.int x4), none, none] [va_rf o2, .int u0] h) : At X cells slots 513 [some (va_rf o0), some (va_rf o1), some (va_rf o2), some (va_rf o3), some (.int x4), none, none] [.int u0] h := by
  refine st_aload_n (pc := 513) C.1 o2 dL_law_513 rfl rfl ?_
  exact k0

theorem sgL_law_517 {X : CX} {d mc ms cells slots : Nat} {pp : Int32 → Hp → Prop} {h : Hp} {o0 : Option Nat} {o1 : Option Nat} {o2 : Option Nat} {o3 : Option Nat} {x4 : Int32} {u0 : Int32} {u1 : Int32}  (C : CmI X mL_law d mc ms pp) (hc : cells ≤ mc) (hs : slots ≤ ms)  (k0 : u1 = u0 → At X cells slots 53 [some (va_rf o0), some (va_rf o1), some (va_rf o2), some (va_rf o3), some (.int (x4 + 4)), none, none] [] h) (k1 : ¬ u1 = u0 → pp 0 h) : At X cells slots 517 [some (va_rf o0), some (va_rf o1), some (va_rf o2), some (va_rf o3), some (.int x4), none, none] [.int u0, .int u1] h := by
  refine st_icmp_eq (pc := 517) (tgt := 752) C.1 dL_law_517 (by decide) (fun c0 => ?_) (fun c0 => ?_)
  · refine sv_iinc (pc := 752) (i := 4) (v := x4 + 4) C.1 [some (va_rf o0), some (va_rf o1), some (va_rf o2), some (va_rf o3), some (.int (x4 + 4)), none, none] dL_law_752 rfl rfl (by rw [C.2.1]; exact Nat.le_of_ble_eq_true rfl) (l1_rf (o := o3) rfl) rfl ?_
    refine st_goto (pc := 755) (tgt := 53) C.1 dL_law_755 (by decide) ?_
    exact (k0 c0)
  · refine st_iconst (pc := 520) (v := 0) C.1 dL_law_520 (by decide) ?_
    exact rt_i C (Or.inr ⟨rfl, (Or.inl rfl)⟩) dL_law_521 hc hs ⟨_, rfl, (k1 c0)⟩

theorem sgL_law_538 {X : CX} {d mc ms cells slots : Nat} {pp : Int32 → Hp → Prop} {h : Hp} {b0 : Nat} {o1 : Option Nat} {o2 : Option Nat} {o3 : Option Nat} {x4 : Int32} {u0 : Int32}  (C : CmI X mL_law d mc ms pp) (h0 : h.K b0 = 20) (h1 : vp_in (x4 + 1) (h.N b0)) (h2 : vp_in (x4 + 2) (h.N b0)) (k0 : At X cells slots 551 [some (va_rf (some b0)), some (va_rf o1), some (va_rf o2), some (va_rf o3), some (.int x4), none, none] [.int (h.AI b0 ((x4 + 2).toNatClampNeg)), .int (h.AI b0 ((x4 + 1).toNatClampNeg)), va_rf o2, .int u0] h) : At X cells slots 538 [some (va_rf (some b0)), some (va_rf o1), some (va_rf o2), some (va_rf o3), some (.int x4), none, none] [.int u0] h := by
  refine st_aload_n (pc := 538) C.1 o2 dL_law_538 rfl rfl ?_
  refine st_aload_n (pc := 539) C.1 (some b0) dL_law_539 rfl rfl ?_
  refine st_iload (pc := 540) C.1 dL_law_540 rfl ?_
  refine st_iconst (pc := 542) (v := 1) C.1 dL_law_542 (by decide) ?_
  refine st_iadd (pc := 543) C.1 dL_law_543 ?_
  refine st_saload (pc := 544) C.1 dL_law_544 h0 h1 ?_
  refine st_aload_n (pc := 545) C.1 (some b0) dL_law_545 rfl rfl ?_
  refine st_iload (pc := 546) C.1 dL_law_546 rfl ?_
  refine st_iconst (pc := 548) (v := 2) C.1 dL_law_548 (by decide) ?_
  refine st_iadd (pc := 549) C.1 dL_law_549 ?_
  refine st_saload (pc := 550) C.1 dL_law_550 h0 h2 ?_
  exact k0

theorem sgL_law_554 {X : CX} {d mc ms cells slots : Nat} {pp : Int32 → Hp → Prop} {h : Hp} {o0 : Option Nat} {o1 : Option Nat} {o2 : Option Nat} {o3 : Option Nat} {x4 : Int32} {u0 : Int32} {u1 : Int32}  (C : CmI X mL_law d mc ms pp) (hc : cells ≤ mc) (hs : slots ≤ ms)  (k0 : u1 = u0 → At X cells slots 53 [some (va_rf o0), some (va_rf o1), some (va_rf o2), some (va_rf o3), some (.int (x4 + 4)), none, none] [] h) (k1 : ¬ u1 = u0 → pp 0 h) : At X cells slots 554 [some (va_rf o0), some (va_rf o1), some (va_rf o2), some (va_rf o3), some (.int x4), none, none] [.int u0, .int u1] h := by
  refine st_icmp_eq (pc := 554) (tgt := 752) C.1 dL_law_554 (by decide) (fun c0 => ?_) (fun c0 => ?_)
  · refine sv_iinc (pc := 752) (i := 4) (v := x4 + 4) C.1 [some (va_rf o0), some (va_rf o1), some (va_rf o2), some (va_rf o3), some (.int (x4 + 4)), none, none] dL_law_752 rfl rfl (by rw [C.2.1]; exact Nat.le_of_ble_eq_true rfl) (l1_rf (o := o3) rfl) rfl ?_
    refine st_goto (pc := 755) (tgt := 53) C.1 dL_law_755 (by decide) ?_
    exact (k0 c0)
  · refine st_iconst (pc := 557) (v := 0) C.1 dL_law_557 (by decide) ?_
    exact rt_i C (Or.inr ⟨rfl, (Or.inl rfl)⟩) dL_law_558 hc hs ⟨_, rfl, (k1 c0)⟩

theorem sgL_law_563 {X : CX} {d mc ms cells slots : Nat} {pp : Int32 → Hp → Prop} {h : Hp} {o0 : Option Nat} {o1 : Option Nat} {o2 : Option Nat} {o3 : Option Nat} {x4 : Int32} {u0 : Int32}  (C : CmI X mL_law d mc ms pp)  (k0 : At X cells slots 564 [some (va_rf o0), some (va_rf o1), some (va_rf o2), some (va_rf o3), some (.int x4), none, none] [va_rf o2, .int u0] h) : At X cells slots 563 [some (va_rf o0), some (va_rf o1), some (va_rf o2), some (va_rf o3), some (.int x4), none, none] [.int u0] h := by
  refine st_aload_n (pc := 563) C.1 o2 dL_law_563 rfl rfl ?_
  exact k0

theorem sgL_law_567 {X : CX} {d mc ms cells slots : Nat} {pp : Int32 → Hp → Prop} {h : Hp} {o0 : Option Nat} {o1 : Option Nat} {o2 : Option Nat} {o3 : Option Nat} {x4 : Int32} {u0 : Int32} {u1 : Int32}  (C : CmI X mL_law d mc ms pp) (hc : cells ≤ mc) (hs : slots ≤ ms)  (k0 : u1 = u0 → At X cells slots 53 [some (va_rf o0), some (va_rf o1), some (va_rf o2), some (va_rf o3), some (.int (x4 + 4)), none, none] [] h) (k1 : ¬ u1 = u0 → pp 0 h) : At X cells slots 567 [some (va_rf o0), some (va_rf o1), some (va_rf o2), some (va_rf o3), some (.int x4), none, none] [.int u0, .int u1] h := by
  refine st_icmp_eq (pc := 567) (tgt := 752) C.1 dL_law_567 (by decide) (fun c0 => ?_) (fun c0 => ?_)
  · refine sv_iinc (pc := 752) (i := 4) (v := x4 + 4) C.1 [some (va_rf o0), some (va_rf o1), some (va_rf o2), some (va_rf o3), some (.int (x4 + 4)), none, none] dL_law_752 rfl rfl (by rw [C.2.1]; exact Nat.le_of_ble_eq_true rfl) (l1_rf (o := o3) rfl) rfl ?_
    refine st_goto (pc := 755) (tgt := 53) C.1 dL_law_755 (by decide) ?_
    exact (k0 c0)
  · refine st_iconst (pc := 570) (v := 0) C.1 dL_law_570 (by decide) ?_
    exact rt_i C (Or.inr ⟨rfl, (Or.inl rfl)⟩) dL_law_571 hc hs ⟨_, rfl, (k1 c0)⟩

theorem sgL_law_582 {X : CX} {d mc ms cells slots : Nat} {pp : Int32 → Hp → Prop} {h : Hp} {b0 : Nat} {o1 : Option Nat} {o2 : Option Nat} {o3 : Option Nat} {x4 : Int32} {u0 : Int32}  (C : CmI X mL_law d mc ms pp) (h0 : h.K b0 = 20) (h1 : vp_in (x4 + 1) (h.N b0)) (k0 : At X cells slots 589 [some (va_rf (some b0)), some (va_rf o1), some (va_rf o2), some (va_rf o3), some (.int x4), none, none] [.int (h.AI b0 ((x4 + 1).toNatClampNeg)), va_rf o2, .int u0] h) : At X cells slots 582 [some (va_rf (some b0)), some (va_rf o1), some (va_rf o2), some (va_rf o3), some (.int x4), none, none] [.int u0] h := by
  refine st_aload_n (pc := 582) C.1 o2 dL_law_582 rfl rfl ?_
  refine st_aload_n (pc := 583) C.1 (some b0) dL_law_583 rfl rfl ?_
  refine st_iload (pc := 584) C.1 dL_law_584 rfl ?_
  refine st_iconst (pc := 586) (v := 1) C.1 dL_law_586 (by decide) ?_
  refine st_iadd (pc := 587) C.1 dL_law_587 ?_
  refine st_saload (pc := 588) C.1 dL_law_588 h0 h1 ?_
  exact k0

theorem sgL_law_592 {X : CX} {d mc ms cells slots : Nat} {pp : Int32 → Hp → Prop} {h : Hp} {o0 : Option Nat} {o1 : Option Nat} {o2 : Option Nat} {o3 : Option Nat} {x4 : Int32} {u0 : Int32} {u1 : Int32}  (C : CmI X mL_law d mc ms pp) (hc : cells ≤ mc) (hs : slots ≤ ms)  (k0 : u1 = u0 → At X cells slots 53 [some (va_rf o0), some (va_rf o1), some (va_rf o2), some (va_rf o3), some (.int (x4 + 4)), none, none] [] h) (k1 : ¬ u1 = u0 → pp 0 h) : At X cells slots 592 [some (va_rf o0), some (va_rf o1), some (va_rf o2), some (va_rf o3), some (.int x4), none, none] [.int u0, .int u1] h := by
  refine st_icmp_eq (pc := 592) (tgt := 752) C.1 dL_law_592 (by decide) (fun c0 => ?_) (fun c0 => ?_)
  · refine sv_iinc (pc := 752) (i := 4) (v := x4 + 4) C.1 [some (va_rf o0), some (va_rf o1), some (va_rf o2), some (va_rf o3), some (.int (x4 + 4)), none, none] dL_law_752 rfl rfl (by rw [C.2.1]; exact Nat.le_of_ble_eq_true rfl) (l1_rf (o := o3) rfl) rfl ?_
    refine st_goto (pc := 755) (tgt := 53) C.1 dL_law_755 (by decide) ?_
    exact (k0 c0)
  · refine st_iconst (pc := 595) (v := 0) C.1 dL_law_595 (by decide) ?_
    exact rt_i C (Or.inr ⟨rfl, (Or.inl rfl)⟩) dL_law_596 hc hs ⟨_, rfl, (k1 c0)⟩

theorem sgL_law_607 {X : CX} {d mc ms cells slots : Nat} {pp : Int32 → Hp → Prop} {h : Hp} {b0 : Nat} {o1 : Option Nat} {o2 : Option Nat} {o3 : Option Nat} {x4 : Int32} {u0 : Int32}  (C : CmI X mL_law d mc ms pp) (h0 : h.K b0 = 20) (h1 : vp_in (x4 + 1) (h.N b0)) (k0 : At X cells slots 614 [some (va_rf (some b0)), some (va_rf o1), some (va_rf o2), some (va_rf o3), some (.int x4), none, none] [.int (h.AI b0 ((x4 + 1).toNatClampNeg)), va_rf o2, .int u0] h) : At X cells slots 607 [some (va_rf (some b0)), some (va_rf o1), some (va_rf o2), some (va_rf o3), some (.int x4), none, none] [.int u0] h := by
  refine st_aload_n (pc := 607) C.1 o2 dL_law_607 rfl rfl ?_
  refine st_aload_n (pc := 608) C.1 (some b0) dL_law_608 rfl rfl ?_
  refine st_iload (pc := 609) C.1 dL_law_609 rfl ?_
  refine st_iconst (pc := 611) (v := 1) C.1 dL_law_611 (by decide) ?_
  refine st_iadd (pc := 612) C.1 dL_law_612 ?_
  refine st_saload (pc := 613) C.1 dL_law_613 h0 h1 ?_
  exact k0

theorem sgL_law_617 {X : CX} {d mc ms cells slots : Nat} {pp : Int32 → Hp → Prop} {h : Hp} {o0 : Option Nat} {o1 : Option Nat} {o2 : Option Nat} {o3 : Option Nat} {x4 : Int32} {u0 : Int32} {u1 : Int32}  (C : CmI X mL_law d mc ms pp) (hc : cells ≤ mc) (hs : slots ≤ ms)  (k0 : u1 = u0 → At X cells slots 53 [some (va_rf o0), some (va_rf o1), some (va_rf o2), some (va_rf o3), some (.int (x4 + 4)), none, none] [] h) (k1 : ¬ u1 = u0 → pp 0 h) : At X cells slots 617 [some (va_rf o0), some (va_rf o1), some (va_rf o2), some (va_rf o3), some (.int x4), none, none] [.int u0, .int u1] h := by
  refine st_icmp_eq (pc := 617) (tgt := 752) C.1 dL_law_617 (by decide) (fun c0 => ?_) (fun c0 => ?_)
  · refine sv_iinc (pc := 752) (i := 4) (v := x4 + 4) C.1 [some (va_rf o0), some (va_rf o1), some (va_rf o2), some (va_rf o3), some (.int (x4 + 4)), none, none] dL_law_752 rfl rfl (by rw [C.2.1]; exact Nat.le_of_ble_eq_true rfl) (l1_rf (o := o3) rfl) rfl ?_
    refine st_goto (pc := 755) (tgt := 53) C.1 dL_law_755 (by decide) ?_
    exact (k0 c0)
  · refine st_iconst (pc := 620) (v := 0) C.1 dL_law_620 (by decide) ?_
    exact rt_i C (Or.inr ⟨rfl, (Or.inl rfl)⟩) dL_law_621 hc hs ⟨_, rfl, (k1 c0)⟩

theorem sgL_law_638 {X : CX} {d mc ms cells slots : Nat} {pp : Int32 → Hp → Prop} {h : Hp} {b0 : Nat} {o1 : Option Nat} {o2 : Option Nat} {o3 : Option Nat} {x4 : Int32} {u0 : Int32}  (C : CmI X mL_law d mc ms pp) (h0 : h.K b0 = 20) (h1 : vp_in (x4 + 1) (h.N b0)) (h2 : vp_in (x4 + 2) (h.N b0)) (k0 : At X cells slots 651 [some (va_rf (some b0)), some (va_rf o1), some (va_rf o2), some (va_rf o3), some (.int x4), none, none] [.int (h.AI b0 ((x4 + 2).toNatClampNeg)), .int (h.AI b0 ((x4 + 1).toNatClampNeg)), va_rf o2, .int u0] h) : At X cells slots 638 [some (va_rf (some b0)), some (va_rf o1), some (va_rf o2), some (va_rf o3), some (.int x4), none, none] [.int u0] h := by
  refine st_aload_n (pc := 638) C.1 o2 dL_law_638 rfl rfl ?_
  refine st_aload_n (pc := 639) C.1 (some b0) dL_law_639 rfl rfl ?_
  refine st_iload (pc := 640) C.1 dL_law_640 rfl ?_
  refine st_iconst (pc := 642) (v := 1) C.1 dL_law_642 (by decide) ?_
  refine st_iadd (pc := 643) C.1 dL_law_643 ?_
  refine st_saload (pc := 644) C.1 dL_law_644 h0 h1 ?_
  refine st_aload_n (pc := 645) C.1 (some b0) dL_law_645 rfl rfl ?_
  refine st_iload (pc := 646) C.1 dL_law_646 rfl ?_
  refine st_iconst (pc := 648) (v := 2) C.1 dL_law_648 (by decide) ?_
  refine st_iadd (pc := 649) C.1 dL_law_649 ?_
  refine st_saload (pc := 650) C.1 dL_law_650 h0 h2 ?_
  exact k0

theorem sgL_law_654 {X : CX} {d mc ms cells slots : Nat} {pp : Int32 → Hp → Prop} {h : Hp} {o0 : Option Nat} {o1 : Option Nat} {o2 : Option Nat} {o3 : Option Nat} {x4 : Int32} {u0 : Int32} {u1 : Int32}  (C : CmI X mL_law d mc ms pp) (hc : cells ≤ mc) (hs : slots ≤ ms)  (k0 : u1 = u0 → At X cells slots 53 [some (va_rf o0), some (va_rf o1), some (va_rf o2), some (va_rf o3), some (.int (x4 + 4)), none, none] [] h) (k1 : ¬ u1 = u0 → pp 0 h) : At X cells slots 654 [some (va_rf o0), some (va_rf o1), some (va_rf o2), some (va_rf o3), some (.int x4), none, none] [.int u0, .int u1] h := by
  refine st_icmp_eq (pc := 654) (tgt := 752) C.1 dL_law_654 (by decide) (fun c0 => ?_) (fun c0 => ?_)
  · refine sv_iinc (pc := 752) (i := 4) (v := x4 + 4) C.1 [some (va_rf o0), some (va_rf o1), some (va_rf o2), some (va_rf o3), some (.int (x4 + 4)), none, none] dL_law_752 rfl rfl (by rw [C.2.1]; exact Nat.le_of_ble_eq_true rfl) (l1_rf (o := o3) rfl) rfl ?_
    refine st_goto (pc := 755) (tgt := 53) C.1 dL_law_755 (by decide) ?_
    exact (k0 c0)
  · refine st_iconst (pc := 657) (v := 0) C.1 dL_law_657 (by decide) ?_
    exact rt_i C (Or.inr ⟨rfl, (Or.inl rfl)⟩) dL_law_658 hc hs ⟨_, rfl, (k1 c0)⟩

theorem sgL_law_669 {X : CX} {d mc ms cells slots : Nat} {pp : Int32 → Hp → Prop} {h : Hp} {b0 : Nat} {o1 : Option Nat} {o2 : Option Nat} {o3 : Option Nat} {x4 : Int32} {u0 : Int32}  (C : CmI X mL_law d mc ms pp) (h0 : h.K b0 = 20) (h1 : vp_in (x4 + 1) (h.N b0)) (k0 : At X cells slots 676 [some (va_rf (some b0)), some (va_rf o1), some (va_rf o2), some (va_rf o3), some (.int x4), none, none] [.int (h.AI b0 ((x4 + 1).toNatClampNeg)), va_rf o2, .int u0] h) : At X cells slots 669 [some (va_rf (some b0)), some (va_rf o1), some (va_rf o2), some (va_rf o3), some (.int x4), none, none] [.int u0] h := by
  refine st_aload_n (pc := 669) C.1 o2 dL_law_669 rfl rfl ?_
  refine st_aload_n (pc := 670) C.1 (some b0) dL_law_670 rfl rfl ?_
  refine st_iload (pc := 671) C.1 dL_law_671 rfl ?_
  refine st_iconst (pc := 673) (v := 1) C.1 dL_law_673 (by decide) ?_
  refine st_iadd (pc := 674) C.1 dL_law_674 ?_
  refine st_saload (pc := 675) C.1 dL_law_675 h0 h1 ?_
  exact k0

theorem sgL_law_679 {X : CX} {d mc ms cells slots : Nat} {pp : Int32 → Hp → Prop} {h : Hp} {o0 : Option Nat} {o1 : Option Nat} {o2 : Option Nat} {o3 : Option Nat} {x4 : Int32} {u0 : Int32} {u1 : Int32}  (C : CmI X mL_law d mc ms pp) (hc : cells ≤ mc) (hs : slots ≤ ms)  (k0 : u1 = u0 → At X cells slots 53 [some (va_rf o0), some (va_rf o1), some (va_rf o2), some (va_rf o3), some (.int (x4 + 4)), none, none] [] h) (k1 : ¬ u1 = u0 → pp 0 h) : At X cells slots 679 [some (va_rf o0), some (va_rf o1), some (va_rf o2), some (va_rf o3), some (.int x4), none, none] [.int u0, .int u1] h := by
  refine st_icmp_eq (pc := 679) (tgt := 752) C.1 dL_law_679 (by decide) (fun c0 => ?_) (fun c0 => ?_)
  · refine sv_iinc (pc := 752) (i := 4) (v := x4 + 4) C.1 [some (va_rf o0), some (va_rf o1), some (va_rf o2), some (va_rf o3), some (.int (x4 + 4)), none, none] dL_law_752 rfl rfl (by rw [C.2.1]; exact Nat.le_of_ble_eq_true rfl) (l1_rf (o := o3) rfl) rfl ?_
    refine st_goto (pc := 755) (tgt := 53) C.1 dL_law_755 (by decide) ?_
    exact (k0 c0)
  · refine st_iconst (pc := 682) (v := 0) C.1 dL_law_682 (by decide) ?_
    exact rt_i C (Or.inr ⟨rfl, (Or.inl rfl)⟩) dL_law_683 hc hs ⟨_, rfl, (k1 c0)⟩

theorem sgL_law_701 {X : CX} {d mc ms cells slots : Nat} {pp : Int32 → Hp → Prop} {h : Hp} {b0 : Nat} {o1 : Option Nat} {o2 : Option Nat} {o3 : Option Nat} {x4 : Int32} {u0 : Int32}  (C : CmI X mL_law d mc ms pp) (h0 : h.K b0 = 20) (h1 : vp_in (x4 + 1) (h.N b0)) (h2 : vp_in (x4 + 2) (h.N b0)) (k0 : At X cells slots 716 [some (va_rf (some b0)), some (va_rf o1), some (va_rf o2), some (va_rf o3), some (.int x4), some (.int u0), none] [.int (h.AI b0 ((x4 + 2).toNatClampNeg)), .int (h.AI b0 ((x4 + 1).toNatClampNeg)), va_rf o2] h) : At X cells slots 701 [some (va_rf (some b0)), some (va_rf o1), some (va_rf o2), some (va_rf o3), some (.int x4), none, none] [.int u0] h := by
  refine sv_istore (pc := 701) (i := 5) C.1 [some (va_rf (some b0)), some (va_rf o1), some (va_rf o2), some (va_rf o3), some (.int x4), some (.int u0), none] dL_law_701 (Nat.le_of_ble_eq_true rfl) (by rw [C.2.1]; exact Nat.le_of_ble_eq_true rfl) rfl rfl ?_
  refine st_aload_n (pc := 703) C.1 o2 dL_law_703 rfl rfl ?_
  refine st_aload_n (pc := 704) C.1 (some b0) dL_law_704 rfl rfl ?_
  refine st_iload (pc := 705) C.1 dL_law_705 rfl ?_
  refine st_iconst (pc := 707) (v := 1) C.1 dL_law_707 (by decide) ?_
  refine st_iadd (pc := 708) C.1 dL_law_708 ?_
  refine st_saload (pc := 709) C.1 dL_law_709 h0 h1 ?_
  refine st_aload_n (pc := 710) C.1 (some b0) dL_law_710 rfl rfl ?_
  refine st_iload (pc := 711) C.1 dL_law_711 rfl ?_
  refine st_iconst (pc := 713) (v := 2) C.1 dL_law_713 (by decide) ?_
  refine st_iadd (pc := 714) C.1 dL_law_714 ?_
  refine st_saload (pc := 715) C.1 dL_law_715 h0 h2 ?_
  exact k0

theorem sgL_law_719 {X : CX} {d mc ms cells slots : Nat} {pp : Int32 → Hp → Prop} {h : Hp} {o0 : Option Nat} {o1 : Option Nat} {o2 : Option Nat} {o3 : Option Nat} {x4 : Int32} {x5 : Int32} {u0 : Int32}  (C : CmI X mL_law d mc ms pp)  (k0 : At X cells slots 722 [some (va_rf o0), some (va_rf o1), some (va_rf o2), some (va_rf o3), some (.int x4), some (.int x5), some (.int u0)] [va_rf o2] h) : At X cells slots 719 [some (va_rf o0), some (va_rf o1), some (va_rf o2), some (va_rf o3), some (.int x4), some (.int x5), none] [.int u0] h := by
  refine sv_istore (pc := 719) (i := 6) C.1 [some (va_rf o0), some (va_rf o1), some (va_rf o2), some (va_rf o3), some (.int x4), some (.int x5), some (.int u0)] dL_law_719 (Nat.le_of_ble_eq_true rfl) (by rw [C.2.1]; exact Nat.le_of_ble_eq_true rfl) rfl rfl ?_
  refine st_aload_n (pc := 721) C.1 o2 dL_law_721 rfl rfl ?_
  exact k0

theorem sgL_law_725 {X : CX} {d mc ms cells slots : Nat} {pp : Int32 → Hp → Prop} {h : Hp} {o0 : Option Nat} {o1 : Option Nat} {o2 : Option Nat} {b3 : Nat} {x4 : Int32} {x5 : Int32} {x6 : Int32} {u0 : Int32}  (C : CmI X mL_law d mc ms pp) (hc : cells ≤ mc) (hs : slots ≤ ms) (h0 : h.K b3 = 15) (h1 : u0 = x5 → x5 = 0 → vp_in 0 (h.N b3)) (k0 : u0 = x5 → ¬ x5 = 0 → At X cells slots 53 [some (va_rf o0), some (va_rf o1), some (va_rf o2), some (va_rf (some b3)), some (.int (x4 + 4)), some (.int x5), some (.int x6)] [] h) (k1 : u0 = x5 → x5 = 0 → lg_cmp (h.AL b3 ((0 : Int32).toNatClampNeg)) x6.toInt64 = 0 → At X cells slots 53 [some (va_rf o0), some (va_rf o1), some (va_rf o2), some (va_rf (some b3)), some (.int (x4 + 4)), some (.int x5), some (.int x6)] [] h) (k2 : u0 = x5 → x5 = 0 → ¬ lg_cmp (h.AL b3 ((0 : Int32).toNatClampNeg)) x6.toInt64 = 0 → pp 0 h) (k3 : ¬ u0 = x5 → pp 0 h) : At X cells slots 725 [some (va_rf o0), some (va_rf o1), some (va_rf o2), some (va_rf (some b3)), some (.int x4), some (.int x5), some (.int x6)] [.int u0] h := by
  refine st_iload (pc := 725) C.1 dL_law_725 rfl ?_
  refine st_icmp_eq (pc := 727) (tgt := 732) C.1 dL_law_727 (by decide) (fun c0 => ?_) (fun c0 => ?_)
  · refine st_iload (pc := 732) C.1 dL_law_732 rfl ?_
    refine st_if_ne (pc := 734) (tgt := 749) C.1 dL_law_734 (by decide) (fun c1 => ?_) (fun c1 => ?_)
    · refine st_goto (pc := 749) (tgt := 752) C.1 dL_law_749 (by decide) ?_
      refine sv_iinc (pc := 752) (i := 4) (v := x4 + 4) C.1 [some (va_rf o0), some (va_rf o1), some (va_rf o2), some (va_rf (some b3)), some (.int (x4 + 4)), some (.int x5), some (.int x6)] dL_law_752 rfl rfl (by rw [C.2.1]; exact Nat.le_of_ble_eq_true rfl) rfl rfl ?_
      refine st_goto (pc := 755) (tgt := 53) C.1 dL_law_755 (by decide) ?_
      exact (k0 c0 c1)
    · refine st_aload_n (pc := 737) C.1 (some b3) dL_law_737 rfl rfl ?_
      refine st_iconst (pc := 738) (v := 0) C.1 dL_law_738 (by decide) ?_
      refine sv_laload (pc := 739) C.1 (h.AL b3 ((0 : Int32).toNatClampNeg)) dL_law_739 h0 (h1 c0 c1) rfl ?_
      refine st_iload (pc := 740) C.1 dL_law_740 rfl ?_
      refine st_i2l (pc := 742) C.1 dL_law_742 ?_
      refine st_lcmp (pc := 743) C.1 dL_law_743 ?_
      refine st_if_eq (pc := 744) (tgt := 749) C.1 dL_law_744 (by decide) (fun c2 => ?_) (fun c2 => ?_)
      · refine st_goto (pc := 749) (tgt := 752) C.1 dL_law_749 (by decide) ?_
        refine sv_iinc (pc := 752) (i := 4) (v := x4 + 4) C.1 [some (va_rf o0), some (va_rf o1), some (va_rf o2), some (va_rf (some b3)), some (.int (x4 + 4)), some (.int x5), some (.int x6)] dL_law_752 rfl rfl (by rw [C.2.1]; exact Nat.le_of_ble_eq_true rfl) rfl rfl ?_
        refine st_goto (pc := 755) (tgt := 53) C.1 dL_law_755 (by decide) ?_
        exact (k1 c0 c1 c2)
      · refine st_iconst (pc := 747) (v := 0) C.1 dL_law_747 (by decide) ?_
        exact rt_i C (Or.inr ⟨rfl, (Or.inl rfl)⟩) dL_law_748 hc hs ⟨_, rfl, (k2 c0 c1 c2)⟩
  · refine st_iconst (pc := 730) (v := 0) C.1 dL_law_730 (by decide) ?_
    exact rt_i C (Or.inr ⟨rfl, (Or.inl rfl)⟩) dL_law_731 hc hs ⟨_, rfl, (k3 c0)⟩

theorem nwL_law_0 {X : CX} {d0 mc0 ms0 cells slots : Nat} {pp : Int32 → Hp → Prop} {h : Hp} {ls : List (Option Value)} {st : List Value} (C : CmI X mL_law d0 mc0 ms0 pp) (hmc : cells + 1 ≤ mc0) (hms : slots + 13 ≤ ms0) (kk : ∀ q, h.K q = 0 → At X (cells + 1) (slots + 13) 3 ls (va_rf (some q) :: st) (h.nw q 9 0)) : At X cells slots 0 ls st h :=
  st_new (pc := 0) (ci := 8) C.1 rfl gX8 tyX8_ok wK_RL_8 wN_RX8 wI_RX8 dL_law_0 (by decide) (by decide) (by rw [C.2.2.1]; exact hmc) (by rw [C.2.2.1]; exact hms) kk
theorem clL_law_6 {X : CX} {d0 mc0 ms0 d mc ms cells slots : Nat} {pp : Int32 → Hp → Prop} {h : Hp} {ls : List (Option Value)} {rest : List Value} {a0 a1 : Value} {post : Int32 → Hp → Prop} (C : CmI X mL_law d0 mc0 ms0 pp) (hct : CtI mL_cell d mc ms [a0, a1] h post) (hdd : d < d0) (hmc : cells + mc ≤ mc0) (hms : slots + ms ≤ ms0) (hcat : (rest.map fun v => v.category).sum ≤ 8) (kk : ∀ r h', post r h' → At X (cells + mc) (slots + ms) 9 ls (.int r :: rest) h') : At X cells slots 6 ls (a1 :: a0 :: rest) h :=
  st_callS (pc := 6) (M := mL_cell) (idx := 18) (As := [a0, a1]) C.1 C.2.2.1 C.2.2.2.2.2.2 (n := 2) ⟨wM_RL_18, wC_L_cell, wI_RL, by decide +kernel, by decide⟩ wT_L_cell dL_law_6 rfl hdd hcat hct hmc hms (fun v h2 hp => by obtain ⟨r, rfl, hp⟩ := hp; exact kk r h2 hp)
theorem clL_law_11 {X : CX} {d0 mc0 ms0 d mc ms cells slots : Nat} {pp : Int32 → Hp → Prop} {h : Hp} {ls : List (Option Value)} {rest : List Value} {a0 a1 : Value} {post : Int32 → Hp → Prop} (C : CmI X mL_law d0 mc0 ms0 pp) (hct : CtI mL_cell d mc ms [a0, a1] h post) (hdd : d < d0) (hmc : cells + mc ≤ mc0) (hms : slots + ms ≤ ms0) (hcat : (rest.map fun v => v.category).sum ≤ 8) (kk : ∀ r h', post r h' → At X (cells + mc) (slots + ms) 14 ls (.int r :: rest) h') : At X cells slots 11 ls (a1 :: a0 :: rest) h :=
  st_callS (pc := 11) (M := mL_cell) (idx := 18) (As := [a0, a1]) C.1 C.2.2.1 C.2.2.2.2.2.2 (n := 2) ⟨wM_RL_18, wC_L_cell, wI_RL, by decide +kernel, by decide⟩ wT_L_cell dL_law_11 rfl hdd hcat hct hmc hms (fun v h2 hp => by obtain ⟨r, rfl, hp⟩ := hp; exact kk r h2 hp)
theorem clL_law_16 {X : CX} {d0 mc0 ms0 d mc ms cells slots : Nat} {pp : Int32 → Hp → Prop} {h : Hp} {ls : List (Option Value)} {rest : List Value} {a0 a1 : Value} {post : Int32 → Hp → Prop} (C : CmI X mL_law d0 mc0 ms0 pp) (hct : CtI mL_cell d mc ms [a0, a1] h post) (hdd : d < d0) (hmc : cells + mc ≤ mc0) (hms : slots + ms ≤ ms0) (hcat : (rest.map fun v => v.category).sum ≤ 8) (kk : ∀ r h', post r h' → At X (cells + mc) (slots + ms) 19 ls (.int r :: rest) h') : At X cells slots 16 ls (a1 :: a0 :: rest) h :=
  st_callS (pc := 16) (M := mL_cell) (idx := 18) (As := [a0, a1]) C.1 C.2.2.1 C.2.2.2.2.2.2 (n := 2) ⟨wM_RL_18, wC_L_cell, wI_RL, by decide +kernel, by decide⟩ wT_L_cell dL_law_16 rfl hdd hcat hct hmc hms (fun v h2 hp => by obtain ⟨r, rfl, hp⟩ := hp; exact kk r h2 hp)
theorem clL_law_19 {X : CX} {d0 mc0 ms0 d mc ms cells slots : Nat} {pp : Int32 → Hp → Prop} {h : Hp} {ls : List (Option Value)} {rest : List Value} {b : Nat} {a0 a1 a2 : Value} {post : Hp → Prop} (C : CmI X mL_law d0 mc0 ms0 pp) (hct : CtV mX8_init d mc ms [va_rf (some b), a0, a1, a2] h post) (hdd : d < d0) (hmc : cells + mc ≤ mc0) (hms : slots + ms ≤ ms0) (hcat : (rest.map fun v => v.category).sum ≤ 8) (kk : ∀ h', post h' → At X (cells + mc) (slots + ms) 22 ls rest h') : At X cells slots 19 ls (a2 :: a1 :: a0 :: va_rf (some b) :: rest) h :=
  st_callI (pc := 19) (M := mX8_init) (idx := 24) (As := [a0, a1, a2]) C.1 C.2.2.1 C.2.2.2.2.2.2 rfl (n := 3) ⟨wM_RL_24, wC_X8_init, wI_RX8, by decide +kernel, by decide⟩ wV_X8_init rfl dL_law_19 rfl hdd hcat hct hmc hms (fun v h2 hp => by obtain ⟨rfl, hp⟩ := hp; exact kk h2 hp)
theorem nwL_law_23 {X : CX} {d0 mc0 ms0 cells slots : Nat} {pp : Int32 → Hp → Prop} {h : Hp} {ls : List (Option Value)} {st : List Value} (C : CmI X mL_law d0 mc0 ms0 pp) (hmc : cells + 1 ≤ mc0) (hms : slots + 33 ≤ ms0) (kk : ∀ q, h.K q = 0 → At X (cells + 1) (slots + 33) 26 ls (va_rf (some q) :: st) (h.nw q 10 0)) : At X cells slots 23 ls st h :=
  st_new (pc := 23) (ci := 9) C.1 rfl gX9 tyX9_ok wK_RL_27 wN_RX9 wI_RX9 dL_law_23 (by decide) (by decide) (by rw [C.2.2.1]; exact hmc) (by rw [C.2.2.1]; exact hms) kk
theorem clL_law_29 {X : CX} {d0 mc0 ms0 d mc ms cells slots : Nat} {pp : Int32 → Hp → Prop} {h : Hp} {ls : List (Option Value)} {rest : List Value} {a0 a1 : Value} {post : Int32 → Hp → Prop} (C : CmI X mL_law d0 mc0 ms0 pp) (hct : CtI mL_cell d mc ms [a0, a1] h post) (hdd : d < d0) (hmc : cells + mc ≤ mc0) (hms : slots + ms ≤ ms0) (hcat : (rest.map fun v => v.category).sum ≤ 8) (kk : ∀ r h', post r h' → At X (cells + mc) (slots + ms) 32 ls (.int r :: rest) h') : At X cells slots 29 ls (a1 :: a0 :: rest) h :=
  st_callS (pc := 29) (M := mL_cell) (idx := 18) (As := [a0, a1]) C.1 C.2.2.1 C.2.2.2.2.2.2 (n := 2) ⟨wM_RL_18, wC_L_cell, wI_RL, by decide +kernel, by decide⟩ wT_L_cell dL_law_29 rfl hdd hcat hct hmc hms (fun v h2 hp => by obtain ⟨r, rfl, hp⟩ := hp; exact kk r h2 hp)
theorem clL_law_34 {X : CX} {d0 mc0 ms0 d mc ms cells slots : Nat} {pp : Int32 → Hp → Prop} {h : Hp} {ls : List (Option Value)} {rest : List Value} {a0 a1 : Value} {post : Int32 → Hp → Prop} (C : CmI X mL_law d0 mc0 ms0 pp) (hct : CtI mL_cell d mc ms [a0, a1] h post) (hdd : d < d0) (hmc : cells + mc ≤ mc0) (hms : slots + ms ≤ ms0) (hcat : (rest.map fun v => v.category).sum ≤ 8) (kk : ∀ r h', post r h' → At X (cells + mc) (slots + ms) 37 ls (.int r :: rest) h') : At X cells slots 34 ls (a1 :: a0 :: rest) h :=
  st_callS (pc := 34) (M := mL_cell) (idx := 18) (As := [a0, a1]) C.1 C.2.2.1 C.2.2.2.2.2.2 (n := 2) ⟨wM_RL_18, wC_L_cell, wI_RL, by decide +kernel, by decide⟩ wT_L_cell dL_law_34 rfl hdd hcat hct hmc hms (fun v h2 hp => by obtain ⟨r, rfl, hp⟩ := hp; exact kk r h2 hp)
theorem clL_law_39 {X : CX} {d0 mc0 ms0 d mc ms cells slots : Nat} {pp : Int32 → Hp → Prop} {h : Hp} {ls : List (Option Value)} {rest : List Value} {a0 a1 : Value} {post : Int32 → Hp → Prop} (C : CmI X mL_law d0 mc0 ms0 pp) (hct : CtI mL_cell d mc ms [a0, a1] h post) (hdd : d < d0) (hmc : cells + mc ≤ mc0) (hms : slots + ms ≤ ms0) (hcat : (rest.map fun v => v.category).sum ≤ 8) (kk : ∀ r h', post r h' → At X (cells + mc) (slots + ms) 42 ls (.int r :: rest) h') : At X cells slots 39 ls (a1 :: a0 :: rest) h :=
  st_callS (pc := 39) (M := mL_cell) (idx := 18) (As := [a0, a1]) C.1 C.2.2.1 C.2.2.2.2.2.2 (n := 2) ⟨wM_RL_18, wC_L_cell, wI_RL, by decide +kernel, by decide⟩ wT_L_cell dL_law_39 rfl hdd hcat hct hmc hms (fun v h2 hp => by obtain ⟨r, rfl, hp⟩ := hp; exact kk r h2 hp)
theorem clL_law_42 {X : CX} {d0 mc0 ms0 d mc ms cells slots : Nat} {pp : Int32 → Hp → Prop} {h : Hp} {ls : List (Option Value)} {rest : List Value} {b : Nat} {a0 a1 a2 : Value} {post : Hp → Prop} (C : CmI X mL_law d0 mc0 ms0 pp) (hct : CtV mX9_init d mc ms [va_rf (some b), a0, a1, a2] h post) (hdd : d < d0) (hmc : cells + mc ≤ mc0) (hms : slots + ms ≤ ms0) (hcat : (rest.map fun v => v.category).sum ≤ 8) (kk : ∀ h', post h' → At X (cells + mc) (slots + ms) 45 ls rest h') : At X cells slots 42 ls (a2 :: a1 :: a0 :: va_rf (some b) :: rest) h :=
  st_callI (pc := 42) (M := mX9_init) (idx := 29) (As := [a0, a1, a2]) C.1 C.2.2.1 C.2.2.2.2.2.2 rfl (n := 3) ⟨wM_RL_29, wC_X9_init, wI_RX9, by decide +kernel, by decide⟩ wV_X9_init rfl dL_law_42 rfl hdd hcat hct hmc hms (fun v h2 hp => by obtain ⟨rfl, hp⟩ := hp; exact kk h2 hp)
theorem nwL_law_47 {X : CX} {d0 mc0 ms0 cells slots : Nat} {pp : Int32 → Hp → Prop} {h : Hp} {ls : List (Option Value)} {st : List Value} {n : Int32} (C : CmI X mL_law d0 mc0 ms0 pp) (hn : ¬ n < 0) (hb : n.toNatClampNeg ≤ 60000000) (hmc : cells + 1 ≤ mc0) (hms : slots + n.toNatClampNeg ≤ ms0) (kk : ∀ q, h.K q = 0 → At X (cells + 1) (slots + n.toNatClampNeg) 49 ls (va_rf (some q) :: st) (h.nw q 15 n.toNatClampNeg)) : At X cells slots 47 ls (.int n :: st) h :=
  st_newarray (pc := 47) C.1 15 4 (by simp) wA_long dL_law_47 hn hb (by rw [C.2.2.1]; exact hmc) (by rw [C.2.2.1]; exact hms) kk
theorem clL_law_163 {X : CX} {d0 mc0 ms0 d mc ms cells slots : Nat} {pp : Int32 → Hp → Prop} {h : Hp} {ls : List (Option Value)} {rest : List Value} {b : Nat} {a0 : Value} {post : Int32 → Hp → Prop} (C : CmI X mL_law d0 mc0 ms0 pp) (hct : CtI mX8_alloc d mc ms [va_rf (some b), a0] h post) (hK : h.K b = 9) (hdd : d < d0) (hmc : cells + mc ≤ mc0) (hms : slots + ms ≤ ms0) (hcat : (rest.map fun v => v.category).sum ≤ 8) (kk : ∀ r h', post r h' → At X (cells + mc) (slots + ms) 166 ls (.int r :: rest) h') : At X cells slots 163 ls (a0 :: va_rf (some b) :: rest) h :=
  st_callV (pc := 163) (M := mX8_alloc) (idx := 30) (As := [a0]) C.1 C.2.2.1 C.2.2.2.2.2.2 ⟨wM_RL_30, wC_X8_alloc, wI_RX8, by decide +kernel, by decide⟩ wV_X8_alloc wS_X8_alloc (ci := 8) (n := 1) rfl rfl (by decide) dL_law_163 rfl hdd hcat hK hct hmc hms (fun v h2 hp => by obtain ⟨r, rfl, hp⟩ := hp; exact kk r h2 hp)
theorem clL_law_173 {X : CX} {d0 mc0 ms0 d mc ms cells slots : Nat} {pp : Int32 → Hp → Prop} {h : Hp} {ls : List (Option Value)} {rest : List Value} {b : Nat} {a0 : Value} {post : Int32 → Hp → Prop} (C : CmI X mL_law d0 mc0 ms0 pp) (hct : CtI mX9_alloc d mc ms [va_rf (some b), a0] h post) (hK : h.K b = 10) (hdd : d < d0) (hmc : cells + mc ≤ mc0) (hms : slots + ms ≤ ms0) (hcat : (rest.map fun v => v.category).sum ≤ 8) (kk : ∀ r h', post r h' → At X (cells + mc) (slots + ms) 176 ls (.int r :: rest) h') : At X cells slots 173 ls (a0 :: va_rf (some b) :: rest) h :=
  st_callV (pc := 173) (M := mX9_alloc) (idx := 34) (As := [a0]) C.1 C.2.2.1 C.2.2.2.2.2.2 ⟨wM_RL_34, wC_X9_alloc, wI_RX9, by decide +kernel, by decide⟩ wV_X9_alloc wS_X9_alloc (ci := 9) (n := 1) rfl rfl (by decide) dL_law_173 rfl hdd hcat hK hct hmc hms (fun v h2 hp => by obtain ⟨r, rfl, hp⟩ := hp; exact kk r h2 hp)
theorem clL_law_188 {X : CX} {d0 mc0 ms0 d mc ms cells slots : Nat} {pp : Int32 → Hp → Prop} {h : Hp} {ls : List (Option Value)} {rest : List Value} {b : Nat} {a0 : Value} {post : Int32 → Hp → Prop} (C : CmI X mL_law d0 mc0 ms0 pp) (hct : CtI mX8_free d mc ms [va_rf (some b), a0] h post) (hK : h.K b = 9) (hdd : d < d0) (hmc : cells + mc ≤ mc0) (hms : slots + ms ≤ ms0) (hcat : (rest.map fun v => v.category).sum ≤ 8) (kk : ∀ r h', post r h' → At X (cells + mc) (slots + ms) 191 ls (.int r :: rest) h') : At X cells slots 188 ls (a0 :: va_rf (some b) :: rest) h :=
  st_callV (pc := 188) (M := mX8_free) (idx := 35) (As := [a0]) C.1 C.2.2.1 C.2.2.2.2.2.2 ⟨wM_RL_35, wC_X8_free, wI_RX8, by decide +kernel, by decide⟩ wV_X8_free wS_X8_free (ci := 8) (n := 1) rfl rfl (by decide) dL_law_188 rfl hdd hcat hK hct hmc hms (fun v h2 hp => by obtain ⟨r, rfl, hp⟩ := hp; exact kk r h2 hp)
theorem clL_law_198 {X : CX} {d0 mc0 ms0 d mc ms cells slots : Nat} {pp : Int32 → Hp → Prop} {h : Hp} {ls : List (Option Value)} {rest : List Value} {b : Nat} {a0 : Value} {post : Int32 → Hp → Prop} (C : CmI X mL_law d0 mc0 ms0 pp) (hct : CtI mX9_free d mc ms [va_rf (some b), a0] h post) (hK : h.K b = 10) (hdd : d < d0) (hmc : cells + mc ≤ mc0) (hms : slots + ms ≤ ms0) (hcat : (rest.map fun v => v.category).sum ≤ 8) (kk : ∀ r h', post r h' → At X (cells + mc) (slots + ms) 201 ls (.int r :: rest) h') : At X cells slots 198 ls (a0 :: va_rf (some b) :: rest) h :=
  st_callV (pc := 198) (M := mX9_free) (idx := 38) (As := [a0]) C.1 C.2.2.1 C.2.2.2.2.2.2 ⟨wM_RL_38, wC_X9_free, wI_RX9, by decide +kernel, by decide⟩ wV_X9_free wS_X9_free (ci := 9) (n := 1) rfl rfl (by decide) dL_law_198 rfl hdd hcat hK hct hmc hms (fun v h2 hp => by obtain ⟨r, rfl, hp⟩ := hp; exact kk r h2 hp)
theorem clL_law_219 {X : CX} {d0 mc0 ms0 d mc ms cells slots : Nat} {pp : Int32 → Hp → Prop} {h : Hp} {ls : List (Option Value)} {rest : List Value} {b : Nat} {a0 a1 : Value} {post : Int32 → Hp → Prop} (C : CmI X mL_law d0 mc0 ms0 pp) (hct : CtI mX8_resize d mc ms [va_rf (some b), a0, a1] h post) (hK : h.K b = 9) (hdd : d < d0) (hmc : cells + mc ≤ mc0) (hms : slots + ms ≤ ms0) (hcat : (rest.map fun v => v.category).sum ≤ 8) (kk : ∀ r h', post r h' → At X (cells + mc) (slots + ms) 222 ls (.int r :: rest) h') : At X cells slots 219 ls (a1 :: a0 :: va_rf (some b) :: rest) h :=
  st_callV (pc := 219) (M := mX8_resize) (idx := 39) (As := [a0, a1]) C.1 C.2.2.1 C.2.2.2.2.2.2 ⟨wM_RL_39, wC_X8_resize, wI_RX8, by decide +kernel, by decide⟩ wV_X8_resize wS_X8_resize (ci := 8) (n := 2) rfl rfl (by decide) dL_law_219 rfl hdd hcat hK hct hmc hms (fun v h2 hp => by obtain ⟨r, rfl, hp⟩ := hp; exact kk r h2 hp)
theorem clL_law_235 {X : CX} {d0 mc0 ms0 d mc ms cells slots : Nat} {pp : Int32 → Hp → Prop} {h : Hp} {ls : List (Option Value)} {rest : List Value} {b : Nat} {a0 a1 : Value} {post : Int32 → Hp → Prop} (C : CmI X mL_law d0 mc0 ms0 pp) (hct : CtI mX9_resize d mc ms [va_rf (some b), a0, a1] h post) (hK : h.K b = 10) (hdd : d < d0) (hmc : cells + mc ≤ mc0) (hms : slots + ms ≤ ms0) (hcat : (rest.map fun v => v.category).sum ≤ 8) (kk : ∀ r h', post r h' → At X (cells + mc) (slots + ms) 238 ls (.int r :: rest) h') : At X cells slots 235 ls (a1 :: a0 :: va_rf (some b) :: rest) h :=
  st_callV (pc := 235) (M := mX9_resize) (idx := 42) (As := [a0, a1]) C.1 C.2.2.1 C.2.2.2.2.2.2 ⟨wM_RL_42, wC_X9_resize, wI_RX9, by decide +kernel, by decide⟩ wV_X9_resize wS_X9_resize (ci := 9) (n := 2) rfl rfl (by decide) dL_law_235 rfl hdd hcat hK hct hmc hms (fun v h2 hp => by obtain ⟨r, rfl, hp⟩ := hp; exact kk r h2 hp)
theorem clL_law_250 {X : CX} {d0 mc0 ms0 d mc ms cells slots : Nat} {pp : Int32 → Hp → Prop} {h : Hp} {ls : List (Option Value)} {rest : List Value} {b : Nat} {a0 : Value} {post : Int32 → Hp → Prop} (C : CmI X mL_law d0 mc0 ms0 pp) (hct : CtI mX8_load d mc ms [va_rf (some b), a0] h post) (hK : h.K b = 9) (hdd : d < d0) (hmc : cells + mc ≤ mc0) (hms : slots + ms ≤ ms0) (hcat : (rest.map fun v => v.category).sum ≤ 8) (kk : ∀ r h', post r h' → At X (cells + mc) (slots + ms) 253 ls (.int r :: rest) h') : At X cells slots 250 ls (a0 :: va_rf (some b) :: rest) h :=
  st_callV (pc := 250) (M := mX8_load) (idx := 43) (As := [a0]) C.1 C.2.2.1 C.2.2.2.2.2.2 ⟨wM_RL_43, wC_X8_load, wI_RX8, by decide +kernel, by decide⟩ wV_X8_load wS_X8_load (ci := 8) (n := 1) rfl rfl (by decide) dL_law_250 rfl hdd hcat hK hct hmc hms (fun v h2 hp => by obtain ⟨r, rfl, hp⟩ := hp; exact kk r h2 hp)
theorem clL_law_260 {X : CX} {d0 mc0 ms0 d mc ms cells slots : Nat} {pp : Int32 → Hp → Prop} {h : Hp} {ls : List (Option Value)} {rest : List Value} {b : Nat} {a0 : Value} {post : Int32 → Hp → Prop} (C : CmI X mL_law d0 mc0 ms0 pp) (hct : CtI mX9_load d mc ms [va_rf (some b), a0] h post) (hK : h.K b = 10) (hdd : d < d0) (hmc : cells + mc ≤ mc0) (hms : slots + ms ≤ ms0) (hcat : (rest.map fun v => v.category).sum ≤ 8) (kk : ∀ r h', post r h' → At X (cells + mc) (slots + ms) 263 ls (.int r :: rest) h') : At X cells slots 260 ls (a0 :: va_rf (some b) :: rest) h :=
  st_callV (pc := 260) (M := mX9_load) (idx := 46) (As := [a0]) C.1 C.2.2.1 C.2.2.2.2.2.2 ⟨wM_RL_46, wC_X9_load, wI_RX9, by decide +kernel, by decide⟩ wV_X9_load wS_X9_load (ci := 9) (n := 1) rfl rfl (by decide) dL_law_260 rfl hdd hcat hK hct hmc hms (fun v h2 hp => by obtain ⟨r, rfl, hp⟩ := hp; exact kk r h2 hp)
theorem clL_law_281 {X : CX} {d0 mc0 ms0 d mc ms cells slots : Nat} {pp : Int32 → Hp → Prop} {h : Hp} {ls : List (Option Value)} {rest : List Value} {b : Nat} {a0 a1 : Value} {post : Int32 → Hp → Prop} (C : CmI X mL_law d0 mc0 ms0 pp) (hct : CtI mX8_store d mc ms [va_rf (some b), a0, a1] h post) (hK : h.K b = 9) (hdd : d < d0) (hmc : cells + mc ≤ mc0) (hms : slots + ms ≤ ms0) (hcat : (rest.map fun v => v.category).sum ≤ 8) (kk : ∀ r h', post r h' → At X (cells + mc) (slots + ms) 284 ls (.int r :: rest) h') : At X cells slots 281 ls (a1 :: a0 :: va_rf (some b) :: rest) h :=
  st_callV (pc := 281) (M := mX8_store) (idx := 47) (As := [a0, a1]) C.1 C.2.2.1 C.2.2.2.2.2.2 ⟨wM_RL_47, wC_X8_store, wI_RX8, by decide +kernel, by decide⟩ wV_X8_store wS_X8_store (ci := 8) (n := 2) rfl rfl (by decide) dL_law_281 rfl hdd hcat hK hct hmc hms (fun v h2 hp => by obtain ⟨r, rfl, hp⟩ := hp; exact kk r h2 hp)
theorem clL_law_297 {X : CX} {d0 mc0 ms0 d mc ms cells slots : Nat} {pp : Int32 → Hp → Prop} {h : Hp} {ls : List (Option Value)} {rest : List Value} {b : Nat} {a0 a1 : Value} {post : Int32 → Hp → Prop} (C : CmI X mL_law d0 mc0 ms0 pp) (hct : CtI mX9_store d mc ms [va_rf (some b), a0, a1] h post) (hK : h.K b = 10) (hdd : d < d0) (hmc : cells + mc ≤ mc0) (hms : slots + ms ≤ ms0) (hcat : (rest.map fun v => v.category).sum ≤ 8) (kk : ∀ r h', post r h' → At X (cells + mc) (slots + ms) 300 ls (.int r :: rest) h') : At X cells slots 297 ls (a1 :: a0 :: va_rf (some b) :: rest) h :=
  st_callV (pc := 297) (M := mX9_store) (idx := 50) (As := [a0, a1]) C.1 C.2.2.1 C.2.2.2.2.2.2 ⟨wM_RL_50, wC_X9_store, wI_RX9, by decide +kernel, by decide⟩ wV_X9_store wS_X9_store (ci := 9) (n := 2) rfl rfl (by decide) dL_law_297 rfl hdd hcat hK hct hmc hms (fun v h2 hp => by obtain ⟨r, rfl, hp⟩ := hp; exact kk r h2 hp)
theorem clL_law_312 {X : CX} {d0 mc0 ms0 d mc ms cells slots : Nat} {pp : Int32 → Hp → Prop} {h : Hp} {ls : List (Option Value)} {rest : List Value} {b : Nat} {a0 : Value} {post : Int32 → Hp → Prop} (C : CmI X mL_law d0 mc0 ms0 pp) (hct : CtI mX8_check d mc ms [va_rf (some b), a0] h post) (hK : h.K b = 9) (hdd : d < d0) (hmc : cells + mc ≤ mc0) (hms : slots + ms ≤ ms0) (hcat : (rest.map fun v => v.category).sum ≤ 8) (kk : ∀ r h', post r h' → At X (cells + mc) (slots + ms) 315 ls (.int r :: rest) h') : At X cells slots 312 ls (a0 :: va_rf (some b) :: rest) h :=
  st_callV (pc := 312) (M := mX8_check) (idx := 51) (As := [a0]) C.1 C.2.2.1 C.2.2.2.2.2.2 ⟨wM_RL_51, wC_X8_check, wI_RX8, by decide +kernel, by decide⟩ wV_X8_check wS_X8_check (ci := 8) (n := 1) rfl rfl (by decide) dL_law_312 rfl hdd hcat hK hct hmc hms (fun v h2 hp => by obtain ⟨r, rfl, hp⟩ := hp; exact kk r h2 hp)
theorem clL_law_322 {X : CX} {d0 mc0 ms0 d mc ms cells slots : Nat} {pp : Int32 → Hp → Prop} {h : Hp} {ls : List (Option Value)} {rest : List Value} {b : Nat} {a0 : Value} {post : Int32 → Hp → Prop} (C : CmI X mL_law d0 mc0 ms0 pp) (hct : CtI mX9_check d mc ms [va_rf (some b), a0] h post) (hK : h.K b = 10) (hdd : d < d0) (hmc : cells + mc ≤ mc0) (hms : slots + ms ≤ ms0) (hcat : (rest.map fun v => v.category).sum ≤ 8) (kk : ∀ r h', post r h' → At X (cells + mc) (slots + ms) 325 ls (.int r :: rest) h') : At X cells slots 322 ls (a0 :: va_rf (some b) :: rest) h :=
  st_callV (pc := 322) (M := mX9_check) (idx := 54) (As := [a0]) C.1 C.2.2.1 C.2.2.2.2.2.2 ⟨wM_RL_54, wC_X9_check, wI_RX9, by decide +kernel, by decide⟩ wV_X9_check wS_X9_check (ci := 9) (n := 1) rfl rfl (by decide) dL_law_322 rfl hdd hcat hK hct hmc hms (fun v h2 hp => by obtain ⟨r, rfl, hp⟩ := hp; exact kk r h2 hp)
theorem clL_law_349 {X : CX} {d0 mc0 ms0 d mc ms cells slots : Nat} {pp : Int32 → Hp → Prop} {h : Hp} {ls : List (Option Value)} {rest : List Value} {b : Nat} {a0 a1 a2 : Value} {post : Int32 → Hp → Prop} (C : CmI X mL_law d0 mc0 ms0 pp) (hct : CtI mX8_copy d mc ms [va_rf (some b), a0, a1, a2] h post) (hK : h.K b = 9) (hdd : d < d0) (hmc : cells + mc ≤ mc0) (hms : slots + ms ≤ ms0) (hcat : (rest.map fun v => v.category).sum ≤ 8) (kk : ∀ r h', post r h' → At X (cells + mc) (slots + ms) 352 ls (.int r :: rest) h') : At X cells slots 349 ls (a2 :: a1 :: a0 :: va_rf (some b) :: rest) h :=
  st_callV (pc := 349) (M := mX8_copy) (idx := 55) (As := [a0, a1, a2]) C.1 C.2.2.1 C.2.2.2.2.2.2 ⟨wM_RL_55, wC_X8_copy, wI_RX8, by decide +kernel, by decide⟩ wV_X8_copy wS_X8_copy (ci := 8) (n := 3) rfl rfl (by decide) dL_law_349 rfl hdd hcat hK hct hmc hms (fun v h2 hp => by obtain ⟨r, rfl, hp⟩ := hp; exact kk r h2 hp)
theorem clL_law_371 {X : CX} {d0 mc0 ms0 d mc ms cells slots : Nat} {pp : Int32 → Hp → Prop} {h : Hp} {ls : List (Option Value)} {rest : List Value} {b : Nat} {a0 a1 a2 : Value} {post : Int32 → Hp → Prop} (C : CmI X mL_law d0 mc0 ms0 pp) (hct : CtI mX9_copy d mc ms [va_rf (some b), a0, a1, a2] h post) (hK : h.K b = 10) (hdd : d < d0) (hmc : cells + mc ≤ mc0) (hms : slots + ms ≤ ms0) (hcat : (rest.map fun v => v.category).sum ≤ 8) (kk : ∀ r h', post r h' → At X (cells + mc) (slots + ms) 374 ls (.int r :: rest) h') : At X cells slots 371 ls (a2 :: a1 :: a0 :: va_rf (some b) :: rest) h :=
  st_callV (pc := 371) (M := mX9_copy) (idx := 59) (As := [a0, a1, a2]) C.1 C.2.2.1 C.2.2.2.2.2.2 ⟨wM_RL_59, wC_X9_copy, wI_RX9, by decide +kernel, by decide⟩ wV_X9_copy wS_X9_copy (ci := 9) (n := 3) rfl rfl (by decide) dL_law_371 rfl hdd hcat hK hct hmc hms (fun v h2 hp => by obtain ⟨r, rfl, hp⟩ := hp; exact kk r h2 hp)
theorem clL_law_386 {X : CX} {d0 mc0 ms0 d mc ms cells slots : Nat} {pp : Int32 → Hp → Prop} {h : Hp} {ls : List (Option Value)} {rest : List Value} {b : Nat} {a0 : Value} {post : Int32 → Hp → Prop} (C : CmI X mL_law d0 mc0 ms0 pp) (hct : CtI mX8_sizeOf d mc ms [va_rf (some b), a0] h post) (hK : h.K b = 9) (hdd : d < d0) (hmc : cells + mc ≤ mc0) (hms : slots + ms ≤ ms0) (hcat : (rest.map fun v => v.category).sum ≤ 8) (kk : ∀ r h', post r h' → At X (cells + mc) (slots + ms) 389 ls (.int r :: rest) h') : At X cells slots 386 ls (a0 :: va_rf (some b) :: rest) h :=
  st_callV (pc := 386) (M := mX8_sizeOf) (idx := 60) (As := [a0]) C.1 C.2.2.1 C.2.2.2.2.2.2 ⟨wM_RL_60, wC_X8_sizeOf, wI_RX8, by decide +kernel, by decide⟩ wV_X8_sizeOf wS_X8_sizeOf (ci := 8) (n := 1) rfl rfl (by decide) dL_law_386 rfl hdd hcat hK hct hmc hms (fun v h2 hp => by obtain ⟨r, rfl, hp⟩ := hp; exact kk r h2 hp)
theorem clL_law_396 {X : CX} {d0 mc0 ms0 d mc ms cells slots : Nat} {pp : Int32 → Hp → Prop} {h : Hp} {ls : List (Option Value)} {rest : List Value} {b : Nat} {a0 : Value} {post : Int32 → Hp → Prop} (C : CmI X mL_law d0 mc0 ms0 pp) (hct : CtI mX9_sizeOf d mc ms [va_rf (some b), a0] h post) (hK : h.K b = 10) (hdd : d < d0) (hmc : cells + mc ≤ mc0) (hms : slots + ms ≤ ms0) (hcat : (rest.map fun v => v.category).sum ≤ 8) (kk : ∀ r h', post r h' → At X (cells + mc) (slots + ms) 399 ls (.int r :: rest) h') : At X cells slots 396 ls (a0 :: va_rf (some b) :: rest) h :=
  st_callV (pc := 396) (M := mX9_sizeOf) (idx := 63) (As := [a0]) C.1 C.2.2.1 C.2.2.2.2.2.2 ⟨wM_RL_63, wC_X9_sizeOf, wI_RX9, by decide +kernel, by decide⟩ wV_X9_sizeOf wS_X9_sizeOf (ci := 9) (n := 1) rfl rfl (by decide) dL_law_396 rfl hdd hcat hK hct hmc hms (fun v h2 hp => by obtain ⟨r, rfl, hp⟩ := hp; exact kk r h2 hp)
theorem clL_law_436 {X : CX} {d0 mc0 ms0 d mc ms cells slots : Nat} {pp : Int32 → Hp → Prop} {h : Hp} {ls : List (Option Value)} {rest : List Value} {b : Nat} {a0 a1 : Value} {post : Int32 → Hp → Prop} (C : CmI X mL_law d0 mc0 ms0 pp) (hct : CtI mX9_describe d mc ms [va_rf (some b), a0, a1] h post) (hK : h.K b = 10) (hdd : d < d0) (hmc : cells + mc ≤ mc0) (hms : slots + ms ≤ ms0) (hcat : (rest.map fun v => v.category).sum ≤ 8) (kk : ∀ r h', post r h' → At X (cells + mc) (slots + ms) 439 ls (.int r :: rest) h') : At X cells slots 436 ls (a1 :: a0 :: va_rf (some b) :: rest) h :=
  st_callV (pc := 436) (M := mX9_describe) (idx := 67) (As := [a0, a1]) C.1 C.2.2.1 C.2.2.2.2.2.2 ⟨wM_RL_67, wC_X9_describe, wI_RX9, by decide +kernel, by decide⟩ wV_X9_describe wS_X9_describe (ci := 9) (n := 2) rfl rfl (by decide) dL_law_436 rfl hdd hcat hK hct hmc hms (fun v h2 hp => by obtain ⟨r, rfl, hp⟩ := hp; exact kk r h2 hp)
theorem clL_law_442 {X : CX} {d0 mc0 ms0 d mc ms cells slots : Nat} {pp : Int32 → Hp → Prop} {h : Hp} {ls : List (Option Value)} {rest : List Value} {b : Nat} {post : Int32 → Hp → Prop} (C : CmI X mL_law d0 mc0 ms0 pp) (hct : CtI mX9_thrown d mc ms [va_rf (some b)] h post) (hK : h.K b = 10) (hdd : d < d0) (hmc : cells + mc ≤ mc0) (hms : slots + ms ≤ ms0) (hcat : (rest.map fun v => v.category).sum ≤ 8) (kk : ∀ r h', post r h' → At X (cells + mc) (slots + ms) 445 ls (.int r :: rest) h') : At X cells slots 442 ls (va_rf (some b) :: rest) h :=
  st_callV (pc := 442) (M := mX9_thrown) (idx := 68) (As := []) C.1 C.2.2.1 C.2.2.2.2.2.2 ⟨wM_RL_68, wC_X9_thrown, wI_RX9, by decide +kernel, by decide⟩ wV_X9_thrown wS_X9_thrown (ci := 9) (n := 0) rfl rfl (by decide) dL_law_442 rfl hdd hcat hK hct hmc hms (fun v h2 hp => by obtain ⟨r, rfl, hp⟩ := hp; exact kk r h2 hp)
theorem clL_law_485 {X : CX} {d0 mc0 ms0 d mc ms cells slots : Nat} {pp : Int32 → Hp → Prop} {h : Hp} {ls : List (Option Value)} {rest : List Value} {b : Nat} {a0 a1 : Value} {post : Int32 → Hp → Prop} (C : CmI X mL_law d0 mc0 ms0 pp) (hct : CtI mX8_setRoot d mc ms [va_rf (some b), a0, a1] h post) (hK : h.K b = 9) (hdd : d < d0) (hmc : cells + mc ≤ mc0) (hms : slots + ms ≤ ms0) (hcat : (rest.map fun v => v.category).sum ≤ 8) (kk : ∀ r h', post r h' → At X (cells + mc) (slots + ms) 488 ls (.int r :: rest) h') : At X cells slots 485 ls (a1 :: a0 :: va_rf (some b) :: rest) h :=
  st_callV (pc := 485) (M := mX8_setRoot) (idx := 72) (As := [a0, a1]) C.1 C.2.2.1 C.2.2.2.2.2.2 ⟨wM_RL_72, wC_X8_setRoot, wI_RX8, by decide +kernel, by decide⟩ wV_X8_setRoot wS_X8_setRoot (ci := 8) (n := 2) rfl rfl (by decide) dL_law_485 rfl hdd hcat hK hct hmc hms (fun v h2 hp => by obtain ⟨r, rfl, hp⟩ := hp; exact kk r h2 hp)
theorem clL_law_501 {X : CX} {d0 mc0 ms0 d mc ms cells slots : Nat} {pp : Int32 → Hp → Prop} {h : Hp} {ls : List (Option Value)} {rest : List Value} {b : Nat} {a0 a1 : Value} {post : Int32 → Hp → Prop} (C : CmI X mL_law d0 mc0 ms0 pp) (hct : CtI mX9_setRoot d mc ms [va_rf (some b), a0, a1] h post) (hK : h.K b = 10) (hdd : d < d0) (hmc : cells + mc ≤ mc0) (hms : slots + ms ≤ ms0) (hcat : (rest.map fun v => v.category).sum ≤ 8) (kk : ∀ r h', post r h' → At X (cells + mc) (slots + ms) 504 ls (.int r :: rest) h') : At X cells slots 501 ls (a1 :: a0 :: va_rf (some b) :: rest) h :=
  st_callV (pc := 501) (M := mX9_setRoot) (idx := 76) (As := [a0, a1]) C.1 C.2.2.1 C.2.2.2.2.2.2 ⟨wM_RL_76, wC_X9_setRoot, wI_RX9, by decide +kernel, by decide⟩ wV_X9_setRoot wS_X9_setRoot (ci := 9) (n := 2) rfl rfl (by decide) dL_law_501 rfl hdd hcat hK hct hmc hms (fun v h2 hp => by obtain ⟨r, rfl, hp⟩ := hp; exact kk r h2 hp)
theorem clL_law_510 {X : CX} {d0 mc0 ms0 d mc ms cells slots : Nat} {pp : Int32 → Hp → Prop} {h : Hp} {ls : List (Option Value)} {rest : List Value} {b : Nat} {post : Int32 → Hp → Prop} (C : CmI X mL_law d0 mc0 ms0 pp) (hct : CtI mX8_leakScan d mc ms [va_rf (some b)] h post) (hK : h.K b = 9) (hdd : d < d0) (hmc : cells + mc ≤ mc0) (hms : slots + ms ≤ ms0) (hcat : (rest.map fun v => v.category).sum ≤ 8) (kk : ∀ r h', post r h' → At X (cells + mc) (slots + ms) 513 ls (.int r :: rest) h') : At X cells slots 510 ls (va_rf (some b) :: rest) h :=
  st_callV (pc := 510) (M := mX8_leakScan) (idx := 77) (As := []) C.1 C.2.2.1 C.2.2.2.2.2.2 ⟨wM_RL_77, wC_X8_leakScan, wI_RX8, by decide +kernel, by decide⟩ wV_X8_leakScan wS_X8_leakScan (ci := 8) (n := 0) rfl rfl (by decide) dL_law_510 rfl hdd hcat hK hct hmc hms (fun v h2 hp => by obtain ⟨r, rfl, hp⟩ := hp; exact kk r h2 hp)
theorem clL_law_514 {X : CX} {d0 mc0 ms0 d mc ms cells slots : Nat} {pp : Int32 → Hp → Prop} {h : Hp} {ls : List (Option Value)} {rest : List Value} {b : Nat} {post : Int32 → Hp → Prop} (C : CmI X mL_law d0 mc0 ms0 pp) (hct : CtI mX9_leakScan d mc ms [va_rf (some b)] h post) (hK : h.K b = 10) (hdd : d < d0) (hmc : cells + mc ≤ mc0) (hms : slots + ms ≤ ms0) (hcat : (rest.map fun v => v.category).sum ≤ 8) (kk : ∀ r h', post r h' → At X (cells + mc) (slots + ms) 517 ls (.int r :: rest) h') : At X cells slots 514 ls (va_rf (some b) :: rest) h :=
  st_callV (pc := 514) (M := mX9_leakScan) (idx := 80) (As := []) C.1 C.2.2.1 C.2.2.2.2.2.2 ⟨wM_RL_80, wC_X9_leakScan, wI_RX9, by decide +kernel, by decide⟩ wV_X9_leakScan wS_X9_leakScan (ci := 9) (n := 0) rfl rfl (by decide) dL_law_514 rfl hdd hcat hK hct hmc hms (fun v h2 hp => by obtain ⟨r, rfl, hp⟩ := hp; exact kk r h2 hp)
theorem clL_law_535 {X : CX} {d0 mc0 ms0 d mc ms cells slots : Nat} {pp : Int32 → Hp → Prop} {h : Hp} {ls : List (Option Value)} {rest : List Value} {b : Nat} {a0 a1 : Value} {post : Int32 → Hp → Prop} (C : CmI X mL_law d0 mc0 ms0 pp) (hct : CtI mX8_leak d mc ms [va_rf (some b), a0, a1] h post) (hK : h.K b = 9) (hdd : d < d0) (hmc : cells + mc ≤ mc0) (hms : slots + ms ≤ ms0) (hcat : (rest.map fun v => v.category).sum ≤ 8) (kk : ∀ r h', post r h' → At X (cells + mc) (slots + ms) 538 ls (.int r :: rest) h') : At X cells slots 535 ls (a1 :: a0 :: va_rf (some b) :: rest) h :=
  st_callV (pc := 535) (M := mX8_leak) (idx := 81) (As := [a0, a1]) C.1 C.2.2.1 C.2.2.2.2.2.2 ⟨wM_RL_81, wC_X8_leak, wI_RX8, by decide +kernel, by decide⟩ wV_X8_leak wS_X8_leak (ci := 8) (n := 2) rfl rfl (by decide) dL_law_535 rfl hdd hcat hK hct hmc hms (fun v h2 hp => by obtain ⟨r, rfl, hp⟩ := hp; exact kk r h2 hp)
theorem clL_law_551 {X : CX} {d0 mc0 ms0 d mc ms cells slots : Nat} {pp : Int32 → Hp → Prop} {h : Hp} {ls : List (Option Value)} {rest : List Value} {b : Nat} {a0 a1 : Value} {post : Int32 → Hp → Prop} (C : CmI X mL_law d0 mc0 ms0 pp) (hct : CtI mX9_leak d mc ms [va_rf (some b), a0, a1] h post) (hK : h.K b = 10) (hdd : d < d0) (hmc : cells + mc ≤ mc0) (hms : slots + ms ≤ ms0) (hcat : (rest.map fun v => v.category).sum ≤ 8) (kk : ∀ r h', post r h' → At X (cells + mc) (slots + ms) 554 ls (.int r :: rest) h') : At X cells slots 551 ls (a1 :: a0 :: va_rf (some b) :: rest) h :=
  st_callV (pc := 551) (M := mX9_leak) (idx := 84) (As := [a0, a1]) C.1 C.2.2.1 C.2.2.2.2.2.2 ⟨wM_RL_84, wC_X9_leak, wI_RX9, by decide +kernel, by decide⟩ wV_X9_leak wS_X9_leak (ci := 9) (n := 2) rfl rfl (by decide) dL_law_551 rfl hdd hcat hK hct hmc hms (fun v h2 hp => by obtain ⟨r, rfl, hp⟩ := hp; exact kk r h2 hp)
theorem clL_law_560 {X : CX} {d0 mc0 ms0 d mc ms cells slots : Nat} {pp : Int32 → Hp → Prop} {h : Hp} {ls : List (Option Value)} {rest : List Value} {b : Nat} {post : Int32 → Hp → Prop} (C : CmI X mL_law d0 mc0 ms0 pp) (hct : CtI mX8_pointers d mc ms [va_rf (some b)] h post) (hK : h.K b = 9) (hdd : d < d0) (hmc : cells + mc ≤ mc0) (hms : slots + ms ≤ ms0) (hcat : (rest.map fun v => v.category).sum ≤ 8) (kk : ∀ r h', post r h' → At X (cells + mc) (slots + ms) 563 ls (.int r :: rest) h') : At X cells slots 560 ls (va_rf (some b) :: rest) h :=
  st_callV (pc := 560) (M := mX8_pointers) (idx := 85) (As := []) C.1 C.2.2.1 C.2.2.2.2.2.2 ⟨wM_RL_85, wC_X8_pointers, wI_RX8, by decide +kernel, by decide⟩ wV_X8_pointers wS_X8_pointers (ci := 8) (n := 0) rfl rfl (by decide) dL_law_560 rfl hdd hcat hK hct hmc hms (fun v h2 hp => by obtain ⟨r, rfl, hp⟩ := hp; exact kk r h2 hp)
theorem clL_law_564 {X : CX} {d0 mc0 ms0 d mc ms cells slots : Nat} {pp : Int32 → Hp → Prop} {h : Hp} {ls : List (Option Value)} {rest : List Value} {b : Nat} {post : Int32 → Hp → Prop} (C : CmI X mL_law d0 mc0 ms0 pp) (hct : CtI mX9_pointers d mc ms [va_rf (some b)] h post) (hK : h.K b = 10) (hdd : d < d0) (hmc : cells + mc ≤ mc0) (hms : slots + ms ≤ ms0) (hcat : (rest.map fun v => v.category).sum ≤ 8) (kk : ∀ r h', post r h' → At X (cells + mc) (slots + ms) 567 ls (.int r :: rest) h') : At X cells slots 564 ls (va_rf (some b) :: rest) h :=
  st_callV (pc := 564) (M := mX9_pointers) (idx := 88) (As := []) C.1 C.2.2.1 C.2.2.2.2.2.2 ⟨wM_RL_88, wC_X9_pointers, wI_RX9, by decide +kernel, by decide⟩ wV_X9_pointers wS_X9_pointers (ci := 9) (n := 0) rfl rfl (by decide) dL_law_564 rfl hdd hcat hK hct hmc hms (fun v h2 hp => by obtain ⟨r, rfl, hp⟩ := hp; exact kk r h2 hp)
theorem clL_law_579 {X : CX} {d0 mc0 ms0 d mc ms cells slots : Nat} {pp : Int32 → Hp → Prop} {h : Hp} {ls : List (Option Value)} {rest : List Value} {b : Nat} {a0 : Value} {post : Int32 → Hp → Prop} (C : CmI X mL_law d0 mc0 ms0 pp) (hct : CtI mX8_count d mc ms [va_rf (some b), a0] h post) (hK : h.K b = 9) (hdd : d < d0) (hmc : cells + mc ≤ mc0) (hms : slots + ms ≤ ms0) (hcat : (rest.map fun v => v.category).sum ≤ 8) (kk : ∀ r h', post r h' → At X (cells + mc) (slots + ms) 582 ls (.int r :: rest) h') : At X cells slots 579 ls (a0 :: va_rf (some b) :: rest) h :=
  st_callV (pc := 579) (M := mX8_count) (idx := 89) (As := [a0]) C.1 C.2.2.1 C.2.2.2.2.2.2 ⟨wM_RL_89, wC_X8_count, wI_RX8, by decide +kernel, by decide⟩ wV_X8_count wS_X8_count (ci := 8) (n := 1) rfl rfl (by decide) dL_law_579 rfl hdd hcat hK hct hmc hms (fun v h2 hp => by obtain ⟨r, rfl, hp⟩ := hp; exact kk r h2 hp)
theorem clL_law_589 {X : CX} {d0 mc0 ms0 d mc ms cells slots : Nat} {pp : Int32 → Hp → Prop} {h : Hp} {ls : List (Option Value)} {rest : List Value} {b : Nat} {a0 : Value} {post : Int32 → Hp → Prop} (C : CmI X mL_law d0 mc0 ms0 pp) (hct : CtI mX9_count d mc ms [va_rf (some b), a0] h post) (hK : h.K b = 10) (hdd : d < d0) (hmc : cells + mc ≤ mc0) (hms : slots + ms ≤ ms0) (hcat : (rest.map fun v => v.category).sum ≤ 8) (kk : ∀ r h', post r h' → At X (cells + mc) (slots + ms) 592 ls (.int r :: rest) h') : At X cells slots 589 ls (a0 :: va_rf (some b) :: rest) h :=
  st_callV (pc := 589) (M := mX9_count) (idx := 92) (As := [a0]) C.1 C.2.2.1 C.2.2.2.2.2.2 ⟨wM_RL_92, wC_X9_count, wI_RX9, by decide +kernel, by decide⟩ wV_X9_count wS_X9_count (ci := 9) (n := 1) rfl rfl (by decide) dL_law_589 rfl hdd hcat hK hct hmc hms (fun v h2 hp => by obtain ⟨r, rfl, hp⟩ := hp; exact kk r h2 hp)
theorem clL_law_604 {X : CX} {d0 mc0 ms0 d mc ms cells slots : Nat} {pp : Int32 → Hp → Prop} {h : Hp} {ls : List (Option Value)} {rest : List Value} {b : Nat} {a0 : Value} {post : Int32 → Hp → Prop} (C : CmI X mL_law d0 mc0 ms0 pp) (hct : CtI mX8_freeMany d mc ms [va_rf (some b), a0] h post) (hK : h.K b = 9) (hdd : d < d0) (hmc : cells + mc ≤ mc0) (hms : slots + ms ≤ ms0) (hcat : (rest.map fun v => v.category).sum ≤ 8) (kk : ∀ r h', post r h' → At X (cells + mc) (slots + ms) 607 ls (.int r :: rest) h') : At X cells slots 604 ls (a0 :: va_rf (some b) :: rest) h :=
  st_callV (pc := 604) (M := mX8_freeMany) (idx := 93) (As := [a0]) C.1 C.2.2.1 C.2.2.2.2.2.2 ⟨wM_RL_93, wC_X8_freeMany, wI_RX8, by decide +kernel, by decide⟩ wV_X8_freeMany wS_X8_freeMany (ci := 8) (n := 1) rfl rfl (by decide) dL_law_604 rfl hdd hcat hK hct hmc hms (fun v h2 hp => by obtain ⟨r, rfl, hp⟩ := hp; exact kk r h2 hp)
theorem clL_law_614 {X : CX} {d0 mc0 ms0 d mc ms cells slots : Nat} {pp : Int32 → Hp → Prop} {h : Hp} {ls : List (Option Value)} {rest : List Value} {b : Nat} {a0 : Value} {post : Int32 → Hp → Prop} (C : CmI X mL_law d0 mc0 ms0 pp) (hct : CtI mX9_freeMany d mc ms [va_rf (some b), a0] h post) (hK : h.K b = 10) (hdd : d < d0) (hmc : cells + mc ≤ mc0) (hms : slots + ms ≤ ms0) (hcat : (rest.map fun v => v.category).sum ≤ 8) (kk : ∀ r h', post r h' → At X (cells + mc) (slots + ms) 617 ls (.int r :: rest) h') : At X cells slots 614 ls (a0 :: va_rf (some b) :: rest) h :=
  st_callV (pc := 614) (M := mX9_freeMany) (idx := 96) (As := [a0]) C.1 C.2.2.1 C.2.2.2.2.2.2 ⟨wM_RL_96, wC_X9_freeMany, wI_RX9, by decide +kernel, by decide⟩ wV_X9_freeMany wS_X9_freeMany (ci := 9) (n := 1) rfl rfl (by decide) dL_law_614 rfl hdd hcat hK hct hmc hms (fun v h2 hp => by obtain ⟨r, rfl, hp⟩ := hp; exact kk r h2 hp)
theorem clL_law_635 {X : CX} {d0 mc0 ms0 d mc ms cells slots : Nat} {pp : Int32 → Hp → Prop} {h : Hp} {ls : List (Option Value)} {rest : List Value} {b : Nat} {a0 a1 : Value} {post : Int32 → Hp → Prop} (C : CmI X mL_law d0 mc0 ms0 pp) (hct : CtI mX8_freeAt d mc ms [va_rf (some b), a0, a1] h post) (hK : h.K b = 9) (hdd : d < d0) (hmc : cells + mc ≤ mc0) (hms : slots + ms ≤ ms0) (hcat : (rest.map fun v => v.category).sum ≤ 8) (kk : ∀ r h', post r h' → At X (cells + mc) (slots + ms) 638 ls (.int r :: rest) h') : At X cells slots 635 ls (a1 :: a0 :: va_rf (some b) :: rest) h :=
  st_callV (pc := 635) (M := mX8_freeAt) (idx := 97) (As := [a0, a1]) C.1 C.2.2.1 C.2.2.2.2.2.2 ⟨wM_RL_97, wC_X8_freeAt, wI_RX8, by decide +kernel, by decide⟩ wV_X8_freeAt wS_X8_freeAt (ci := 8) (n := 2) rfl rfl (by decide) dL_law_635 rfl hdd hcat hK hct hmc hms (fun v h2 hp => by obtain ⟨r, rfl, hp⟩ := hp; exact kk r h2 hp)
theorem clL_law_651 {X : CX} {d0 mc0 ms0 d mc ms cells slots : Nat} {pp : Int32 → Hp → Prop} {h : Hp} {ls : List (Option Value)} {rest : List Value} {b : Nat} {a0 a1 : Value} {post : Int32 → Hp → Prop} (C : CmI X mL_law d0 mc0 ms0 pp) (hct : CtI mX9_freeAt d mc ms [va_rf (some b), a0, a1] h post) (hK : h.K b = 10) (hdd : d < d0) (hmc : cells + mc ≤ mc0) (hms : slots + ms ≤ ms0) (hcat : (rest.map fun v => v.category).sum ≤ 8) (kk : ∀ r h', post r h' → At X (cells + mc) (slots + ms) 654 ls (.int r :: rest) h') : At X cells slots 651 ls (a1 :: a0 :: va_rf (some b) :: rest) h :=
  st_callV (pc := 651) (M := mX9_freeAt) (idx := 100) (As := [a0, a1]) C.1 C.2.2.1 C.2.2.2.2.2.2 ⟨wM_RL_100, wC_X9_freeAt, wI_RX9, by decide +kernel, by decide⟩ wV_X9_freeAt wS_X9_freeAt (ci := 9) (n := 2) rfl rfl (by decide) dL_law_651 rfl hdd hcat hK hct hmc hms (fun v h2 hp => by obtain ⟨r, rfl, hp⟩ := hp; exact kk r h2 hp)
theorem clL_law_666 {X : CX} {d0 mc0 ms0 d mc ms cells slots : Nat} {pp : Int32 → Hp → Prop} {h : Hp} {ls : List (Option Value)} {rest : List Value} {b : Nat} {a0 : Value} {post : Int32 → Hp → Prop} (C : CmI X mL_law d0 mc0 ms0 pp) (hct : CtI mX8_waiting d mc ms [va_rf (some b), a0] h post) (hK : h.K b = 9) (hdd : d < d0) (hmc : cells + mc ≤ mc0) (hms : slots + ms ≤ ms0) (hcat : (rest.map fun v => v.category).sum ≤ 8) (kk : ∀ r h', post r h' → At X (cells + mc) (slots + ms) 669 ls (.int r :: rest) h') : At X cells slots 666 ls (a0 :: va_rf (some b) :: rest) h :=
  st_callV (pc := 666) (M := mX8_waiting) (idx := 101) (As := [a0]) C.1 C.2.2.1 C.2.2.2.2.2.2 ⟨wM_RL_101, wC_X8_waiting, wI_RX8, by decide +kernel, by decide⟩ wV_X8_waiting wS_X8_waiting (ci := 8) (n := 1) rfl rfl (by decide) dL_law_666 rfl hdd hcat hK hct hmc hms (fun v h2 hp => by obtain ⟨r, rfl, hp⟩ := hp; exact kk r h2 hp)
theorem clL_law_676 {X : CX} {d0 mc0 ms0 d mc ms cells slots : Nat} {pp : Int32 → Hp → Prop} {h : Hp} {ls : List (Option Value)} {rest : List Value} {b : Nat} {a0 : Value} {post : Int32 → Hp → Prop} (C : CmI X mL_law d0 mc0 ms0 pp) (hct : CtI mX9_waiting d mc ms [va_rf (some b), a0] h post) (hK : h.K b = 10) (hdd : d < d0) (hmc : cells + mc ≤ mc0) (hms : slots + ms ≤ ms0) (hcat : (rest.map fun v => v.category).sum ≤ 8) (kk : ∀ r h', post r h' → At X (cells + mc) (slots + ms) 679 ls (.int r :: rest) h') : At X cells slots 676 ls (a0 :: va_rf (some b) :: rest) h :=
  st_callV (pc := 676) (M := mX9_waiting) (idx := 104) (As := [a0]) C.1 C.2.2.1 C.2.2.2.2.2.2 ⟨wM_RL_104, wC_X9_waiting, wI_RX9, by decide +kernel, by decide⟩ wV_X9_waiting wS_X9_waiting (ci := 9) (n := 1) rfl rfl (by decide) dL_law_676 rfl hdd hcat hK hct hmc hms (fun v h2 hp => by obtain ⟨r, rfl, hp⟩ := hp; exact kk r h2 hp)
theorem clL_law_716 {X : CX} {d0 mc0 ms0 d mc ms cells slots : Nat} {pp : Int32 → Hp → Prop} {h : Hp} {ls : List (Option Value)} {rest : List Value} {b : Nat} {a0 a1 : Value} {post : Int32 → Hp → Prop} (C : CmI X mL_law d0 mc0 ms0 pp) (hct : CtI mX9_fault d mc ms [va_rf (some b), a0, a1] h post) (hK : h.K b = 10) (hdd : d < d0) (hmc : cells + mc ≤ mc0) (hms : slots + ms ≤ ms0) (hcat : (rest.map fun v => v.category).sum ≤ 8) (kk : ∀ r h', post r h' → At X (cells + mc) (slots + ms) 719 ls (.int r :: rest) h') : At X cells slots 716 ls (a1 :: a0 :: va_rf (some b) :: rest) h :=
  st_callV (pc := 716) (M := mX9_fault) (idx := 107) (As := [a0, a1]) C.1 C.2.2.1 C.2.2.2.2.2.2 ⟨wM_RL_107, wC_X9_fault, wI_RX9, by decide +kernel, by decide⟩ wV_X9_fault wS_X9_fault (ci := 9) (n := 2) rfl rfl (by decide) dL_law_716 rfl hdd hcat hK hct hmc hms (fun v h2 hp => by obtain ⟨r, rfl, hp⟩ := hp; exact kk r h2 hp)
theorem clL_law_722 {X : CX} {d0 mc0 ms0 d mc ms cells slots : Nat} {pp : Int32 → Hp → Prop} {h : Hp} {ls : List (Option Value)} {rest : List Value} {b : Nat} {post : Int32 → Hp → Prop} (C : CmI X mL_law d0 mc0 ms0 pp) (hct : CtI mX9_thrown d mc ms [va_rf (some b)] h post) (hK : h.K b = 10) (hdd : d < d0) (hmc : cells + mc ≤ mc0) (hms : slots + ms ≤ ms0) (hcat : (rest.map fun v => v.category).sum ≤ 8) (kk : ∀ r h', post r h' → At X (cells + mc) (slots + ms) 725 ls (.int r :: rest) h') : At X cells slots 722 ls (va_rf (some b) :: rest) h :=
  st_callV (pc := 722) (M := mX9_thrown) (idx := 68) (As := []) C.1 C.2.2.1 C.2.2.2.2.2.2 ⟨wM_RL_68, wC_X9_thrown, wI_RX9, by decide +kernel, by decide⟩ wV_X9_thrown wS_X9_thrown (ci := 9) (n := 0) rfl rfl (by decide) dL_law_722 rfl hdd hcat hK hct hmc hms (fun v h2 hp => by obtain ⟨r, rfl, hp⟩ := hp; exact kk r h2 hp)
