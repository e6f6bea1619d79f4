theorem zm_0 : zMt xM 0 = some (4, (some .boolean), 1, 600000, 7302250) := rfl
theorem zr_0_0 : zRow xM 0 0 = some (102, .new 7, 1, 8, 0) := rfl
theorem zr_0_3 : zRow xM 0 3 = some (43, .dup, 4, 0, 0) := rfl
theorem zr_0_4 : zRow xM 0 4 = some (106, .invokespecial 9, 5, 98, 0) := rfl
theorem zr_0_7 : zRow xM 0 7 = some (11, .astore_n 1, 8, 1, 0) := rfl
theorem zr_0_8 : zRow xM 0 8 = some (102, .new 10, 9, 9, 0) := rfl
theorem zr_0_11 : zRow xM 0 11 = some (43, .dup, 12, 0, 0) := rfl
theorem zr_0_12 : zRow xM 0 12 = some (106, .invokespecial 12, 13, 139, 0) := rfl
theorem zr_0_15 : zRow xM 0 15 = some (11, .astore_n 2, 16, 2, 0) := rfl
theorem zr_0_16 : zRp 0 16 17 (0, 0) := ⟨_, _, _, _, rfl, by decide, Option.some_ne_none _, rfl⟩
theorem zr_0_17 : zRow xM 0 17 = some (9, .istore_n 3, 18, 3, 0) := rfl
theorem zr_0_18 : zRow xM 0 18 = some (3, .iload_n 3, 19, 3, 0) := rfl
theorem zr_0_19 : zRow xM 0 19 = some (7, .aload_n 0, 20, 0, 0) := rfl
theorem zr_0_20 : zRow xM 0 20 = some (101, .arraylength, 21, 0, 0) := rfl
theorem zr_0_21 : zRp 0 21 23 (0, 6) := ⟨_, _, _, _, rfl, by decide, Option.some_ne_none _, rfl⟩
theorem zr_0_23 : zRow xM 0 23 = some (17, .isub, 24, 0, 0) := rfl
theorem zr_0_24 : zRow xM 0 24 = some (41, .if_icmp .gt 1220, 27, 1244, 2) := rfl
theorem zr_0_27 : zRow xM 0 27 = some (7, .aload_n 0, 28, 0, 0) := rfl
theorem zr_0_28 : zRow xM 0 28 = some (3, .iload_n 3, 29, 3, 0) := rfl
theorem zr_0_29 : zRow xM 0 29 = some (100, .iaload, 30, 0, 0) := rfl
theorem zr_0_30 : zRp 0 30 32 (0, 63) := ⟨_, _, _, _, rfl, by decide, Option.some_ne_none _, rfl⟩
theorem zr_0_32 : zRow xM 0 32 = some (21, .iand, 33, 0, 0) := rfl
theorem zr_0_33 : zRow xM 0 33 = some (111, .tableswitch 1205 0 33 #[151, 174, 253, 312, 345, 378, 401, 424, 467, 500, 543, 586, 609, 622, 655, 688, 701, 744, 757, 780, 823, 836, 879, 892, 915, 968, 981, 1034, 1067, 1100, 1123, 1146, 1169, 1192], 34, 0, 1) := rfl
theorem zr_0_184 : zRow xM 0 184 = some (7, .aload_n 1, 185, 1, 0) := rfl
theorem zr_0_185 : zRow xM 0 185 = some (7, .aload_n 0, 186, 0, 0) := rfl
theorem zr_0_186 : zRow xM 0 186 = some (3, .iload_n 3, 187, 3, 0) := rfl
theorem zr_0_187 : zRp 0 187 188 (0, 1) := ⟨_, _, _, _, rfl, by decide, Option.some_ne_none _, rfl⟩
theorem zr_0_188 : zRow xM 0 188 = some (16, .iadd, 189, 0, 0) := rfl
theorem zr_0_189 : zRow xM 0 189 = some (100, .iaload, 190, 0, 0) := rfl
theorem zr_0_190 : zRow xM 0 190 = some (105, .invokevirtual 13, 193, 99, 8) := rfl
theorem zr_0_193 : zRow xM 0 193 = some (115, .pop, 194, 0, 0) := rfl
theorem zr_0_194 : zRow xM 0 194 = some (7, .aload_n 2, 195, 2, 0) := rfl
theorem zr_0_195 : zRow xM 0 195 = some (7, .aload_n 0, 196, 0, 0) := rfl
theorem zr_0_196 : zRow xM 0 196 = some (3, .iload_n 3, 197, 3, 0) := rfl
theorem zr_0_197 : zRp 0 197 198 (0, 1) := ⟨_, _, _, _, rfl, by decide, Option.some_ne_none _, rfl⟩
theorem zr_0_198 : zRow xM 0 198 = some (16, .iadd, 199, 0, 0) := rfl
theorem zr_0_199 : zRow xM 0 199 = some (100, .iaload, 200, 0, 0) := rfl
theorem zr_0_200 : zRow xM 0 200 = some (105, .invokevirtual 17, 203, 145, 9) := rfl
theorem zr_0_203 : zRow xM 0 203 = some (115, .pop, 204, 0, 0) := rfl
theorem zr_0_204 : zRow xM 0 204 = some (42, .goto 1034, 205, 1238, 0) := rfl
theorem zr_0_207 : zRow xM 0 207 = some (7, .aload_n 1, 208, 1, 0) := rfl
theorem zr_0_208 : zRow xM 0 208 = some (7, .aload_n 0, 209, 0, 0) := rfl
theorem zr_0_209 : zRow xM 0 209 = some (3, .iload_n 3, 210, 3, 0) := rfl
theorem zr_0_210 : zRp 0 210 211 (0, 1) := ⟨_, _, _, _, rfl, by decide, Option.some_ne_none _, rfl⟩
theorem zr_0_211 : zRow xM 0 211 = some (16, .iadd, 212, 0, 0) := rfl
theorem zr_0_212 : zRow xM 0 212 = some (100, .iaload, 213, 0, 0) := rfl
theorem zr_0_213 : zRow xM 0 213 = some (7, .aload_n 0, 214, 0, 0) := rfl
theorem zr_0_214 : zRow xM 0 214 = some (3, .iload_n 3, 215, 3, 0) := rfl
theorem zr_0_215 : zRp 0 215 216 (0, 2) := ⟨_, _, _, _, rfl, by decide, Option.some_ne_none _, rfl⟩
theorem zr_0_216 : zRow xM 0 216 = some (16, .iadd, 217, 0, 0) := rfl
theorem zr_0_217 : zRow xM 0 217 = some (100, .iaload, 218, 0, 0) := rfl
theorem zr_0_218 : zRow xM 0 218 = some (7, .aload_n 0, 219, 0, 0) := rfl
theorem zr_0_219 : zRow xM 0 219 = some (3, .iload_n 3, 220, 3, 0) := rfl
theorem zr_0_220 : zRp 0 220 221 (0, 3) := ⟨_, _, _, _, rfl, by decide, Option.some_ne_none _, rfl⟩
theorem zr_0_221 : zRow xM 0 221 = some (16, .iadd, 222, 0, 0) := rfl
theorem zr_0_222 : zRow xM 0 222 = some (100, .iaload, 223, 0, 0) := rfl
theorem zr_0_223 : zRow xM 0 223 = some (7, .aload_n 0, 224, 0, 0) := rfl
theorem zr_0_224 : zRow xM 0 224 = some (3, .iload_n 3, 225, 3, 0) := rfl
theorem zr_0_225 : zRp 0 225 226 (0, 4) := ⟨_, _, _, _, rfl, by decide, Option.some_ne_none _, rfl⟩
theorem zr_0_226 : zRow xM 0 226 = some (16, .iadd, 227, 0, 0) := rfl
theorem zr_0_227 : zRow xM 0 227 = some (100, .iaload, 228, 0, 0) := rfl
theorem zr_0_228 : zRow xM 0 228 = some (7, .aload_n 0, 229, 0, 0) := rfl
theorem zr_0_229 : zRow xM 0 229 = some (3, .iload_n 3, 230, 3, 0) := rfl
theorem zr_0_230 : zRp 0 230 231 (0, 5) := ⟨_, _, _, _, rfl, by decide, Option.some_ne_none _, rfl⟩
theorem zr_0_231 : zRow xM 0 231 = some (16, .iadd, 232, 0, 0) := rfl
theorem zr_0_232 : zRow xM 0 232 = some (100, .iaload, 233, 0, 0) := rfl
theorem zr_0_233 : zRow xM 0 233 = some (40, .ifCond .eq 7, 236, 240, 1) := rfl
theorem zr_0_236 : zRp 0 236 237 (0, 1) := ⟨_, _, _, _, rfl, by decide, Option.some_ne_none _, rfl⟩
theorem zr_0_237 : zRow xM 0 237 = some (42, .goto 4, 238, 241, 0) := rfl
theorem zr_0_240 : zRp 0 240 241 (0, 0) := ⟨_, _, _, _, rfl, by decide, Option.some_ne_none _, rfl⟩
theorem zr_0_241 : zRow xM 0 241 = some (105, .invokevirtual 18, 244, 102, 8) := rfl
theorem zr_0_244 : zRow xM 0 244 = some (115, .pop, 245, 0, 0) := rfl
theorem zr_0_245 : zRow xM 0 245 = some (7, .aload_n 2, 246, 2, 0) := rfl
theorem zr_0_246 : zRow xM 0 246 = some (7, .aload_n 0, 247, 0, 0) := rfl
theorem zr_0_247 : zRow xM 0 247 = some (3, .iload_n 3, 248, 3, 0) := rfl
theorem zr_0_248 : zRp 0 248 249 (0, 1) := ⟨_, _, _, _, rfl, by decide, Option.some_ne_none _, rfl⟩
theorem zr_0_249 : zRow xM 0 249 = some (16, .iadd, 250, 0, 0) := rfl
theorem zr_0_250 : zRow xM 0 250 = some (100, .iaload, 251, 0, 0) := rfl
theorem zr_0_251 : zRow xM 0 251 = some (7, .aload_n 0, 252, 0, 0) := rfl
theorem zr_0_252 : zRow xM 0 252 = some (3, .iload_n 3, 253, 3, 0) := rfl
theorem zr_0_253 : zRp 0 253 254 (0, 2) := ⟨_, _, _, _, rfl, by decide, Option.some_ne_none _, rfl⟩
theorem zr_0_254 : zRow xM 0 254 = some (16, .iadd, 255, 0, 0) := rfl
theorem zr_0_255 : zRow xM 0 255 = some (100, .iaload, 256, 0, 0) := rfl
theorem zr_0_256 : zRow xM 0 256 = some (7, .aload_n 0, 257, 0, 0) := rfl
theorem zr_0_257 : zRow xM 0 257 = some (3, .iload_n 3, 258, 3, 0) := rfl
theorem zr_0_258 : zRp 0 258 259 (0, 3) := ⟨_, _, _, _, rfl, by decide, Option.some_ne_none _, rfl⟩
theorem zr_0_259 : zRow xM 0 259 = some (16, .iadd, 260, 0, 0) := rfl
theorem zr_0_260 : zRow xM 0 260 = some (100, .iaload, 261, 0, 0) := rfl
theorem zr_0_261 : zRow xM 0 261 = some (7, .aload_n 0, 262, 0, 0) := rfl
theorem zr_0_262 : zRow xM 0 262 = some (3, .iload_n 3, 263, 3, 0) := rfl
theorem zr_0_263 : zRp 0 263 264 (0, 4) := ⟨_, _, _, _, rfl, by decide, Option.some_ne_none _, rfl⟩
theorem zr_0_264 : zRow xM 0 264 = some (16, .iadd, 265, 0, 0) := rfl
theorem zr_0_265 : zRow xM 0 265 = some (100, .iaload, 266, 0, 0) := rfl
theorem zr_0_266 : zRow xM 0 266 = some (7, .aload_n 0, 267, 0, 0) := rfl
theorem zr_0_267 : zRow xM 0 267 = some (3, .iload_n 3, 268, 3, 0) := rfl
theorem zr_0_268 : zRp 0 268 269 (0, 5) := ⟨_, _, _, _, rfl, by decide, Option.some_ne_none _, rfl⟩
theorem zr_0_269 : zRow xM 0 269 = some (16, .iadd, 270, 0, 0) := rfl
theorem zr_0_270 : zRow xM 0 270 = some (100, .iaload, 271, 0, 0) := rfl
theorem zr_0_271 : zRow xM 0 271 = some (40, .ifCond .eq 7, 274, 278, 1) := rfl
theorem zr_0_274 : zRp 0 274 275 (0, 1) := ⟨_, _, _, _, rfl, by decide, Option.some_ne_none _, rfl⟩
theorem zr_0_275 : zRow xM 0 275 = some (42, .goto 4, 276, 279, 0) := rfl
theorem zr_0_278 : zRp 0 278 279 (0, 0) := ⟨_, _, _, _, rfl, by decide, Option.some_ne_none _, rfl⟩
theorem zr_0_279 : zRow xM 0 279 = some (105, .invokevirtual 22, 282, 146, 9) := rfl
theorem zr_0_282 : zRow xM 0 282 = some (115, .pop, 283, 0, 0) := rfl
theorem zr_0_283 : zRow xM 0 283 = some (42, .goto 955, 284, 1238, 0) := rfl
theorem zr_0_286 : zRow xM 0 286 = some (7, .aload_n 1, 287, 1, 0) := rfl
theorem zr_0_287 : zRow xM 0 287 = some (7, .aload_n 0, 288, 0, 0) := rfl
theorem zr_0_288 : zRow xM 0 288 = some (3, .iload_n 3, 289, 3, 0) := rfl
theorem zr_0_289 : zRp 0 289 290 (0, 1) := ⟨_, _, _, _, rfl, by decide, Option.some_ne_none _, rfl⟩
theorem zr_0_290 : zRow xM 0 290 = some (16, .iadd, 291, 0, 0) := rfl
theorem zr_0_291 : zRow xM 0 291 = some (100, .iaload, 292, 0, 0) := rfl
theorem zr_0_292 : zRow xM 0 292 = some (7, .aload_n 0, 293, 0, 0) := rfl
theorem zr_0_293 : zRow xM 0 293 = some (3, .iload_n 3, 294, 3, 0) := rfl
theorem zr_0_294 : zRp 0 294 295 (0, 2) := ⟨_, _, _, _, rfl, by decide, Option.some_ne_none _, rfl⟩
theorem zr_0_295 : zRow xM 0 295 = some (16, .iadd, 296, 0, 0) := rfl
theorem zr_0_296 : zRow xM 0 296 = some (100, .iaload, 297, 0, 0) := rfl
theorem zr_0_297 : zRow xM 0 297 = some (7, .aload_n 0, 298, 0, 0) := rfl
theorem zr_0_298 : zRow xM 0 298 = some (3, .iload_n 3, 299, 3, 0) := rfl
theorem zr_0_299 : zRp 0 299 300 (0, 3) := ⟨_, _, _, _, rfl, by decide, Option.some_ne_none _, rfl⟩
theorem zr_0_300 : zRow xM 0 300 = some (16, .iadd, 301, 0, 0) := rfl
theorem zr_0_301 : zRow xM 0 301 = some (100, .iaload, 302, 0, 0) := rfl
theorem zr_0_302 : zRow xM 0 302 = some (40, .ifCond .eq 7, 305, 309, 1) := rfl
theorem zr_0_305 : zRp 0 305 306 (0, 1) := ⟨_, _, _, _, rfl, by decide, Option.some_ne_none _, rfl⟩
theorem zr_0_306 : zRow xM 0 306 = some (42, .goto 4, 307, 310, 0) := rfl
theorem zr_0_309 : zRp 0 309 310 (0, 0) := ⟨_, _, _, _, rfl, by decide, Option.some_ne_none _, rfl⟩
theorem zr_0_310 : zRow xM 0 310 = some (105, .invokevirtual 23, 313, 103, 8) := rfl
theorem zr_0_313 : zRow xM 0 313 = some (115, .pop, 314, 0, 0) := rfl
theorem zr_0_314 : zRow xM 0 314 = some (7, .aload_n 2, 315, 2, 0) := rfl
theorem zr_0_315 : zRow xM 0 315 = some (7, .aload_n 0, 316, 0, 0) := rfl
theorem zr_0_316 : zRow xM 0 316 = some (3, .iload_n 3, 317, 3, 0) := rfl
theorem zr_0_317 : zRp 0 317 318 (0, 1) := ⟨_, _, _, _, rfl, by decide, Option.some_ne_none _, rfl⟩
theorem zr_0_318 : zRow xM 0 318 = some (16, .iadd, 319, 0, 0) := rfl
theorem zr_0_319 : zRow xM 0 319 = some (100, .iaload, 320, 0, 0) := rfl
theorem zr_0_320 : zRow xM 0 320 = some (7, .aload_n 0, 321, 0, 0) := rfl
theorem zr_0_321 : zRow xM 0 321 = some (3, .iload_n 3, 322, 3, 0) := rfl
theorem zr_0_322 : zRp 0 322 323 (0, 2) := ⟨_, _, _, _, rfl, by decide, Option.some_ne_none _, rfl⟩
theorem zr_0_323 : zRow xM 0 323 = some (16, .iadd, 324, 0, 0) := rfl
theorem zr_0_324 : zRow xM 0 324 = some (100, .iaload, 325, 0, 0) := rfl
theorem zr_0_325 : zRow xM 0 325 = some (7, .aload_n 0, 326, 0, 0) := rfl
theorem zr_0_326 : zRow xM 0 326 = some (3, .iload_n 3, 327, 3, 0) := rfl
theorem zr_0_327 : zRp 0 327 328 (0, 3) := ⟨_, _, _, _, rfl, by decide, Option.some_ne_none _, rfl⟩
theorem zr_0_328 : zRow xM 0 328 = some (16, .iadd, 329, 0, 0) := rfl
theorem zr_0_329 : zRow xM 0 329 = some (100, .iaload, 330, 0, 0) := rfl
theorem zr_0_330 : zRow xM 0 330 = some (40, .ifCond .eq 7, 333, 337, 1) := rfl
theorem zr_0_333 : zRp 0 333 334 (0, 1) := ⟨_, _, _, _, rfl, by decide, Option.some_ne_none _, rfl⟩
theorem zr_0_334 : zRow xM 0 334 = some (42, .goto 4, 335, 338, 0) := rfl
theorem zr_0_337 : zRp 0 337 338 (0, 0) := ⟨_, _, _, _, rfl, by decide, Option.some_ne_none _, rfl⟩
theorem zr_0_338 : zRow xM 0 338 = some (105, .invokevirtual 27, 341, 147, 9) := rfl
theorem zr_0_341 : zRow xM 0 341 = some (115, .pop, 342, 0, 0) := rfl
theorem zr_0_342 : zRow xM 0 342 = some (42, .goto 896, 343, 1238, 0) := rfl
theorem zr_0_345 : zRow xM 0 345 = some (7, .aload_n 1, 346, 1, 0) := rfl
theorem zr_0_346 : zRow xM 0 346 = some (7, .aload_n 0, 347, 0, 0) := rfl
theorem zr_0_347 : zRow xM 0 347 = some (3, .iload_n 3, 348, 3, 0) := rfl
theorem zr_0_348 : zRp 0 348 349 (0, 1) := ⟨_, _, _, _, rfl, by decide, Option.some_ne_none _, rfl⟩
theorem zr_0_349 : zRow xM 0 349 = some (16, .iadd, 350, 0, 0) := rfl
theorem zr_0_350 : zRow xM 0 350 = some (100, .iaload, 351, 0, 0) := rfl
theorem zr_0_351 : zRow xM 0 351 = some (7, .aload_n 0, 352, 0, 0) := rfl
theorem zr_0_352 : zRow xM 0 352 = some (3, .iload_n 3, 353, 3, 0) := rfl
theorem zr_0_353 : zRp 0 353 354 (0, 2) := ⟨_, _, _, _, rfl, by decide, Option.some_ne_none _, rfl⟩
theorem zr_0_354 : zRow xM 0 354 = some (16, .iadd, 355, 0, 0) := rfl
theorem zr_0_355 : zRow xM 0 355 = some (100, .iaload, 356, 0, 0) := rfl
theorem zr_0_356 : zRow xM 0 356 = some (105, .invokevirtual 28, 359, 105, 8) := rfl
theorem zr_0_359 : zRow xM 0 359 = some (115, .pop, 360, 0, 0) := rfl
theorem zr_0_360 : zRow xM 0 360 = some (7, .aload_n 2, 361, 2, 0) := rfl
theorem zr_0_361 : zRow xM 0 361 = some (7, .aload_n 0, 362, 0, 0) := rfl
theorem zr_0_362 : zRow xM 0 362 = some (3, .iload_n 3, 363, 3, 0) := rfl
theorem zr_0_363 : zRp 0 363 364 (0, 1) := ⟨_, _, _, _, rfl, by decide, Option.some_ne_none _, rfl⟩
theorem zr_0_364 : zRow xM 0 364 = some (16, .iadd, 365, 0, 0) := rfl
theorem zr_0_365 : zRow xM 0 365 = some (100, .iaload, 366, 0, 0) := rfl
theorem zr_0_366 : zRow xM 0 366 = some (7, .aload_n 0, 367, 0, 0) := rfl
theorem zr_0_367 : zRow xM 0 367 = some (3, .iload_n 3, 368, 3, 0) := rfl
theorem zr_0_368 : zRp 0 368 369 (0, 2) := ⟨_, _, _, _, rfl, by decide, Option.some_ne_none _, rfl⟩
theorem zr_0_369 : zRow xM 0 369 = some (16, .iadd, 370, 0, 0) := rfl
theorem zr_0_370 : zRow xM 0 370 = some (100, .iaload, 371, 0, 0) := rfl
theorem zr_0_371 : zRow xM 0 371 = some (105, .invokevirtual 32, 374, 149, 9) := rfl
theorem zr_0_374 : zRow xM 0 374 = some (115, .pop, 375, 0, 0) := rfl
theorem zr_0_375 : zRow xM 0 375 = some (42, .goto 863, 376, 1238, 0) := rfl
theorem zr_0_378 : zRow xM 0 378 = some (7, .aload_n 1, 379, 1, 0) := rfl
theorem zr_0_379 : zRow xM 0 379 = some (7, .aload_n 0, 380, 0, 0) := rfl
theorem zr_0_380 : zRow xM 0 380 = some (3, .iload_n 3, 381, 3, 0) := rfl
theorem zr_0_381 : zRp 0 381 382 (0, 1) := ⟨_, _, _, _, rfl, by decide, Option.some_ne_none _, rfl⟩
theorem zr_0_382 : zRow xM 0 382 = some (16, .iadd, 383, 0, 0) := rfl
theorem zr_0_383 : zRow xM 0 383 = some (100, .iaload, 384, 0, 0) := rfl
theorem zr_0_384 : zRow xM 0 384 = some (7, .aload_n 0, 385, 0, 0) := rfl
theorem zr_0_385 : zRow xM 0 385 = some (3, .iload_n 3, 386, 3, 0) := rfl
theorem zr_0_386 : zRp 0 386 387 (0, 2) := ⟨_, _, _, _, rfl, by decide, Option.some_ne_none _, rfl⟩
theorem zr_0_387 : zRow xM 0 387 = some (16, .iadd, 388, 0, 0) := rfl
theorem zr_0_388 : zRow xM 0 388 = some (100, .iaload, 389, 0, 0) := rfl
theorem zr_0_389 : zRow xM 0 389 = some (105, .invokevirtual 33, 392, 106, 8) := rfl
theorem zr_0_392 : zRow xM 0 392 = some (115, .pop, 393, 0, 0) := rfl
theorem zr_0_393 : zRow xM 0 393 = some (7, .aload_n 2, 394, 2, 0) := rfl
theorem zr_0_394 : zRow xM 0 394 = some (7, .aload_n 0, 395, 0, 0) := rfl
theorem zr_0_395 : zRow xM 0 395 = some (3, .iload_n 3, 396, 3, 0) := rfl
theorem zr_0_396 : zRp 0 396 397 (0, 1) := ⟨_, _, _, _, rfl, by decide, Option.some_ne_none _, rfl⟩
theorem zr_0_397 : zRow xM 0 397 = some (16, .iadd, 398, 0, 0) := rfl
theorem zr_0_398 : zRow xM 0 398 = some (100, .iaload, 399, 0, 0) := rfl
theorem zr_0_399 : zRow xM 0 399 = some (7, .aload_n 0, 400, 0, 0) := rfl
theorem zr_0_400 : zRow xM 0 400 = some (3, .iload_n 3, 401, 3, 0) := rfl
theorem zr_0_401 : zRp 0 401 402 (0, 2) := ⟨_, _, _, _, rfl, by decide, Option.some_ne_none _, rfl⟩
theorem zr_0_402 : zRow xM 0 402 = some (16, .iadd, 403, 0, 0) := rfl
theorem zr_0_403 : zRow xM 0 403 = some (100, .iaload, 404, 0, 0) := rfl
theorem zr_0_404 : zRow xM 0 404 = some (105, .invokevirtual 36, 407, 150, 9) := rfl
theorem zr_0_407 : zRow xM 0 407 = some (115, .pop, 408, 0, 0) := rfl
theorem zr_0_408 : zRow xM 0 408 = some (42, .goto 830, 409, 1238, 0) := rfl
theorem zr_0_411 : zRow xM 0 411 = some (7, .aload_n 1, 412, 1, 0) := rfl
theorem zr_0_412 : zRow xM 0 412 = some (7, .aload_n 0, 413, 0, 0) := rfl
theorem zr_0_413 : zRow xM 0 413 = some (3, .iload_n 3, 414, 3, 0) := rfl
theorem zr_0_414 : zRp 0 414 415 (0, 1) := ⟨_, _, _, _, rfl, by decide, Option.some_ne_none _, rfl⟩
theorem zr_0_415 : zRow xM 0 415 = some (16, .iadd, 416, 0, 0) := rfl
theorem zr_0_416 : zRow xM 0 416 = some (100, .iaload, 417, 0, 0) := rfl
theorem zr_0_417 : zRow xM 0 417 = some (105, .invokevirtual 37, 420, 107, 8) := rfl
theorem zr_0_420 : zRow xM 0 420 = some (115, .pop, 421, 0, 0) := rfl
theorem zr_0_421 : zRow xM 0 421 = some (7, .aload_n 2, 422, 2, 0) := rfl
theorem zr_0_422 : zRow xM 0 422 = some (7, .aload_n 0, 423, 0, 0) := rfl
theorem zr_0_423 : zRow xM 0 423 = some (3, .iload_n 3, 424, 3, 0) := rfl
theorem zr_0_424 : zRp 0 424 425 (0, 1) := ⟨_, _, _, _, rfl, by decide, Option.some_ne_none _, rfl⟩
theorem zr_0_425 : zRow xM 0 425 = some (16, .iadd, 426, 0, 0) := rfl
theorem zr_0_426 : zRow xM 0 426 = some (100, .iaload, 427, 0, 0) := rfl
theorem zr_0_427 : zRow xM 0 427 = some (105, .invokevirtual 40, 430, 151, 9) := rfl
theorem zr_0_430 : zRow xM 0 430 = some (115, .pop, 431, 0, 0) := rfl
theorem zr_0_431 : zRow xM 0 431 = some (42, .goto 807, 432, 1238, 0) := rfl
theorem zr_0_434 : zRow xM 0 434 = some (7, .aload_n 1, 435, 1, 0) := rfl
theorem zr_0_435 : zRow xM 0 435 = some (7, .aload_n 0, 436, 0, 0) := rfl
theorem zr_0_436 : zRow xM 0 436 = some (3, .iload_n 3, 437, 3, 0) := rfl
theorem zr_0_437 : zRp 0 437 438 (0, 1) := ⟨_, _, _, _, rfl, by decide, Option.some_ne_none _, rfl⟩
theorem zr_0_438 : zRow xM 0 438 = some (16, .iadd, 439, 0, 0) := rfl
theorem zr_0_439 : zRow xM 0 439 = some (100, .iaload, 440, 0, 0) := rfl
theorem zr_0_440 : zRow xM 0 440 = some (105, .invokevirtual 41, 443, 108, 8) := rfl
theorem zr_0_443 : zRow xM 0 443 = some (115, .pop, 444, 0, 0) := rfl
theorem zr_0_444 : zRow xM 0 444 = some (7, .aload_n 2, 445, 2, 0) := rfl
theorem zr_0_445 : zRow xM 0 445 = some (7, .aload_n 0, 446, 0, 0) := rfl
theorem zr_0_446 : zRow xM 0 446 = some (3, .iload_n 3, 447, 3, 0) := rfl
theorem zr_0_447 : zRp 0 447 448 (0, 1) := ⟨_, _, _, _, rfl, by decide, Option.some_ne_none _, rfl⟩
theorem zr_0_448 : zRow xM 0 448 = some (16, .iadd, 449, 0, 0) := rfl
theorem zr_0_449 : zRow xM 0 449 = some (100, .iaload, 450, 0, 0) := rfl
theorem zr_0_450 : zRow xM 0 450 = some (105, .invokevirtual 44, 453, 163, 9) := rfl
theorem zr_0_453 : zRow xM 0 453 = some (115, .pop, 454, 0, 0) := rfl
theorem zr_0_454 : zRow xM 0 454 = some (42, .goto 784, 455, 1238, 0) := rfl
theorem zr_0_457 : zRow xM 0 457 = some (7, .aload_n 1, 458, 1, 0) := rfl
theorem zr_0_458 : zRow xM 0 458 = some (7, .aload_n 0, 459, 0, 0) := rfl
theorem zr_0_459 : zRow xM 0 459 = some (3, .iload_n 3, 460, 3, 0) := rfl
theorem zr_0_460 : zRp 0 460 461 (0, 1) := ⟨_, _, _, _, rfl, by decide, Option.some_ne_none _, rfl⟩
theorem zr_0_461 : zRow xM 0 461 = some (16, .iadd, 462, 0, 0) := rfl
theorem zr_0_462 : zRow xM 0 462 = some (100, .iaload, 463, 0, 0) := rfl
theorem zr_0_463 : zRow xM 0 463 = some (7, .aload_n 0, 464, 0, 0) := rfl
theorem zr_0_464 : zRow xM 0 464 = some (3, .iload_n 3, 465, 3, 0) := rfl
theorem zr_0_465 : zRp 0 465 466 (0, 2) := ⟨_, _, _, _, rfl, by decide, Option.some_ne_none _, rfl⟩
theorem zr_0_466 : zRow xM 0 466 = some (16, .iadd, 467, 0, 0) := rfl
theorem zr_0_467 : zRow xM 0 467 = some (100, .iaload, 468, 0, 0) := rfl
theorem zr_0_468 : zRow xM 0 468 = some (7, .aload_n 0, 469, 0, 0) := rfl
theorem zr_0_469 : zRow xM 0 469 = some (3, .iload_n 3, 470, 3, 0) := rfl
theorem zr_0_470 : zRp 0 470 471 (0, 3) := ⟨_, _, _, _, rfl, by decide, Option.some_ne_none _, rfl⟩
theorem zr_0_471 : zRow xM 0 471 = some (16, .iadd, 472, 0, 0) := rfl
theorem zr_0_472 : zRow xM 0 472 = some (100, .iaload, 473, 0, 0) := rfl
theorem zr_0_473 : zRow xM 0 473 = some (105, .invokevirtual 45, 476, 109, 8) := rfl
theorem zr_0_476 : zRow xM 0 476 = some (115, .pop, 477, 0, 0) := rfl
theorem zr_0_477 : zRow xM 0 477 = some (7, .aload_n 2, 478, 2, 0) := rfl
theorem zr_0_478 : zRow xM 0 478 = some (7, .aload_n 0, 479, 0, 0) := rfl
theorem zr_0_479 : zRow xM 0 479 = some (3, .iload_n 3, 480, 3, 0) := rfl
theorem zr_0_480 : zRp 0 480 481 (0, 1) := ⟨_, _, _, _, rfl, by decide, Option.some_ne_none _, rfl⟩
theorem zr_0_481 : zRow xM 0 481 = some (16, .iadd, 482, 0, 0) := rfl
theorem zr_0_482 : zRow xM 0 482 = some (100, .iaload, 483, 0, 0) := rfl
theorem zr_0_483 : zRow xM 0 483 = some (7, .aload_n 0, 484, 0, 0) := rfl
theorem zr_0_484 : zRow xM 0 484 = some (3, .iload_n 3, 485, 3, 0) := rfl
theorem zr_0_485 : zRp 0 485 486 (0, 2) := ⟨_, _, _, _, rfl, by decide, Option.some_ne_none _, rfl⟩
theorem zr_0_486 : zRow xM 0 486 = some (16, .iadd, 487, 0, 0) := rfl
theorem zr_0_487 : zRow xM 0 487 = some (100, .iaload, 488, 0, 0) := rfl
theorem zr_0_488 : zRow xM 0 488 = some (7, .aload_n 0, 489, 0, 0) := rfl
theorem zr_0_489 : zRow xM 0 489 = some (3, .iload_n 3, 490, 3, 0) := rfl
theorem zr_0_490 : zRp 0 490 491 (0, 3) := ⟨_, _, _, _, rfl, by decide, Option.some_ne_none _, rfl⟩
theorem zr_0_491 : zRow xM 0 491 = some (16, .iadd, 492, 0, 0) := rfl
theorem zr_0_492 : zRow xM 0 492 = some (100, .iaload, 493, 0, 0) := rfl
theorem zr_0_493 : zRow xM 0 493 = some (105, .invokevirtual 49, 496, 168, 9) := rfl
theorem zr_0_496 : zRow xM 0 496 = some (115, .pop, 497, 0, 0) := rfl
theorem zr_0_497 : zRow xM 0 497 = some (42, .goto 741, 498, 1238, 0) := rfl
theorem zr_0_500 : zRow xM 0 500 = some (7, .aload_n 1, 501, 1, 0) := rfl
theorem zr_0_501 : zRow xM 0 501 = some (7, .aload_n 0, 502, 0, 0) := rfl
theorem zr_0_502 : zRow xM 0 502 = some (3, .iload_n 3, 503, 3, 0) := rfl
theorem zr_0_503 : zRp 0 503 504 (0, 1) := ⟨_, _, _, _, rfl, by decide, Option.some_ne_none _, rfl⟩
theorem zr_0_504 : zRow xM 0 504 = some (16, .iadd, 505, 0, 0) := rfl
theorem zr_0_505 : zRow xM 0 505 = some (100, .iaload, 506, 0, 0) := rfl
theorem zr_0_506 : zRow xM 0 506 = some (7, .aload_n 0, 507, 0, 0) := rfl
theorem zr_0_507 : zRow xM 0 507 = some (3, .iload_n 3, 508, 3, 0) := rfl
theorem zr_0_508 : zRp 0 508 509 (0, 2) := ⟨_, _, _, _, rfl, by decide, Option.some_ne_none _, rfl⟩
theorem zr_0_509 : zRow xM 0 509 = some (16, .iadd, 510, 0, 0) := rfl
theorem zr_0_510 : zRow xM 0 510 = some (100, .iaload, 511, 0, 0) := rfl
theorem zr_0_511 : zRow xM 0 511 = some (105, .invokevirtual 50, 514, 110, 8) := rfl
theorem zr_0_514 : zRow xM 0 514 = some (115, .pop, 515, 0, 0) := rfl
theorem zr_0_515 : zRow xM 0 515 = some (7, .aload_n 2, 516, 2, 0) := rfl
theorem zr_0_516 : zRow xM 0 516 = some (7, .aload_n 0, 517, 0, 0) := rfl
theorem zr_0_517 : zRow xM 0 517 = some (3, .iload_n 3, 518, 3, 0) := rfl
theorem zr_0_518 : zRp 0 518 519 (0, 1) := ⟨_, _, _, _, rfl, by decide, Option.some_ne_none _, rfl⟩
theorem zr_0_519 : zRow xM 0 519 = some (16, .iadd, 520, 0, 0) := rfl
theorem zr_0_520 : zRow xM 0 520 = some (100, .iaload, 521, 0, 0) := rfl
theorem zr_0_521 : zRow xM 0 521 = some (7, .aload_n 0, 522, 0, 0) := rfl
theorem zr_0_522 : zRow xM 0 522 = some (3, .iload_n 3, 523, 3, 0) := rfl
theorem zr_0_523 : zRp 0 523 524 (0, 2) := ⟨_, _, _, _, rfl, by decide, Option.some_ne_none _, rfl⟩
theorem zr_0_524 : zRow xM 0 524 = some (16, .iadd, 525, 0, 0) := rfl
theorem zr_0_525 : zRow xM 0 525 = some (100, .iaload, 526, 0, 0) := rfl
theorem zr_0_526 : zRow xM 0 526 = some (105, .invokevirtual 53, 529, 170, 9) := rfl
theorem zr_0_529 : zRow xM 0 529 = some (115, .pop, 530, 0, 0) := rfl
theorem zr_0_530 : zRow xM 0 530 = some (42, .goto 708, 531, 1238, 0) := rfl
theorem zr_0_533 : zRow xM 0 533 = some (7, .aload_n 1, 534, 1, 0) := rfl
theorem zr_0_534 : zRow xM 0 534 = some (7, .aload_n 0, 535, 0, 0) := rfl
theorem zr_0_535 : zRow xM 0 535 = some (3, .iload_n 3, 536, 3, 0) := rfl
theorem zr_0_536 : zRp 0 536 537 (0, 1) := ⟨_, _, _, _, rfl, by decide, Option.some_ne_none _, rfl⟩
theorem zr_0_537 : zRow xM 0 537 = some (16, .iadd, 538, 0, 0) := rfl
theorem zr_0_538 : zRow xM 0 538 = some (100, .iaload, 539, 0, 0) := rfl
theorem zr_0_539 : zRow xM 0 539 = some (7, .aload_n 0, 540, 0, 0) := rfl
theorem zr_0_540 : zRow xM 0 540 = some (3, .iload_n 3, 541, 3, 0) := rfl
theorem zr_0_541 : zRp 0 541 542 (0, 2) := ⟨_, _, _, _, rfl, by decide, Option.some_ne_none _, rfl⟩
theorem zr_0_542 : zRow xM 0 542 = some (16, .iadd, 543, 0, 0) := rfl
theorem zr_0_543 : zRow xM 0 543 = some (100, .iaload, 544, 0, 0) := rfl
theorem zr_0_544 : zRow xM 0 544 = some (7, .aload_n 0, 545, 0, 0) := rfl
theorem zr_0_545 : zRow xM 0 545 = some (3, .iload_n 3, 546, 3, 0) := rfl
theorem zr_0_546 : zRp 0 546 547 (0, 3) := ⟨_, _, _, _, rfl, by decide, Option.some_ne_none _, rfl⟩
theorem zr_0_547 : zRow xM 0 547 = some (16, .iadd, 548, 0, 0) := rfl
theorem zr_0_548 : zRow xM 0 548 = some (100, .iaload, 549, 0, 0) := rfl
theorem zr_0_549 : zRow xM 0 549 = some (105, .invokevirtual 54, 552, 111, 8) := rfl
theorem zr_0_552 : zRow xM 0 552 = some (115, .pop, 553, 0, 0) := rfl
theorem zr_0_553 : zRow xM 0 553 = some (7, .aload_n 2, 554, 2, 0) := rfl
theorem zr_0_554 : zRow xM 0 554 = some (7, .aload_n 0, 555, 0, 0) := rfl
theorem zr_0_555 : zRow xM 0 555 = some (3, .iload_n 3, 556, 3, 0) := rfl
theorem zr_0_556 : zRp 0 556 557 (0, 1) := ⟨_, _, _, _, rfl, by decide, Option.some_ne_none _, rfl⟩
theorem zr_0_557 : zRow xM 0 557 = some (16, .iadd, 558, 0, 0) := rfl
theorem zr_0_558 : zRow xM 0 558 = some (100, .iaload, 559, 0, 0) := rfl
theorem zr_0_559 : zRow xM 0 559 = some (7, .aload_n 0, 560, 0, 0) := rfl
theorem zr_0_560 : zRow xM 0 560 = some (3, .iload_n 3, 561, 3, 0) := rfl
theorem zr_0_561 : zRp 0 561 562 (0, 2) := ⟨_, _, _, _, rfl, by decide, Option.some_ne_none _, rfl⟩
theorem zr_0_562 : zRow xM 0 562 = some (16, .iadd, 563, 0, 0) := rfl
theorem zr_0_563 : zRow xM 0 563 = some (100, .iaload, 564, 0, 0) := rfl
theorem zr_0_564 : zRow xM 0 564 = some (7, .aload_n 0, 565, 0, 0) := rfl
theorem zr_0_565 : zRow xM 0 565 = some (3, .iload_n 3, 566, 3, 0) := rfl
theorem zr_0_566 : zRp 0 566 567 (0, 3) := ⟨_, _, _, _, rfl, by decide, Option.some_ne_none _, rfl⟩
theorem zr_0_567 : zRow xM 0 567 = some (16, .iadd, 568, 0, 0) := rfl
theorem zr_0_568 : zRow xM 0 568 = some (100, .iaload, 569, 0, 0) := rfl
theorem zr_0_569 : zRow xM 0 569 = some (105, .invokevirtual 57, 572, 174, 9) := rfl
theorem zr_0_572 : zRow xM 0 572 = some (115, .pop, 573, 0, 0) := rfl
theorem zr_0_573 : zRow xM 0 573 = some (42, .goto 665, 574, 1238, 0) := rfl
theorem zr_0_576 : zRow xM 0 576 = some (7, .aload_n 1, 577, 1, 0) := rfl
theorem zr_0_577 : zRow xM 0 577 = some (7, .aload_n 0, 578, 0, 0) := rfl
theorem zr_0_578 : zRow xM 0 578 = some (3, .iload_n 3, 579, 3, 0) := rfl
theorem zr_0_579 : zRp 0 579 580 (0, 1) := ⟨_, _, _, _, rfl, by decide, Option.some_ne_none _, rfl⟩
theorem zr_0_580 : zRow xM 0 580 = some (16, .iadd, 581, 0, 0) := rfl
theorem zr_0_581 : zRow xM 0 581 = some (100, .iaload, 582, 0, 0) := rfl
theorem zr_0_582 : zRow xM 0 582 = some (7, .aload_n 0, 583, 0, 0) := rfl
theorem zr_0_583 : zRow xM 0 583 = some (3, .iload_n 3, 584, 3, 0) := rfl
theorem zr_0_584 : zRp 0 584 585 (0, 2) := ⟨_, _, _, _, rfl, by decide, Option.some_ne_none _, rfl⟩
theorem zr_0_585 : zRow xM 0 585 = some (16, .iadd, 586, 0, 0) := rfl
theorem zr_0_586 : zRow xM 0 586 = some (100, .iaload, 587, 0, 0) := rfl
theorem zr_0_587 : zRow xM 0 587 = some (7, .aload_n 0, 588, 0, 0) := rfl
theorem zr_0_588 : zRow xM 0 588 = some (3, .iload_n 3, 589, 3, 0) := rfl
theorem zr_0_589 : zRp 0 589 590 (0, 3) := ⟨_, _, _, _, rfl, by decide, Option.some_ne_none _, rfl⟩
theorem zr_0_590 : zRow xM 0 590 = some (16, .iadd, 591, 0, 0) := rfl
theorem zr_0_591 : zRow xM 0 591 = some (100, .iaload, 592, 0, 0) := rfl
theorem zr_0_592 : zRow xM 0 592 = some (105, .invokevirtual 58, 595, 112, 8) := rfl
theorem zr_0_595 : zRow xM 0 595 = some (115, .pop, 596, 0, 0) := rfl
theorem zr_0_596 : zRow xM 0 596 = some (7, .aload_n 2, 597, 2, 0) := rfl
theorem zr_0_597 : zRow xM 0 597 = some (7, .aload_n 0, 598, 0, 0) := rfl
theorem zr_0_598 : zRow xM 0 598 = some (3, .iload_n 3, 599, 3, 0) := rfl
theorem zr_0_599 : zRp 0 599 600 (0, 1) := ⟨_, _, _, _, rfl, by decide, Option.some_ne_none _, rfl⟩
theorem zr_0_600 : zRow xM 0 600 = some (16, .iadd, 601, 0, 0) := rfl
theorem zr_0_601 : zRow xM 0 601 = some (100, .iaload, 602, 0, 0) := rfl
theorem zr_0_602 : zRow xM 0 602 = some (7, .aload_n 0, 603, 0, 0) := rfl
theorem zr_0_603 : zRow xM 0 603 = some (3, .iload_n 3, 604, 3, 0) := rfl
theorem zr_0_604 : zRp 0 604 605 (0, 2) := ⟨_, _, _, _, rfl, by decide, Option.some_ne_none _, rfl⟩
theorem zr_0_605 : zRow xM 0 605 = some (16, .iadd, 606, 0, 0) := rfl
theorem zr_0_606 : zRow xM 0 606 = some (100, .iaload, 607, 0, 0) := rfl
theorem zr_0_607 : zRow xM 0 607 = some (7, .aload_n 0, 608, 0, 0) := rfl
theorem zr_0_608 : zRow xM 0 608 = some (3, .iload_n 3, 609, 3, 0) := rfl
theorem zr_0_609 : zRp 0 609 610 (0, 3) := ⟨_, _, _, _, rfl, by decide, Option.some_ne_none _, rfl⟩
theorem zr_0_610 : zRow xM 0 610 = some (16, .iadd, 611, 0, 0) := rfl
theorem zr_0_611 : zRow xM 0 611 = some (100, .iaload, 612, 0, 0) := rfl
theorem zr_0_612 : zRow xM 0 612 = some (105, .invokevirtual 61, 615, 175, 9) := rfl
theorem zr_0_615 : zRow xM 0 615 = some (115, .pop, 616, 0, 0) := rfl
theorem zr_0_616 : zRow xM 0 616 = some (42, .goto 622, 617, 1238, 0) := rfl
theorem zr_0_619 : zRow xM 0 619 = some (7, .aload_n 1, 620, 1, 0) := rfl
theorem zr_0_620 : zRow xM 0 620 = some (7, .aload_n 0, 621, 0, 0) := rfl
theorem zr_0_621 : zRow xM 0 621 = some (3, .iload_n 3, 622, 3, 0) := rfl
theorem zr_0_622 : zRp 0 622 623 (0, 1) := ⟨_, _, _, _, rfl, by decide, Option.some_ne_none _, rfl⟩
theorem zr_0_623 : zRow xM 0 623 = some (16, .iadd, 624, 0, 0) := rfl
theorem zr_0_624 : zRow xM 0 624 = some (100, .iaload, 625, 0, 0) := rfl
theorem zr_0_625 : zRow xM 0 625 = some (105, .invokevirtual 62, 628, 113, 8) := rfl
theorem zr_0_628 : zRow xM 0 628 = some (115, .pop, 629, 0, 0) := rfl
theorem zr_0_629 : zRow xM 0 629 = some (7, .aload_n 2, 630, 2, 0) := rfl
theorem zr_0_630 : zRow xM 0 630 = some (7, .aload_n 0, 631, 0, 0) := rfl
theorem zr_0_631 : zRow xM 0 631 = some (3, .iload_n 3, 632, 3, 0) := rfl
theorem zr_0_632 : zRp 0 632 633 (0, 1) := ⟨_, _, _, _, rfl, by decide, Option.some_ne_none _, rfl⟩
theorem zr_0_633 : zRow xM 0 633 = some (16, .iadd, 634, 0, 0) := rfl
theorem zr_0_634 : zRow xM 0 634 = some (100, .iaload, 635, 0, 0) := rfl
theorem zr_0_635 : zRow xM 0 635 = some (105, .invokevirtual 65, 638, 177, 9) := rfl
theorem zr_0_638 : zRow xM 0 638 = some (115, .pop, 639, 0, 0) := rfl
theorem zr_0_639 : zRow xM 0 639 = some (42, .goto 599, 640, 1238, 0) := rfl
theorem zr_0_642 : zRow xM 0 642 = some (7, .aload_n 1, 643, 1, 0) := rfl
theorem zr_0_643 : zRow xM 0 643 = some (105, .invokevirtual 66, 646, 114, 8) := rfl
theorem zr_0_646 : zRow xM 0 646 = some (7, .aload_n 2, 647, 2, 0) := rfl
theorem zr_0_647 : zRow xM 0 647 = some (105, .invokevirtual 70, 650, 178, 9) := rfl
theorem zr_0_650 : zRow xM 0 650 = some (41, .if_icmp .eq 588, 653, 1238, 1) := rfl
theorem zr_0_653 : zRp 0 653 654 (0, 0) := ⟨_, _, _, _, rfl, by decide, Option.some_ne_none _, rfl⟩
theorem zr_0_654 : zRow xM 0 654 = some (108, .ireturn, 655, 0, 0) := rfl
theorem zr_0_655 : zRow xM 0 655 = some (7, .aload_n 1, 656, 1, 0) := rfl
theorem zr_0_656 : zRow xM 0 656 = some (7, .aload_n 0, 657, 0, 0) := rfl
theorem zr_0_657 : zRow xM 0 657 = some (3, .iload_n 3, 658, 3, 0) := rfl
theorem zr_0_658 : zRp 0 658 659 (0, 1) := ⟨_, _, _, _, rfl, by decide, Option.some_ne_none _, rfl⟩
theorem zr_0_659 : zRow xM 0 659 = some (16, .iadd, 660, 0, 0) := rfl
theorem zr_0_660 : zRow xM 0 660 = some (100, .iaload, 661, 0, 0) := rfl
theorem zr_0_661 : zRow xM 0 661 = some (7, .aload_n 0, 662, 0, 0) := rfl
theorem zr_0_662 : zRow xM 0 662 = some (3, .iload_n 3, 663, 3, 0) := rfl
theorem zr_0_663 : zRp 0 663 664 (0, 2) := ⟨_, _, _, _, rfl, by decide, Option.some_ne_none _, rfl⟩
theorem zr_0_664 : zRow xM 0 664 = some (16, .iadd, 665, 0, 0) := rfl
theorem zr_0_665 : zRow xM 0 665 = some (100, .iaload, 666, 0, 0) := rfl
theorem zr_0_666 : zRow xM 0 666 = some (105, .invokevirtual 71, 669, 115, 8) := rfl
theorem zr_0_669 : zRow xM 0 669 = some (115, .pop, 670, 0, 0) := rfl
theorem zr_0_670 : zRow xM 0 670 = some (7, .aload_n 2, 671, 2, 0) := rfl
theorem zr_0_671 : zRow xM 0 671 = some (7, .aload_n 0, 672, 0, 0) := rfl
theorem zr_0_672 : zRow xM 0 672 = some (3, .iload_n 3, 673, 3, 0) := rfl
theorem zr_0_673 : zRp 0 673 674 (0, 1) := ⟨_, _, _, _, rfl, by decide, Option.some_ne_none _, rfl⟩
theorem zr_0_674 : zRow xM 0 674 = some (16, .iadd, 675, 0, 0) := rfl
theorem zr_0_675 : zRow xM 0 675 = some (100, .iaload, 676, 0, 0) := rfl
theorem zr_0_676 : zRow xM 0 676 = some (7, .aload_n 0, 677, 0, 0) := rfl
theorem zr_0_677 : zRow xM 0 677 = some (3, .iload_n 3, 678, 3, 0) := rfl
theorem zr_0_678 : zRp 0 678 679 (0, 2) := ⟨_, _, _, _, rfl, by decide, Option.some_ne_none _, rfl⟩
theorem zr_0_679 : zRow xM 0 679 = some (16, .iadd, 680, 0, 0) := rfl
theorem zr_0_680 : zRow xM 0 680 = some (100, .iaload, 681, 0, 0) := rfl
theorem zr_0_681 : zRow xM 0 681 = some (105, .invokevirtual 74, 684, 179, 9) := rfl
theorem zr_0_684 : zRow xM 0 684 = some (115, .pop, 685, 0, 0) := rfl
theorem zr_0_685 : zRow xM 0 685 = some (42, .goto 553, 686, 1238, 0) := rfl
theorem zr_0_688 : zRow xM 0 688 = some (7, .aload_n 1, 689, 1, 0) := rfl
theorem zr_0_689 : zRow xM 0 689 = some (7, .aload_n 0, 690, 0, 0) := rfl
theorem zr_0_690 : zRow xM 0 690 = some (3, .iload_n 3, 691, 3, 0) := rfl
theorem zr_0_691 : zRp 0 691 692 (0, 1) := ⟨_, _, _, _, rfl, by decide, Option.some_ne_none _, rfl⟩
theorem zr_0_692 : zRow xM 0 692 = some (16, .iadd, 693, 0, 0) := rfl
theorem zr_0_693 : zRow xM 0 693 = some (100, .iaload, 694, 0, 0) := rfl
theorem zr_0_694 : zRow xM 0 694 = some (7, .aload_n 0, 695, 0, 0) := rfl
theorem zr_0_695 : zRow xM 0 695 = some (3, .iload_n 3, 696, 3, 0) := rfl
theorem zr_0_696 : zRp 0 696 697 (0, 2) := ⟨_, _, _, _, rfl, by decide, Option.some_ne_none _, rfl⟩
theorem zr_0_697 : zRow xM 0 697 = some (16, .iadd, 698, 0, 0) := rfl
theorem zr_0_698 : zRow xM 0 698 = some (100, .iaload, 699, 0, 0) := rfl
theorem zr_0_699 : zRow xM 0 699 = some (105, .invokevirtual 75, 702, 116, 8) := rfl
theorem zr_0_702 : zRow xM 0 702 = some (115, .pop, 703, 0, 0) := rfl
theorem zr_0_703 : zRow xM 0 703 = some (7, .aload_n 2, 704, 2, 0) := rfl
theorem zr_0_704 : zRow xM 0 704 = some (7, .aload_n 0, 705, 0, 0) := rfl
theorem zr_0_705 : zRow xM 0 705 = some (3, .iload_n 3, 706, 3, 0) := rfl
theorem zr_0_706 : zRp 0 706 707 (0, 1) := ⟨_, _, _, _, rfl, by decide, Option.some_ne_none _, rfl⟩
theorem zr_0_707 : zRow xM 0 707 = some (16, .iadd, 708, 0, 0) := rfl
theorem zr_0_708 : zRow xM 0 708 = some (100, .iaload, 709, 0, 0) := rfl
theorem zr_0_709 : zRow xM 0 709 = some (7, .aload_n 0, 710, 0, 0) := rfl
theorem zr_0_710 : zRow xM 0 710 = some (3, .iload_n 3, 711, 3, 0) := rfl
theorem zr_0_711 : zRp 0 711 712 (0, 2) := ⟨_, _, _, _, rfl, by decide, Option.some_ne_none _, rfl⟩
theorem zr_0_712 : zRow xM 0 712 = some (16, .iadd, 713, 0, 0) := rfl
theorem zr_0_713 : zRow xM 0 713 = some (100, .iaload, 714, 0, 0) := rfl
theorem zr_0_714 : zRow xM 0 714 = some (105, .invokevirtual 78, 717, 180, 9) := rfl
theorem zr_0_717 : zRow xM 0 717 = some (115, .pop, 718, 0, 0) := rfl
theorem zr_0_718 : zRow xM 0 718 = some (42, .goto 520, 719, 1238, 0) := rfl
theorem zr_0_721 : zRow xM 0 721 = some (7, .aload_n 1, 722, 1, 0) := rfl
theorem zr_0_722 : zRow xM 0 722 = some (105, .invokevirtual 79, 725, 117, 8) := rfl
theorem zr_0_725 : zRow xM 0 725 = some (115, .pop, 726, 0, 0) := rfl
theorem zr_0_726 : zRow xM 0 726 = some (7, .aload_n 2, 727, 2, 0) := rfl
theorem zr_0_727 : zRow xM 0 727 = some (105, .invokevirtual 82, 730, 185, 9) := rfl
theorem zr_0_730 : zRow xM 0 730 = some (115, .pop, 731, 0, 0) := rfl
theorem zr_0_731 : zRow xM 0 731 = some (42, .goto 507, 732, 1238, 0) := rfl
theorem zr_0_734 : zRow xM 0 734 = some (7, .aload_n 1, 735, 1, 0) := rfl
theorem zr_0_735 : zRow xM 0 735 = some (7, .aload_n 0, 736, 0, 0) := rfl
theorem zr_0_736 : zRow xM 0 736 = some (3, .iload_n 3, 737, 3, 0) := rfl
theorem zr_0_737 : zRp 0 737 738 (0, 1) := ⟨_, _, _, _, rfl, by decide, Option.some_ne_none _, rfl⟩
theorem zr_0_738 : zRow xM 0 738 = some (16, .iadd, 739, 0, 0) := rfl
theorem zr_0_739 : zRow xM 0 739 = some (100, .iaload, 740, 0, 0) := rfl
theorem zr_0_740 : zRow xM 0 740 = some (7, .aload_n 0, 741, 0, 0) := rfl
theorem zr_0_741 : zRow xM 0 741 = some (3, .iload_n 3, 742, 3, 0) := rfl
theorem zr_0_742 : zRp 0 742 743 (0, 2) := ⟨_, _, _, _, rfl, by decide, Option.some_ne_none _, rfl⟩
theorem zr_0_743 : zRow xM 0 743 = some (16, .iadd, 744, 0, 0) := rfl
theorem zr_0_744 : zRow xM 0 744 = some (100, .iaload, 745, 0, 0) := rfl
theorem zr_0_745 : zRow xM 0 745 = some (7, .aload_n 0, 746, 0, 0) := rfl
theorem zr_0_746 : zRow xM 0 746 = some (3, .iload_n 3, 747, 3, 0) := rfl
theorem zr_0_747 : zRp 0 747 748 (0, 3) := ⟨_, _, _, _, rfl, by decide, Option.some_ne_none _, rfl⟩
theorem zr_0_748 : zRow xM 0 748 = some (16, .iadd, 749, 0, 0) := rfl
theorem zr_0_749 : zRow xM 0 749 = some (100, .iaload, 750, 0, 0) := rfl
theorem zr_0_750 : zRow xM 0 750 = some (105, .invokevirtual 83, 753, 118, 8) := rfl
theorem zr_0_753 : zRow xM 0 753 = some (115, .pop, 754, 0, 0) := rfl
theorem zr_0_754 : zRow xM 0 754 = some (7, .aload_n 2, 755, 2, 0) := rfl
theorem zr_0_755 : zRow xM 0 755 = some (7, .aload_n 0, 756, 0, 0) := rfl
theorem zr_0_756 : zRow xM 0 756 = some (3, .iload_n 3, 757, 3, 0) := rfl
theorem zr_0_757 : zRp 0 757 758 (0, 1) := ⟨_, _, _, _, rfl, by decide, Option.some_ne_none _, rfl⟩
theorem zr_0_758 : zRow xM 0 758 = some (16, .iadd, 759, 0, 0) := rfl
theorem zr_0_759 : zRow xM 0 759 = some (100, .iaload, 760, 0, 0) := rfl
theorem zr_0_760 : zRow xM 0 760 = some (7, .aload_n 0, 761, 0, 0) := rfl
theorem zr_0_761 : zRow xM 0 761 = some (3, .iload_n 3, 762, 3, 0) := rfl
theorem zr_0_762 : zRp 0 762 763 (0, 2) := ⟨_, _, _, _, rfl, by decide, Option.some_ne_none _, rfl⟩
theorem zr_0_763 : zRow xM 0 763 = some (16, .iadd, 764, 0, 0) := rfl
theorem zr_0_764 : zRow xM 0 764 = some (100, .iaload, 765, 0, 0) := rfl
theorem zr_0_765 : zRow xM 0 765 = some (7, .aload_n 0, 766, 0, 0) := rfl
theorem zr_0_766 : zRow xM 0 766 = some (3, .iload_n 3, 767, 3, 0) := rfl
theorem zr_0_767 : zRp 0 767 768 (0, 3) := ⟨_, _, _, _, rfl, by decide, Option.some_ne_none _, rfl⟩
theorem zr_0_768 : zRow xM 0 768 = some (16, .iadd, 769, 0, 0) := rfl
theorem zr_0_769 : zRow xM 0 769 = some (100, .iaload, 770, 0, 0) := rfl
theorem zr_0_770 : zRow xM 0 770 = some (105, .invokevirtual 86, 773, 186, 9) := rfl
theorem zr_0_773 : zRow xM 0 773 = some (115, .pop, 774, 0, 0) := rfl
theorem zr_0_774 : zRow xM 0 774 = some (42, .goto 464, 775, 1238, 0) := rfl
theorem zr_0_777 : zRow xM 0 777 = some (7, .aload_n 1, 778, 1, 0) := rfl
theorem zr_0_778 : zRow xM 0 778 = some (105, .invokevirtual 87, 781, 119, 8) := rfl
theorem zr_0_781 : zRow xM 0 781 = some (116, .pop2, 782, 0, 0) := rfl
theorem zr_0_782 : zRow xM 0 782 = some (7, .aload_n 2, 783, 2, 0) := rfl
theorem zr_0_783 : zRow xM 0 783 = some (105, .invokevirtual 91, 786, 187, 9) := rfl
theorem zr_0_786 : zRow xM 0 786 = some (116, .pop2, 787, 0, 0) := rfl
theorem zr_0_787 : zRow xM 0 787 = some (42, .goto 451, 788, 1238, 0) := rfl
theorem zr_0_790 : zRow xM 0 790 = some (7, .aload_n 1, 791, 1, 0) := rfl
theorem zr_0_791 : zRow xM 0 791 = some (7, .aload_n 0, 792, 0, 0) := rfl
theorem zr_0_792 : zRow xM 0 792 = some (3, .iload_n 3, 793, 3, 0) := rfl
theorem zr_0_793 : zRp 0 793 794 (0, 1) := ⟨_, _, _, _, rfl, by decide, Option.some_ne_none _, rfl⟩
theorem zr_0_794 : zRow xM 0 794 = some (16, .iadd, 795, 0, 0) := rfl
theorem zr_0_795 : zRow xM 0 795 = some (100, .iaload, 796, 0, 0) := rfl
theorem zr_0_796 : zRow xM 0 796 = some (105, .invokevirtual 92, 799, 120, 8) := rfl
theorem zr_0_799 : zRow xM 0 799 = some (115, .pop, 800, 0, 0) := rfl
theorem zr_0_800 : zRow xM 0 800 = some (7, .aload_n 2, 801, 2, 0) := rfl
theorem zr_0_801 : zRow xM 0 801 = some (7, .aload_n 0, 802, 0, 0) := rfl
theorem zr_0_802 : zRow xM 0 802 = some (3, .iload_n 3, 803, 3, 0) := rfl
theorem zr_0_803 : zRp 0 803 804 (0, 1) := ⟨_, _, _, _, rfl, by decide, Option.some_ne_none _, rfl⟩
theorem zr_0_804 : zRow xM 0 804 = some (16, .iadd, 805, 0, 0) := rfl
theorem zr_0_805 : zRow xM 0 805 = some (100, .iaload, 806, 0, 0) := rfl
theorem zr_0_806 : zRow xM 0 806 = some (105, .invokevirtual 95, 809, 190, 9) := rfl
theorem zr_0_809 : zRow xM 0 809 = some (115, .pop, 810, 0, 0) := rfl
theorem zr_0_810 : zRow xM 0 810 = some (42, .goto 428, 811, 1238, 0) := rfl
theorem zr_0_813 : zRow xM 0 813 = some (7, .aload_n 1, 814, 1, 0) := rfl
theorem zr_0_814 : zRow xM 0 814 = some (7, .aload_n 0, 815, 0, 0) := rfl
theorem zr_0_815 : zRow xM 0 815 = some (3, .iload_n 3, 816, 3, 0) := rfl
theorem zr_0_816 : zRp 0 816 817 (0, 1) := ⟨_, _, _, _, rfl, by decide, Option.some_ne_none _, rfl⟩
theorem zr_0_817 : zRow xM 0 817 = some (16, .iadd, 818, 0, 0) := rfl
theorem zr_0_818 : zRow xM 0 818 = some (100, .iaload, 819, 0, 0) := rfl
theorem zr_0_819 : zRow xM 0 819 = some (7, .aload_n 0, 820, 0, 0) := rfl
theorem zr_0_820 : zRow xM 0 820 = some (3, .iload_n 3, 821, 3, 0) := rfl
theorem zr_0_821 : zRp 0 821 822 (0, 2) := ⟨_, _, _, _, rfl, by decide, Option.some_ne_none _, rfl⟩
theorem zr_0_822 : zRow xM 0 822 = some (16, .iadd, 823, 0, 0) := rfl
theorem zr_0_823 : zRow xM 0 823 = some (100, .iaload, 824, 0, 0) := rfl
theorem zr_0_824 : zRow xM 0 824 = some (7, .aload_n 0, 825, 0, 0) := rfl
theorem zr_0_825 : zRow xM 0 825 = some (3, .iload_n 3, 826, 3, 0) := rfl
theorem zr_0_826 : zRp 0 826 827 (0, 3) := ⟨_, _, _, _, rfl, by decide, Option.some_ne_none _, rfl⟩
theorem zr_0_827 : zRow xM 0 827 = some (16, .iadd, 828, 0, 0) := rfl
theorem zr_0_828 : zRow xM 0 828 = some (100, .iaload, 829, 0, 0) := rfl
theorem zr_0_829 : zRow xM 0 829 = some (105, .invokevirtual 96, 832, 121, 8) := rfl
theorem zr_0_832 : zRow xM 0 832 = some (115, .pop, 833, 0, 0) := rfl
theorem zr_0_833 : zRow xM 0 833 = some (7, .aload_n 2, 834, 2, 0) := rfl
theorem zr_0_834 : zRow xM 0 834 = some (7, .aload_n 0, 835, 0, 0) := rfl
theorem zr_0_835 : zRow xM 0 835 = some (3, .iload_n 3, 836, 3, 0) := rfl
theorem zr_0_836 : zRp 0 836 837 (0, 1) := ⟨_, _, _, _, rfl, by decide, Option.some_ne_none _, rfl⟩
theorem zr_0_837 : zRow xM 0 837 = some (16, .iadd, 838, 0, 0) := rfl
theorem zr_0_838 : zRow xM 0 838 = some (100, .iaload, 839, 0, 0) := rfl
theorem zr_0_839 : zRow xM 0 839 = some (7, .aload_n 0, 840, 0, 0) := rfl
theorem zr_0_840 : zRow xM 0 840 = some (3, .iload_n 3, 841, 3, 0) := rfl
theorem zr_0_841 : zRp 0 841 842 (0, 2) := ⟨_, _, _, _, rfl, by decide, Option.some_ne_none _, rfl⟩
theorem zr_0_842 : zRow xM 0 842 = some (16, .iadd, 843, 0, 0) := rfl
theorem zr_0_843 : zRow xM 0 843 = some (100, .iaload, 844, 0, 0) := rfl
theorem zr_0_844 : zRow xM 0 844 = some (7, .aload_n 0, 845, 0, 0) := rfl
theorem zr_0_845 : zRow xM 0 845 = some (3, .iload_n 3, 846, 3, 0) := rfl
theorem zr_0_846 : zRp 0 846 847 (0, 3) := ⟨_, _, _, _, rfl, by decide, Option.some_ne_none _, rfl⟩
theorem zr_0_847 : zRow xM 0 847 = some (16, .iadd, 848, 0, 0) := rfl
theorem zr_0_848 : zRow xM 0 848 = some (100, .iaload, 849, 0, 0) := rfl
theorem zr_0_849 : zRow xM 0 849 = some (105, .invokevirtual 99, 852, 191, 9) := rfl
theorem zr_0_852 : zRow xM 0 852 = some (115, .pop, 853, 0, 0) := rfl
theorem zr_0_853 : zRow xM 0 853 = some (42, .goto 385, 854, 1238, 0) := rfl
theorem zr_0_856 : zRow xM 0 856 = some (7, .aload_n 1, 857, 1, 0) := rfl
theorem zr_0_857 : zRow xM 0 857 = some (105, .invokevirtual 100, 860, 122, 8) := rfl
theorem zr_0_860 : zRow xM 0 860 = some (116, .pop2, 861, 0, 0) := rfl
theorem zr_0_861 : zRow xM 0 861 = some (7, .aload_n 2, 862, 2, 0) := rfl
theorem zr_0_862 : zRow xM 0 862 = some (105, .invokevirtual 103, 865, 192, 9) := rfl
theorem zr_0_865 : zRow xM 0 865 = some (116, .pop2, 866, 0, 0) := rfl
theorem zr_0_866 : zRow xM 0 866 = some (42, .goto 372, 867, 1238, 0) := rfl
theorem zr_0_869 : zRow xM 0 869 = some (7, .aload_n 1, 870, 1, 0) := rfl
theorem zr_0_870 : zRow xM 0 870 = some (7, .aload_n 0, 871, 0, 0) := rfl
theorem zr_0_871 : zRow xM 0 871 = some (3, .iload_n 3, 872, 3, 0) := rfl
theorem zr_0_872 : zRp 0 872 873 (0, 1) := ⟨_, _, _, _, rfl, by decide, Option.some_ne_none _, rfl⟩
theorem zr_0_873 : zRow xM 0 873 = some (16, .iadd, 874, 0, 0) := rfl
theorem zr_0_874 : zRow xM 0 874 = some (100, .iaload, 875, 0, 0) := rfl
theorem zr_0_875 : zRow xM 0 875 = some (7, .aload_n 0, 876, 0, 0) := rfl
theorem zr_0_876 : zRow xM 0 876 = some (3, .iload_n 3, 877, 3, 0) := rfl
theorem zr_0_877 : zRp 0 877 878 (0, 2) := ⟨_, _, _, _, rfl, by decide, Option.some_ne_none _, rfl⟩
theorem zr_0_878 : zRow xM 0 878 = some (16, .iadd, 879, 0, 0) := rfl
theorem zr_0_879 : zRow xM 0 879 = some (100, .iaload, 880, 0, 0) := rfl
theorem zr_0_880 : zRow xM 0 880 = some (7, .aload_n 0, 881, 0, 0) := rfl
theorem zr_0_881 : zRow xM 0 881 = some (3, .iload_n 3, 882, 3, 0) := rfl
theorem zr_0_882 : zRp 0 882 883 (0, 3) := ⟨_, _, _, _, rfl, by decide, Option.some_ne_none _, rfl⟩
theorem zr_0_883 : zRow xM 0 883 = some (16, .iadd, 884, 0, 0) := rfl
theorem zr_0_884 : zRow xM 0 884 = some (100, .iaload, 885, 0, 0) := rfl
theorem zr_0_885 : zRow xM 0 885 = some (105, .invokevirtual 104, 888, 123, 8) := rfl
theorem zr_0_888 : zRow xM 0 888 = some (115, .pop, 889, 0, 0) := rfl
theorem zr_0_889 : zRow xM 0 889 = some (7, .aload_n 2, 890, 2, 0) := rfl
theorem zr_0_890 : zRow xM 0 890 = some (7, .aload_n 0, 891, 0, 0) := rfl
theorem zr_0_891 : zRow xM 0 891 = some (3, .iload_n 3, 892, 3, 0) := rfl
theorem zr_0_892 : zRp 0 892 893 (0, 1) := ⟨_, _, _, _, rfl, by decide, Option.some_ne_none _, rfl⟩
theorem zr_0_893 : zRow xM 0 893 = some (16, .iadd, 894, 0, 0) := rfl
theorem zr_0_894 : zRow xM 0 894 = some (100, .iaload, 895, 0, 0) := rfl
theorem zr_0_895 : zRow xM 0 895 = some (7, .aload_n 0, 896, 0, 0) := rfl
theorem zr_0_896 : zRow xM 0 896 = some (3, .iload_n 3, 897, 3, 0) := rfl
theorem zr_0_897 : zRp 0 897 898 (0, 2) := ⟨_, _, _, _, rfl, by decide, Option.some_ne_none _, rfl⟩
theorem zr_0_898 : zRow xM 0 898 = some (16, .iadd, 899, 0, 0) := rfl
theorem zr_0_899 : zRow xM 0 899 = some (100, .iaload, 900, 0, 0) := rfl
theorem zr_0_900 : zRow xM 0 900 = some (7, .aload_n 0, 901, 0, 0) := rfl
theorem zr_0_901 : zRow xM 0 901 = some (3, .iload_n 3, 902, 3, 0) := rfl
theorem zr_0_902 : zRp 0 902 903 (0, 3) := ⟨_, _, _, _, rfl, by decide, Option.some_ne_none _, rfl⟩
theorem zr_0_903 : zRow xM 0 903 = some (16, .iadd, 904, 0, 0) := rfl
theorem zr_0_904 : zRow xM 0 904 = some (100, .iaload, 905, 0, 0) := rfl
theorem zr_0_905 : zRow xM 0 905 = some (105, .invokevirtual 107, 908, 196, 9) := rfl
theorem zr_0_908 : zRow xM 0 908 = some (115, .pop, 909, 0, 0) := rfl
theorem zr_0_909 : zRow xM 0 909 = some (42, .goto 329, 910, 1238, 0) := rfl
theorem zr_0_912 : zRow xM 0 912 = some (7, .aload_n 1, 913, 1, 0) := rfl
theorem zr_0_913 : zRow xM 0 913 = some (105, .invokevirtual 108, 916, 124, 8) := rfl
theorem zr_0_916 : zRow xM 0 916 = some (115, .pop, 917, 0, 0) := rfl
theorem zr_0_917 : zRow xM 0 917 = some (7, .aload_n 2, 918, 2, 0) := rfl
theorem zr_0_918 : zRow xM 0 918 = some (105, .invokevirtual 111, 921, 198, 9) := rfl
theorem zr_0_921 : zRow xM 0 921 = some (115, .pop, 922, 0, 0) := rfl
theorem zr_0_922 : zRow xM 0 922 = some (42, .goto 316, 923, 1238, 0) := rfl
theorem zr_0_925 : zRow xM 0 925 = some (7, .aload_n 1, 926, 1, 0) := rfl
theorem zr_0_926 : zRow xM 0 926 = some (7, .aload_n 0, 927, 0, 0) := rfl
theorem zr_0_927 : zRow xM 0 927 = some (3, .iload_n 3, 928, 3, 0) := rfl
theorem zr_0_928 : zRp 0 928 929 (0, 1) := ⟨_, _, _, _, rfl, by decide, Option.some_ne_none _, rfl⟩
theorem zr_0_929 : zRow xM 0 929 = some (16, .iadd, 930, 0, 0) := rfl
theorem zr_0_930 : zRow xM 0 930 = some (100, .iaload, 931, 0, 0) := rfl
theorem zr_0_931 : zRow xM 0 931 = some (105, .invokevirtual 112, 934, 125, 8) := rfl
theorem zr_0_934 : zRow xM 0 934 = some (115, .pop, 935, 0, 0) := rfl
theorem zr_0_935 : zRow xM 0 935 = some (7, .aload_n 2, 936, 2, 0) := rfl
theorem zr_0_936 : zRow xM 0 936 = some (7, .aload_n 0, 937, 0, 0) := rfl
theorem zr_0_937 : zRow xM 0 937 = some (3, .iload_n 3, 938, 3, 0) := rfl
theorem zr_0_938 : zRp 0 938 939 (0, 1) := ⟨_, _, _, _, rfl, by decide, Option.some_ne_none _, rfl⟩
theorem zr_0_939 : zRow xM 0 939 = some (16, .iadd, 940, 0, 0) := rfl
theorem zr_0_940 : zRow xM 0 940 = some (100, .iaload, 941, 0, 0) := rfl
theorem zr_0_941 : zRow xM 0 941 = some (105, .invokevirtual 115, 944, 199, 9) := rfl
theorem zr_0_944 : zRow xM 0 944 = some (115, .pop, 945, 0, 0) := rfl
theorem zr_0_945 : zRow xM 0 945 = some (42, .goto 293, 946, 1238, 0) := rfl
theorem zr_0_948 : zRow xM 0 948 = some (7, .aload_n 1, 949, 1, 0) := rfl
theorem zr_0_949 : zRow xM 0 949 = some (7, .aload_n 0, 950, 0, 0) := rfl
theorem zr_0_950 : zRow xM 0 950 = some (3, .iload_n 3, 951, 3, 0) := rfl
theorem zr_0_951 : zRp 0 951 952 (0, 1) := ⟨_, _, _, _, rfl, by decide, Option.some_ne_none _, rfl⟩
theorem zr_0_952 : zRow xM 0 952 = some (16, .iadd, 953, 0, 0) := rfl
theorem zr_0_953 : zRow xM 0 953 = some (100, .iaload, 954, 0, 0) := rfl
theorem zr_0_954 : zRow xM 0 954 = some (7, .aload_n 0, 955, 0, 0) := rfl
theorem zr_0_955 : zRow xM 0 955 = some (3, .iload_n 3, 956, 3, 0) := rfl
theorem zr_0_956 : zRp 0 956 957 (0, 2) := ⟨_, _, _, _, rfl, by decide, Option.some_ne_none _, rfl⟩
theorem zr_0_957 : zRow xM 0 957 = some (16, .iadd, 958, 0, 0) := rfl
theorem zr_0_958 : zRow xM 0 958 = some (100, .iaload, 959, 0, 0) := rfl
theorem zr_0_959 : zRow xM 0 959 = some (7, .aload_n 0, 960, 0, 0) := rfl
theorem zr_0_960 : zRow xM 0 960 = some (3, .iload_n 3, 961, 3, 0) := rfl
theorem zr_0_961 : zRp 0 961 962 (0, 3) := ⟨_, _, _, _, rfl, by decide, Option.some_ne_none _, rfl⟩
theorem zr_0_962 : zRow xM 0 962 = some (16, .iadd, 963, 0, 0) := rfl
theorem zr_0_963 : zRow xM 0 963 = some (100, .iaload, 964, 0, 0) := rfl
theorem zr_0_964 : zRow xM 0 964 = some (7, .aload_n 0, 965, 0, 0) := rfl
theorem zr_0_965 : zRow xM 0 965 = some (3, .iload_n 3, 966, 3, 0) := rfl
theorem zr_0_966 : zRp 0 966 967 (0, 4) := ⟨_, _, _, _, rfl, by decide, Option.some_ne_none _, rfl⟩
theorem zr_0_967 : zRow xM 0 967 = some (16, .iadd, 968, 0, 0) := rfl
theorem zr_0_968 : zRow xM 0 968 = some (100, .iaload, 969, 0, 0) := rfl
theorem zr_0_969 : zRow xM 0 969 = some (105, .invokevirtual 116, 972, 126, 8) := rfl
theorem zr_0_972 : zRow xM 0 972 = some (115, .pop, 973, 0, 0) := rfl
theorem zr_0_973 : zRow xM 0 973 = some (7, .aload_n 2, 974, 2, 0) := rfl
theorem zr_0_974 : zRow xM 0 974 = some (7, .aload_n 0, 975, 0, 0) := rfl
theorem zr_0_975 : zRow xM 0 975 = some (3, .iload_n 3, 976, 3, 0) := rfl
theorem zr_0_976 : zRp 0 976 977 (0, 1) := ⟨_, _, _, _, rfl, by decide, Option.some_ne_none _, rfl⟩
theorem zr_0_977 : zRow xM 0 977 = some (16, .iadd, 978, 0, 0) := rfl
theorem zr_0_978 : zRow xM 0 978 = some (100, .iaload, 979, 0, 0) := rfl
theorem zr_0_979 : zRow xM 0 979 = some (7, .aload_n 0, 980, 0, 0) := rfl
theorem zr_0_980 : zRow xM 0 980 = some (3, .iload_n 3, 981, 3, 0) := rfl
theorem zr_0_981 : zRp 0 981 982 (0, 2) := ⟨_, _, _, _, rfl, by decide, Option.some_ne_none _, rfl⟩
theorem zr_0_982 : zRow xM 0 982 = some (16, .iadd, 983, 0, 0) := rfl
theorem zr_0_983 : zRow xM 0 983 = some (100, .iaload, 984, 0, 0) := rfl
theorem zr_0_984 : zRow xM 0 984 = some (7, .aload_n 0, 985, 0, 0) := rfl
theorem zr_0_985 : zRow xM 0 985 = some (3, .iload_n 3, 986, 3, 0) := rfl
theorem zr_0_986 : zRp 0 986 987 (0, 3) := ⟨_, _, _, _, rfl, by decide, Option.some_ne_none _, rfl⟩
theorem zr_0_987 : zRow xM 0 987 = some (16, .iadd, 988, 0, 0) := rfl
theorem zr_0_988 : zRow xM 0 988 = some (100, .iaload, 989, 0, 0) := rfl
theorem zr_0_989 : zRow xM 0 989 = some (7, .aload_n 0, 990, 0, 0) := rfl
theorem zr_0_990 : zRow xM 0 990 = some (3, .iload_n 3, 991, 3, 0) := rfl
theorem zr_0_991 : zRp 0 991 992 (0, 4) := ⟨_, _, _, _, rfl, by decide, Option.some_ne_none _, rfl⟩
theorem zr_0_992 : zRow xM 0 992 = some (16, .iadd, 993, 0, 0) := rfl
theorem zr_0_993 : zRow xM 0 993 = some (100, .iaload, 994, 0, 0) := rfl
theorem zr_0_994 : zRow xM 0 994 = some (105, .invokevirtual 120, 997, 202, 9) := rfl
theorem zr_0_997 : zRow xM 0 997 = some (115, .pop, 998, 0, 0) := rfl
theorem zr_0_998 : zRow xM 0 998 = some (42, .goto 240, 999, 1238, 0) := rfl
theorem zr_0_1001 : zRow xM 0 1001 = some (7, .aload_n 1, 1002, 1, 0) := rfl
theorem zr_0_1002 : zRow xM 0 1002 = some (105, .invokevirtual 121, 1005, 127, 8) := rfl
theorem zr_0_1005 : zRow xM 0 1005 = some (115, .pop, 1006, 0, 0) := rfl
theorem zr_0_1006 : zRow xM 0 1006 = some (7, .aload_n 2, 1007, 2, 0) := rfl
theorem zr_0_1007 : zRow xM 0 1007 = some (105, .invokevirtual 124, 1010, 203, 9) := rfl
theorem zr_0_1010 : zRow xM 0 1010 = some (115, .pop, 1011, 0, 0) := rfl
theorem zr_0_1011 : zRow xM 0 1011 = some (42, .goto 227, 1012, 1238, 0) := rfl
theorem zr_0_1014 : zRow xM 0 1014 = some (7, .aload_n 1, 1015, 1, 0) := rfl
theorem zr_0_1015 : zRow xM 0 1015 = some (7, .aload_n 0, 1016, 0, 0) := rfl
theorem zr_0_1016 : zRow xM 0 1016 = some (3, .iload_n 3, 1017, 3, 0) := rfl
theorem zr_0_1017 : zRp 0 1017 1018 (0, 1) := ⟨_, _, _, _, rfl, by decide, Option.some_ne_none _, rfl⟩
theorem zr_0_1018 : zRow xM 0 1018 = some (16, .iadd, 1019, 0, 0) := rfl
theorem zr_0_1019 : zRow xM 0 1019 = some (100, .iaload, 1020, 0, 0) := rfl
theorem zr_0_1020 : zRow xM 0 1020 = some (7, .aload_n 0, 1021, 0, 0) := rfl
theorem zr_0_1021 : zRow xM 0 1021 = some (3, .iload_n 3, 1022, 3, 0) := rfl
theorem zr_0_1022 : zRp 0 1022 1023 (0, 2) := ⟨_, _, _, _, rfl, by decide, Option.some_ne_none _, rfl⟩
theorem zr_0_1023 : zRow xM 0 1023 = some (16, .iadd, 1024, 0, 0) := rfl
theorem zr_0_1024 : zRow xM 0 1024 = some (100, .iaload, 1025, 0, 0) := rfl
theorem zr_0_1025 : zRow xM 0 1025 = some (7, .aload_n 0, 1026, 0, 0) := rfl
theorem zr_0_1026 : zRow xM 0 1026 = some (3, .iload_n 3, 1027, 3, 0) := rfl
theorem zr_0_1027 : zRp 0 1027 1028 (0, 3) := ⟨_, _, _, _, rfl, by decide, Option.some_ne_none _, rfl⟩
theorem zr_0_1028 : zRow xM 0 1028 = some (16, .iadd, 1029, 0, 0) := rfl
theorem zr_0_1029 : zRow xM 0 1029 = some (100, .iaload, 1030, 0, 0) := rfl
theorem zr_0_1030 : zRow xM 0 1030 = some (7, .aload_n 0, 1031, 0, 0) := rfl
theorem zr_0_1031 : zRow xM 0 1031 = some (3, .iload_n 3, 1032, 3, 0) := rfl
theorem zr_0_1032 : zRp 0 1032 1033 (0, 4) := ⟨_, _, _, _, rfl, by decide, Option.some_ne_none _, rfl⟩
theorem zr_0_1033 : zRow xM 0 1033 = some (16, .iadd, 1034, 0, 0) := rfl
theorem zr_0_1034 : zRow xM 0 1034 = some (100, .iaload, 1035, 0, 0) := rfl
theorem zr_0_1035 : zRow xM 0 1035 = some (105, .invokevirtual 125, 1038, 129, 8) := rfl
theorem zr_0_1038 : zRow xM 0 1038 = some (115, .pop, 1039, 0, 0) := rfl
theorem zr_0_1039 : zRow xM 0 1039 = some (7, .aload_n 2, 1040, 2, 0) := rfl
theorem zr_0_1040 : zRow xM 0 1040 = some (7, .aload_n 0, 1041, 0, 0) := rfl
theorem zr_0_1041 : zRow xM 0 1041 = some (3, .iload_n 3, 1042, 3, 0) := rfl
theorem zr_0_1042 : zRp 0 1042 1043 (0, 1) := ⟨_, _, _, _, rfl, by decide, Option.some_ne_none _, rfl⟩
theorem zr_0_1043 : zRow xM 0 1043 = some (16, .iadd, 1044, 0, 0) := rfl
theorem zr_0_1044 : zRow xM 0 1044 = some (100, .iaload, 1045, 0, 0) := rfl
theorem zr_0_1045 : zRow xM 0 1045 = some (7, .aload_n 0, 1046, 0, 0) := rfl
theorem zr_0_1046 : zRow xM 0 1046 = some (3, .iload_n 3, 1047, 3, 0) := rfl
theorem zr_0_1047 : zRp 0 1047 1048 (0, 2) := ⟨_, _, _, _, rfl, by decide, Option.some_ne_none _, rfl⟩
theorem zr_0_1048 : zRow xM 0 1048 = some (16, .iadd, 1049, 0, 0) := rfl
theorem zr_0_1049 : zRow xM 0 1049 = some (100, .iaload, 1050, 0, 0) := rfl
theorem zr_0_1050 : zRow xM 0 1050 = some (7, .aload_n 0, 1051, 0, 0) := rfl
theorem zr_0_1051 : zRow xM 0 1051 = some (3, .iload_n 3, 1052, 3, 0) := rfl
theorem zr_0_1052 : zRp 0 1052 1053 (0, 3) := ⟨_, _, _, _, rfl, by decide, Option.some_ne_none _, rfl⟩
theorem zr_0_1053 : zRow xM 0 1053 = some (16, .iadd, 1054, 0, 0) := rfl
theorem zr_0_1054 : zRow xM 0 1054 = some (100, .iaload, 1055, 0, 0) := rfl
theorem zr_0_1055 : zRow xM 0 1055 = some (7, .aload_n 0, 1056, 0, 0) := rfl
theorem zr_0_1056 : zRow xM 0 1056 = some (3, .iload_n 3, 1057, 3, 0) := rfl
theorem zr_0_1057 : zRp 0 1057 1058 (0, 4) := ⟨_, _, _, _, rfl, by decide, Option.some_ne_none _, rfl⟩
theorem zr_0_1058 : zRow xM 0 1058 = some (16, .iadd, 1059, 0, 0) := rfl
theorem zr_0_1059 : zRow xM 0 1059 = some (100, .iaload, 1060, 0, 0) := rfl
theorem zr_0_1060 : zRow xM 0 1060 = some (105, .invokevirtual 128, 1063, 204, 9) := rfl
theorem zr_0_1063 : zRow xM 0 1063 = some (115, .pop, 1064, 0, 0) := rfl
theorem zr_0_1064 : zRow xM 0 1064 = some (42, .goto 174, 1065, 1238, 0) := rfl
theorem zr_0_1067 : zRow xM 0 1067 = some (7, .aload_n 1, 1068, 1, 0) := rfl
theorem zr_0_1068 : zRow xM 0 1068 = some (7, .aload_n 0, 1069, 0, 0) := rfl
theorem zr_0_1069 : zRow xM 0 1069 = some (3, .iload_n 3, 1070, 3, 0) := rfl
theorem zr_0_1070 : zRp 0 1070 1071 (0, 1) := ⟨_, _, _, _, rfl, by decide, Option.some_ne_none _, rfl⟩
theorem zr_0_1071 : zRow xM 0 1071 = some (16, .iadd, 1072, 0, 0) := rfl
theorem zr_0_1072 : zRow xM 0 1072 = some (100, .iaload, 1073, 0, 0) := rfl
theorem zr_0_1073 : zRow xM 0 1073 = some (7, .aload_n 0, 1074, 0, 0) := rfl
theorem zr_0_1074 : zRow xM 0 1074 = some (3, .iload_n 3, 1075, 3, 0) := rfl
theorem zr_0_1075 : zRp 0 1075 1076 (0, 2) := ⟨_, _, _, _, rfl, by decide, Option.some_ne_none _, rfl⟩
theorem zr_0_1076 : zRow xM 0 1076 = some (16, .iadd, 1077, 0, 0) := rfl
theorem zr_0_1077 : zRow xM 0 1077 = some (100, .iaload, 1078, 0, 0) := rfl
theorem zr_0_1078 : zRow xM 0 1078 = some (105, .invokevirtual 129, 1081, 130, 8) := rfl
theorem zr_0_1081 : zRow xM 0 1081 = some (115, .pop, 1082, 0, 0) := rfl
theorem zr_0_1082 : zRow xM 0 1082 = some (7, .aload_n 2, 1083, 2, 0) := rfl
theorem zr_0_1083 : zRow xM 0 1083 = some (7, .aload_n 0, 1084, 0, 0) := rfl
theorem zr_0_1084 : zRow xM 0 1084 = some (3, .iload_n 3, 1085, 3, 0) := rfl
theorem zr_0_1085 : zRp 0 1085 1086 (0, 1) := ⟨_, _, _, _, rfl, by decide, Option.some_ne_none _, rfl⟩
theorem zr_0_1086 : zRow xM 0 1086 = some (16, .iadd, 1087, 0, 0) := rfl
theorem zr_0_1087 : zRow xM 0 1087 = some (100, .iaload, 1088, 0, 0) := rfl
theorem zr_0_1088 : zRow xM 0 1088 = some (7, .aload_n 0, 1089, 0, 0) := rfl
theorem zr_0_1089 : zRow xM 0 1089 = some (3, .iload_n 3, 1090, 3, 0) := rfl
theorem zr_0_1090 : zRp 0 1090 1091 (0, 2) := ⟨_, _, _, _, rfl, by decide, Option.some_ne_none _, rfl⟩
theorem zr_0_1091 : zRow xM 0 1091 = some (16, .iadd, 1092, 0, 0) := rfl
theorem zr_0_1092 : zRow xM 0 1092 = some (100, .iaload, 1093, 0, 0) := rfl
theorem zr_0_1093 : zRow xM 0 1093 = some (105, .invokevirtual 132, 1096, 205, 9) := rfl
theorem zr_0_1096 : zRow xM 0 1096 = some (115, .pop, 1097, 0, 0) := rfl
theorem zr_0_1097 : zRow xM 0 1097 = some (42, .goto 141, 1098, 1238, 0) := rfl
theorem zr_0_1100 : zRow xM 0 1100 = some (7, .aload_n 1, 1101, 1, 0) := rfl
theorem zr_0_1101 : zRow xM 0 1101 = some (7, .aload_n 0, 1102, 0, 0) := rfl
theorem zr_0_1102 : zRow xM 0 1102 = some (3, .iload_n 3, 1103, 3, 0) := rfl
theorem zr_0_1103 : zRp 0 1103 1104 (0, 1) := ⟨_, _, _, _, rfl, by decide, Option.some_ne_none _, rfl⟩
theorem zr_0_1104 : zRow xM 0 1104 = some (16, .iadd, 1105, 0, 0) := rfl
theorem zr_0_1105 : zRow xM 0 1105 = some (100, .iaload, 1106, 0, 0) := rfl
theorem zr_0_1106 : zRow xM 0 1106 = some (7, .aload_n 0, 1107, 0, 0) := rfl
theorem zr_0_1107 : zRow xM 0 1107 = some (3, .iload_n 3, 1108, 3, 0) := rfl
theorem zr_0_1108 : zRp 0 1108 1109 (0, 2) := ⟨_, _, _, _, rfl, by decide, Option.some_ne_none _, rfl⟩
theorem zr_0_1109 : zRow xM 0 1109 = some (16, .iadd, 1110, 0, 0) := rfl
theorem zr_0_1110 : zRow xM 0 1110 = some (100, .iaload, 1111, 0, 0) := rfl
theorem zr_0_1111 : zRow xM 0 1111 = some (105, .invokevirtual 133, 1114, 132, 8) := rfl
theorem zr_0_1114 : zRow xM 0 1114 = some (115, .pop, 1115, 0, 0) := rfl
theorem zr_0_1115 : zRow xM 0 1115 = some (7, .aload_n 2, 1116, 2, 0) := rfl
theorem zr_0_1116 : zRow xM 0 1116 = some (7, .aload_n 0, 1117, 0, 0) := rfl
theorem zr_0_1117 : zRow xM 0 1117 = some (3, .iload_n 3, 1118, 3, 0) := rfl
theorem zr_0_1118 : zRp 0 1118 1119 (0, 1) := ⟨_, _, _, _, rfl, by decide, Option.some_ne_none _, rfl⟩
theorem zr_0_1119 : zRow xM 0 1119 = some (16, .iadd, 1120, 0, 0) := rfl
theorem zr_0_1120 : zRow xM 0 1120 = some (100, .iaload, 1121, 0, 0) := rfl
theorem zr_0_1121 : zRow xM 0 1121 = some (7, .aload_n 0, 1122, 0, 0) := rfl
theorem zr_0_1122 : zRow xM 0 1122 = some (3, .iload_n 3, 1123, 3, 0) := rfl
theorem zr_0_1123 : zRp 0 1123 1124 (0, 2) := ⟨_, _, _, _, rfl, by decide, Option.some_ne_none _, rfl⟩
theorem zr_0_1124 : zRow xM 0 1124 = some (16, .iadd, 1125, 0, 0) := rfl
theorem zr_0_1125 : zRow xM 0 1125 = some (100, .iaload, 1126, 0, 0) := rfl
theorem zr_0_1126 : zRow xM 0 1126 = some (105, .invokevirtual 136, 1129, 206, 9) := rfl
theorem zr_0_1129 : zRow xM 0 1129 = some (115, .pop, 1130, 0, 0) := rfl
theorem zr_0_1130 : zRow xM 0 1130 = some (42, .goto 108, 1131, 1238, 0) := rfl
theorem zr_0_1133 : zRow xM 0 1133 = some (7, .aload_n 1, 1134, 1, 0) := rfl
theorem zr_0_1134 : zRow xM 0 1134 = some (7, .aload_n 0, 1135, 0, 0) := rfl
theorem zr_0_1135 : zRow xM 0 1135 = some (3, .iload_n 3, 1136, 3, 0) := rfl
theorem zr_0_1136 : zRp 0 1136 1137 (0, 1) := ⟨_, _, _, _, rfl, by decide, Option.some_ne_none _, rfl⟩
theorem zr_0_1137 : zRow xM 0 1137 = some (16, .iadd, 1138, 0, 0) := rfl
theorem zr_0_1138 : zRow xM 0 1138 = some (100, .iaload, 1139, 0, 0) := rfl
theorem zr_0_1139 : zRow xM 0 1139 = some (105, .invokevirtual 137, 1142, 133, 8) := rfl
theorem zr_0_1142 : zRow xM 0 1142 = some (116, .pop2, 1143, 0, 0) := rfl
theorem zr_0_1143 : zRow xM 0 1143 = some (7, .aload_n 2, 1144, 2, 0) := rfl
theorem zr_0_1144 : zRow xM 0 1144 = some (7, .aload_n 0, 1145, 0, 0) := rfl
theorem zr_0_1145 : zRow xM 0 1145 = some (3, .iload_n 3, 1146, 3, 0) := rfl
theorem zr_0_1146 : zRp 0 1146 1147 (0, 1) := ⟨_, _, _, _, rfl, by decide, Option.some_ne_none _, rfl⟩
theorem zr_0_1147 : zRow xM 0 1147 = some (16, .iadd, 1148, 0, 0) := rfl
theorem zr_0_1148 : zRow xM 0 1148 = some (100, .iaload, 1149, 0, 0) := rfl
theorem zr_0_1149 : zRow xM 0 1149 = some (105, .invokevirtual 141, 1152, 207, 9) := rfl
theorem zr_0_1152 : zRow xM 0 1152 = some (116, .pop2, 1153, 0, 0) := rfl
theorem zr_0_1153 : zRow xM 0 1153 = some (42, .goto 85, 1154, 1238, 0) := rfl
theorem zr_0_1156 : zRow xM 0 1156 = some (7, .aload_n 1, 1157, 1, 0) := rfl
theorem zr_0_1157 : zRow xM 0 1157 = some (7, .aload_n 0, 1158, 0, 0) := rfl
theorem zr_0_1158 : zRow xM 0 1158 = some (3, .iload_n 3, 1159, 3, 0) := rfl
theorem zr_0_1159 : zRp 0 1159 1160 (0, 1) := ⟨_, _, _, _, rfl, by decide, Option.some_ne_none _, rfl⟩
theorem zr_0_1160 : zRow xM 0 1160 = some (16, .iadd, 1161, 0, 0) := rfl
theorem zr_0_1161 : zRow xM 0 1161 = some (100, .iaload, 1162, 0, 0) := rfl
theorem zr_0_1162 : zRow xM 0 1162 = some (105, .invokevirtual 142, 1165, 134, 8) := rfl
theorem zr_0_1165 : zRow xM 0 1165 = some (115, .pop, 1166, 0, 0) := rfl
theorem zr_0_1166 : zRow xM 0 1166 = some (7, .aload_n 2, 1167, 2, 0) := rfl
theorem zr_0_1167 : zRow xM 0 1167 = some (7, .aload_n 0, 1168, 0, 0) := rfl
theorem zr_0_1168 : zRow xM 0 1168 = some (3, .iload_n 3, 1169, 3, 0) := rfl
theorem zr_0_1169 : zRp 0 1169 1170 (0, 1) := ⟨_, _, _, _, rfl, by decide, Option.some_ne_none _, rfl⟩
theorem zr_0_1170 : zRow xM 0 1170 = some (16, .iadd, 1171, 0, 0) := rfl
theorem zr_0_1171 : zRow xM 0 1171 = some (100, .iaload, 1172, 0, 0) := rfl
theorem zr_0_1172 : zRow xM 0 1172 = some (105, .invokevirtual 145, 1175, 208, 9) := rfl
theorem zr_0_1175 : zRow xM 0 1175 = some (115, .pop, 1176, 0, 0) := rfl
theorem zr_0_1176 : zRow xM 0 1176 = some (42, .goto 62, 1177, 1238, 0) := rfl
theorem zr_0_1179 : zRow xM 0 1179 = some (7, .aload_n 1, 1180, 1, 0) := rfl
theorem zr_0_1180 : zRow xM 0 1180 = some (7, .aload_n 0, 1181, 0, 0) := rfl
theorem zr_0_1181 : zRow xM 0 1181 = some (3, .iload_n 3, 1182, 3, 0) := rfl
theorem zr_0_1182 : zRp 0 1182 1183 (0, 1) := ⟨_, _, _, _, rfl, by decide, Option.some_ne_none _, rfl⟩
theorem zr_0_1183 : zRow xM 0 1183 = some (16, .iadd, 1184, 0, 0) := rfl
theorem zr_0_1184 : zRow xM 0 1184 = some (100, .iaload, 1185, 0, 0) := rfl
theorem zr_0_1185 : zRow xM 0 1185 = some (105, .invokevirtual 146, 1188, 135, 8) := rfl
theorem zr_0_1188 : zRow xM 0 1188 = some (115, .pop, 1189, 0, 0) := rfl
theorem zr_0_1189 : zRow xM 0 1189 = some (7, .aload_n 2, 1190, 2, 0) := rfl
theorem zr_0_1190 : zRow xM 0 1190 = some (7, .aload_n 0, 1191, 0, 0) := rfl
theorem zr_0_1191 : zRow xM 0 1191 = some (3, .iload_n 3, 1192, 3, 0) := rfl
theorem zr_0_1192 : zRp 0 1192 1193 (0, 1) := ⟨_, _, _, _, rfl, by decide, Option.some_ne_none _, rfl⟩
theorem zr_0_1193 : zRow xM 0 1193 = some (16, .iadd, 1194, 0, 0) := rfl
theorem zr_0_1194 : zRow xM 0 1194 = some (100, .iaload, 1195, 0, 0) := rfl
theorem zr_0_1195 : zRow xM 0 1195 = some (105, .invokevirtual 149, 1198, 209, 9) := rfl
theorem zr_0_1198 : zRow xM 0 1198 = some (115, .pop, 1199, 0, 0) := rfl
theorem zr_0_1199 : zRow xM 0 1199 = some (42, .goto 39, 1200, 1238, 0) := rfl
theorem zr_0_1202 : zRow xM 0 1202 = some (7, .aload_n 1, 1203, 1, 0) := rfl
theorem zr_0_1203 : zRow xM 0 1203 = some (7, .aload_n 0, 1204, 0, 0) := rfl
theorem zr_0_1204 : zRow xM 0 1204 = some (3, .iload_n 3, 1205, 3, 0) := rfl
theorem zr_0_1205 : zRp 0 1205 1206 (0, 1) := ⟨_, _, _, _, rfl, by decide, Option.some_ne_none _, rfl⟩
theorem zr_0_1206 : zRow xM 0 1206 = some (16, .iadd, 1207, 0, 0) := rfl
theorem zr_0_1207 : zRow xM 0 1207 = some (100, .iaload, 1208, 0, 0) := rfl
theorem zr_0_1208 : zRow xM 0 1208 = some (105, .invokevirtual 150, 1211, 137, 8) := rfl
theorem zr_0_1211 : zRow xM 0 1211 = some (115, .pop, 1212, 0, 0) := rfl
theorem zr_0_1212 : zRow xM 0 1212 = some (7, .aload_n 2, 1213, 2, 0) := rfl
theorem zr_0_1213 : zRow xM 0 1213 = some (7, .aload_n 0, 1214, 0, 0) := rfl
theorem zr_0_1214 : zRow xM 0 1214 = some (3, .iload_n 3, 1215, 3, 0) := rfl
theorem zr_0_1215 : zRp 0 1215 1216 (0, 1) := ⟨_, _, _, _, rfl, by decide, Option.some_ne_none _, rfl⟩
theorem zr_0_1216 : zRow xM 0 1216 = some (16, .iadd, 1217, 0, 0) := rfl
theorem zr_0_1217 : zRow xM 0 1217 = some (100, .iaload, 1218, 0, 0) := rfl
theorem zr_0_1218 : zRow xM 0 1218 = some (105, .invokevirtual 153, 1221, 210, 9) := rfl
theorem zr_0_1221 : zRow xM 0 1221 = some (115, .pop, 1222, 0, 0) := rfl
theorem zr_0_1222 : zRow xM 0 1222 = some (42, .goto 16, 1223, 1238, 0) := rfl
theorem zr_0_1225 : zRow xM 0 1225 = some (7, .aload_n 1, 1226, 1, 0) := rfl
theorem zr_0_1226 : zRow xM 0 1226 = some (105, .invokevirtual 154, 1229, 138, 8) := rfl
theorem zr_0_1229 : zRow xM 0 1229 = some (116, .pop2, 1230, 0, 0) := rfl
theorem zr_0_1230 : zRow xM 0 1230 = some (7, .aload_n 2, 1231, 2, 0) := rfl
theorem zr_0_1231 : zRow xM 0 1231 = some (105, .invokevirtual 157, 1234, 212, 9) := rfl
theorem zr_0_1234 : zRow xM 0 1234 = some (116, .pop2, 1235, 0, 0) := rfl
theorem zr_0_1235 : zRow xM 0 1235 = some (42, .goto 3, 1236, 1238, 0) := rfl
theorem zr_0_1238 : zRow xM 0 1238 = some (15, .iinc 3 6, 1241, 3, 6) := rfl
theorem zr_0_1241 : zRow xM 0 1241 = some (42, .goto (-1223), 1242, 18, 0) := rfl
theorem zr_0_1244 : zRp 0 1244 1245 (0, 1) := ⟨_, _, _, _, rfl, by decide, Option.some_ne_none _, rfl⟩
theorem zr_0_1245 : zRow xM 0 1245 = some (108, .ireturn, 1246, 0, 0) := rfl
theorem zm_1 : zMt xM 1 = some (5, (some .long), 2, 0, 0) := rfl
theorem zr_1_0 : zRp 1 0 1 (1, 1) := ⟨_, _, _, _, rfl, by decide, Option.some_ne_none _, rfl⟩
theorem zr_1_1 : zRow xM 1 1 = some (13, .lstore_n 2, 2, 2, 0) := rfl
theorem zr_1_2 : zRp 1 2 3 (0, 0) := ⟨_, _, _, _, rfl, by decide, Option.some_ne_none _, rfl⟩
theorem zr_1_3 : zRow xM 1 3 = some (10, .istore 4, 5, 4, 0) := rfl
theorem zr_1_5 : zRow xM 1 5 = some (4, .iload 4, 7, 4, 0) := rfl
theorem zr_1_7 : zRow xM 1 7 = some (3, .iload_n 1, 8, 1, 0) := rfl
theorem zr_1_8 : zRow xM 1 8 = some (41, .if_icmp .ge 14, 11, 22, 3) := rfl
theorem zr_1_11 : zRow xM 1 11 = some (5, .lload_n 2, 12, 2, 0) := rfl
theorem zr_1_12 : zRow xM 1 12 = some (3, .iload_n 0, 13, 0, 0) := rfl
theorem zr_1_13 : zRow xM 1 13 = some (36, .i2l, 14, 0, 0) := rfl
theorem zr_1_14 : zRow xM 1 14 = some (29, .lmul, 15, 0, 0) := rfl
theorem zr_1_15 : zRow xM 1 15 = some (13, .lstore_n 2, 16, 2, 0) := rfl
theorem zr_1_16 : zRow xM 1 16 = some (15, .iinc 4 1, 19, 4, 1) := rfl
theorem zr_1_19 : zRow xM 1 19 = some (42, .goto (-14), 20, 5, 0) := rfl
theorem zr_1_22 : zRow xM 1 22 = some (5, .lload_n 2, 23, 2, 0) := rfl
theorem zr_1_23 : zRow xM 1 23 = some (109, .lreturn, 24, 0, 0) := rfl
theorem zm_2 : zMt xM 2 = some (9, (some .long), 4, 0, 0) := rfl
theorem zr_2_0 : zRp 2 0 1 (1, 0) := ⟨_, _, _, _, rfl, by decide, Option.some_ne_none _, rfl⟩
theorem zr_2_1 : zRow xM 2 1 = some (14, .lstore 4, 3, 4, 0) := rfl
theorem zr_2_3 : zRp 2 3 4 (1, 1) := ⟨_, _, _, _, rfl, by decide, Option.some_ne_none _, rfl⟩
theorem zr_2_4 : zRow xM 2 4 = some (14, .lstore 6, 6, 6, 0) := rfl
theorem zr_2_6 : zRp 2 6 7 (0, 0) := ⟨_, _, _, _, rfl, by decide, Option.some_ne_none _, rfl⟩
theorem zr_2_7 : zRow xM 2 7 = some (10, .istore 8, 9, 8, 0) := rfl
theorem zr_2_9 : zRow xM 2 9 = some (4, .iload 8, 11, 8, 0) := rfl
theorem zr_2_11 : zRow xM 2 11 = some (3, .iload_n 0, 12, 0, 0) := rfl
theorem zr_2_12 : zRow xM 2 12 = some (41, .if_icmp .gt 56, 15, 68, 2) := rfl
theorem zr_2_15 : zRow xM 2 15 = some (4, .iload 8, 17, 8, 0) := rfl
theorem zr_2_17 : zRow xM 2 17 = some (3, .iload_n 1, 18, 1, 0) := rfl
theorem zr_2_18 : zRow xM 2 18 = some (41, .if_icmp .lt 28, 21, 46, 0) := rfl
theorem zr_2_21 : zRow xM 2 21 = some (6, .lload 4, 23, 4, 0) := rfl
theorem zr_2_23 : zRow xM 2 23 = some (6, .lload 6, 25, 6, 0) := rfl
theorem zr_2_25 : zRow xM 2 25 = some (3, .iload_n 2, 26, 2, 0) := rfl
theorem zr_2_26 : zRow xM 2 26 = some (4, .iload 8, 28, 8, 0) := rfl
theorem zr_2_28 : zRow xM 2 28 = some (107, .invokestatic 7, 31, 1, 0) := rfl
theorem zr_2_31 : zRow xM 2 31 = some (29, .lmul, 32, 0, 0) := rfl
theorem zr_2_32 : zRow xM 2 32 = some (3, .iload_n 3, 33, 3, 0) := rfl
theorem zr_2_33 : zRow xM 2 33 = some (3, .iload_n 2, 34, 2, 0) := rfl
theorem zr_2_34 : zRow xM 2 34 = some (17, .isub, 35, 0, 0) := rfl
theorem zr_2_35 : zRow xM 2 35 = some (3, .iload_n 0, 36, 0, 0) := rfl
theorem zr_2_36 : zRow xM 2 36 = some (4, .iload 8, 38, 8, 0) := rfl
theorem zr_2_38 : zRow xM 2 38 = some (17, .isub, 39, 0, 0) := rfl
theorem zr_2_39 : zRow xM 2 39 = some (107, .invokestatic 7, 42, 1, 0) := rfl
theorem zr_2_42 : zRow xM 2 42 = some (29, .lmul, 43, 0, 0) := rfl
theorem zr_2_43 : zRow xM 2 43 = some (27, .ladd, 44, 0, 0) := rfl
theorem zr_2_44 : zRow xM 2 44 = some (14, .lstore 4, 46, 4, 0) := rfl
theorem zr_2_46 : zRow xM 2 46 = some (6, .lload 6, 48, 6, 0) := rfl
theorem zr_2_48 : zRow xM 2 48 = some (3, .iload_n 0, 49, 0, 0) := rfl
theorem zr_2_49 : zRow xM 2 49 = some (4, .iload 8, 51, 8, 0) := rfl
theorem zr_2_51 : zRow xM 2 51 = some (17, .isub, 52, 0, 0) := rfl
theorem zr_2_52 : zRow xM 2 52 = some (36, .i2l, 53, 0, 0) := rfl
theorem zr_2_53 : zRow xM 2 53 = some (29, .lmul, 54, 0, 0) := rfl
theorem zr_2_54 : zRow xM 2 54 = some (4, .iload 8, 56, 8, 0) := rfl
theorem zr_2_56 : zRp 2 56 57 (0, 1) := ⟨_, _, _, _, rfl, by decide, Option.some_ne_none _, rfl⟩
theorem zr_2_57 : zRow xM 2 57 = some (16, .iadd, 58, 0, 0) := rfl
theorem zr_2_58 : zRow xM 2 58 = some (36, .i2l, 59, 0, 0) := rfl
theorem zr_2_59 : zRow xM 2 59 = some (118, .ldiv, 60, 0, 0) := rfl
theorem zr_2_60 : zRow xM 2 60 = some (14, .lstore 6, 62, 6, 0) := rfl
theorem zr_2_62 : zRow xM 2 62 = some (15, .iinc 8 1, 65, 8, 1) := rfl
theorem zr_2_65 : zRow xM 2 65 = some (42, .goto (-56), 66, 9, 0) := rfl
theorem zr_2_68 : zRow xM 2 68 = some (6, .lload 4, 70, 4, 0) := rfl
theorem zr_2_70 : zRow xM 2 70 = some (109, .lreturn, 71, 0, 0) := rfl
theorem zm_4 : zMt xM 4 = some (4, none, 2, 0, 0) := rfl
theorem zr_4_0 : zRp 4 0 1 (0, 0) := ⟨_, _, _, _, rfl, by decide, Option.some_ne_none _, rfl⟩
theorem zr_4_1 : zRow xM 4 1 = some (9, .istore_n 2, 2, 2, 0) := rfl
theorem zr_4_2 : zRow xM 4 2 = some (7, .aload_n 0, 3, 0, 0) := rfl
theorem zr_4_3 : zRow xM 4 3 = some (101, .arraylength, 4, 0, 0) := rfl
theorem zr_4_4 : zRow xM 4 4 = some (9, .istore_n 3, 5, 3, 0) := rfl
theorem zr_4_5 : zRow xM 4 5 = some (3, .iload_n 2, 6, 2, 0) := rfl
theorem zr_4_6 : zRow xM 4 6 = some (3, .iload_n 3, 7, 3, 0) := rfl
theorem zr_4_7 : zRow xM 4 7 = some (41, .if_icmp .ge 13, 10, 20, 3) := rfl
theorem zr_4_10 : zRow xM 4 10 = some (7, .aload_n 0, 11, 0, 0) := rfl
theorem zr_4_11 : zRow xM 4 11 = some (3, .iload_n 2, 12, 2, 0) := rfl
theorem zr_4_12 : zRow xM 4 12 = some (3, .iload_n 1, 13, 1, 0) := rfl
theorem zr_4_13 : zRow xM 4 13 = some (49, .iastore, 14, 0, 0) := rfl
theorem zr_4_14 : zRow xM 4 14 = some (15, .iinc 2 1, 17, 2, 1) := rfl
theorem zr_4_17 : zRow xM 4 17 = some (42, .goto (-12), 18, 5, 0) := rfl
theorem zr_4_20 : zRow xM 4 20 = some (110, .return_, 21, 0, 0) := rfl
theorem zm_5 : zMt xM 5 = some (2, none, 2, 0, 0) := rfl
theorem zr_5_0 : zRow xM 5 0 = some (7, .aload_n 0, 1, 0, 0) := rfl
theorem zr_5_1 : zRow xM 5 1 = some (46, .getfield 15, 4, 1, 1) := rfl
theorem zr_5_4 : zRp 5 4 5 (0, -1) := ⟨_, _, _, _, rfl, by decide, Option.some_ne_none _, rfl⟩
theorem zr_5_5 : zRow xM 5 5 = some (41, .if_icmp .ne 16, 8, 21, 4) := rfl
theorem zr_5_8 : zRow xM 5 8 = some (7, .aload_n 0, 9, 0, 0) := rfl
theorem zr_5_9 : zRow xM 5 9 = some (7, .aload_n 0, 10, 0, 0) := rfl
theorem zr_5_10 : zRow xM 5 10 = some (46, .getfield 45, 13, 1, 6) := rfl
theorem zr_5_13 : zRp 5 13 15 (0, 10) := ⟨_, _, _, _, rfl, by decide, Option.some_ne_none _, rfl⟩
theorem zr_5_15 : zRow xM 5 15 = some (18, .imul, 16, 0, 0) := rfl
theorem zr_5_16 : zRow xM 5 16 = some (3, .iload_n 1, 17, 1, 0) := rfl
theorem zr_5_17 : zRow xM 5 17 = some (16, .iadd, 18, 0, 0) := rfl
theorem zr_5_18 : zRow xM 5 18 = some (47, .putfield 15, 21, 1, 1) := rfl
theorem zr_5_21 : zRow xM 5 21 = some (110, .return_, 22, 0, 0) := rfl
theorem zm_6 : zMt xM 6 = some (1, (some .int), 1, 0, 0) := rfl
theorem zr_6_0 : zRow xM 6 0 = some (7, .aload_n 0, 1, 0, 0) := rfl
theorem zr_6_1 : zRow xM 6 1 = some (46, .getfield 15, 4, 1, 1) := rfl
theorem zr_6_4 : zRp 6 4 5 (0, -1) := ⟨_, _, _, _, rfl, by decide, Option.some_ne_none _, rfl⟩
theorem zr_6_5 : zRow xM 6 5 = some (41, .if_icmp .eq 5, 8, 10, 1) := rfl
theorem zr_6_8 : zRp 6 8 9 (0, -1) := ⟨_, _, _, _, rfl, by decide, Option.some_ne_none _, rfl⟩
theorem zr_6_9 : zRow xM 6 9 = some (108, .ireturn, 10, 0, 0) := rfl
theorem zr_6_10 : zRow xM 6 10 = some (7, .aload_n 0, 11, 0, 0) := rfl
theorem zr_6_11 : zRow xM 6 11 = some (46, .getfield 45, 14, 1, 6) := rfl
theorem zr_6_14 : zRow xM 6 14 = some (7, .aload_n 0, 15, 0, 0) := rfl
theorem zr_6_15 : zRow xM 6 15 = some (46, .getfield 34, 18, 1, 5) := rfl
theorem zr_6_18 : zRow xM 6 18 = some (41, .if_icmp .ge 30, 21, 48, 3) := rfl
theorem zr_6_21 : zRow xM 6 21 = some (7, .aload_n 0, 22, 0, 0) := rfl
theorem zr_6_22 : zRow xM 6 22 = some (46, .getfield 19, 25, 1, 2) := rfl
theorem zr_6_25 : zRow xM 6 25 = some (7, .aload_n 0, 26, 0, 0) := rfl
theorem zr_6_26 : zRow xM 6 26 = some (46, .getfield 45, 29, 1, 6) := rfl
theorem zr_6_29 : zRow xM 6 29 = some (48, .iaload, 30, 0, 0) := rfl
theorem zr_6_30 : zRp 6 30 32 (0, 32) := ⟨_, _, _, _, rfl, by decide, Option.some_ne_none _, rfl⟩
theorem zr_6_32 : zRow xM 6 32 = some (41, .if_icmp .ne 16, 35, 48, 4) := rfl
theorem zr_6_35 : zRow xM 6 35 = some (7, .aload_n 0, 36, 0, 0) := rfl
theorem zr_6_36 : zRow xM 6 36 = some (43, .dup, 37, 0, 0) := rfl
theorem zr_6_37 : zRow xM 6 37 = some (46, .getfield 45, 40, 1, 6) := rfl
theorem zr_6_40 : zRp 6 40 41 (0, 1) := ⟨_, _, _, _, rfl, by decide, Option.some_ne_none _, rfl⟩
theorem zr_6_41 : zRow xM 6 41 = some (16, .iadd, 42, 0, 0) := rfl
theorem zr_6_42 : zRow xM 6 42 = some (47, .putfield 45, 45, 1, 6) := rfl
theorem zr_6_45 : zRow xM 6 45 = some (42, .goto (-35), 46, 10, 0) := rfl
theorem zr_6_48 : zRow xM 6 48 = some (7, .aload_n 0, 49, 0, 0) := rfl
theorem zr_6_49 : zRow xM 6 49 = some (46, .getfield 45, 52, 1, 6) := rfl
theorem zr_6_52 : zRow xM 6 52 = some (7, .aload_n 0, 53, 0, 0) := rfl
theorem zr_6_53 : zRow xM 6 53 = some (46, .getfield 34, 56, 1, 5) := rfl
theorem zr_6_56 : zRow xM 6 56 = some (41, .if_icmp .ge 15, 59, 71, 3) := rfl
theorem zr_6_59 : zRow xM 6 59 = some (7, .aload_n 0, 60, 0, 0) := rfl
theorem zr_6_60 : zRow xM 6 60 = some (46, .getfield 19, 63, 1, 2) := rfl
theorem zr_6_63 : zRow xM 6 63 = some (7, .aload_n 0, 64, 0, 0) := rfl
theorem zr_6_64 : zRow xM 6 64 = some (46, .getfield 45, 67, 1, 6) := rfl
theorem zr_6_67 : zRow xM 6 67 = some (48, .iaload, 68, 0, 0) := rfl
theorem zr_6_68 : zRow xM 6 68 = some (42, .goto 4, 69, 72, 0) := rfl
theorem zr_6_71 : zRp 6 71 72 (0, -1) := ⟨_, _, _, _, rfl, by decide, Option.some_ne_none _, rfl⟩
theorem zr_6_72 : zRow xM 6 72 = some (108, .ireturn, 73, 0, 0) := rfl
theorem zm_7 : zMt xM 7 = some (1, (some .int), 1, 0, 0) := rfl
theorem zr_7_0 : zRow xM 7 0 = some (3, .iload_n 0, 1, 0, 0) := rfl
theorem zr_7_1 : zRow xM 7 1 = some (112, .lookupswitch 93 #[(38, 85), (42, 91), (43, 89), (45, 89), (47, 91), (60, 87), (61, 87), (62, 87), (124, 83)], 2, 0, 0) := rfl
theorem zr_7_84 : zRp 7 84 85 (0, 0) := ⟨_, _, _, _, rfl, by decide, Option.some_ne_none _, rfl⟩
theorem zr_7_85 : zRow xM 7 85 = some (108, .ireturn, 86, 0, 0) := rfl
theorem zr_7_86 : zRp 7 86 87 (0, 1) := ⟨_, _, _, _, rfl, by decide, Option.some_ne_none _, rfl⟩
theorem zr_7_87 : zRow xM 7 87 = some (108, .ireturn, 88, 0, 0) := rfl
theorem zr_7_88 : zRp 7 88 89 (0, 2) := ⟨_, _, _, _, rfl, by decide, Option.some_ne_none _, rfl⟩
theorem zr_7_89 : zRow xM 7 89 = some (108, .ireturn, 90, 0, 0) := rfl
theorem zr_7_90 : zRp 7 90 91 (0, 3) := ⟨_, _, _, _, rfl, by decide, Option.some_ne_none _, rfl⟩
theorem zr_7_91 : zRow xM 7 91 = some (108, .ireturn, 92, 0, 0) := rfl
theorem zr_7_92 : zRp 7 92 93 (0, 4) := ⟨_, _, _, _, rfl, by decide, Option.some_ne_none _, rfl⟩
theorem zr_7_93 : zRow xM 7 93 = some (108, .ireturn, 94, 0, 0) := rfl
theorem zr_7_94 : zRp 7 94 95 (0, -1) := ⟨_, _, _, _, rfl, by decide, Option.some_ne_none _, rfl⟩
theorem zr_7_95 : zRow xM 7 95 = some (108, .ireturn, 96, 0, 0) := rfl
theorem zm_8 : zMt xM 8 = some (2, none, 2, 0, 0) := rfl
theorem zr_8_0 : zRow xM 8 0 = some (7, .aload_n 0, 1, 0, 0) := rfl
theorem zr_8_1 : zRow xM 8 1 = some (46, .getfield 51, 4, 1, 8) := rfl
theorem zr_8_4 : zRp 8 4 6 (0, 50) := ⟨_, _, _, _, rfl, by decide, Option.some_ne_none _, rfl⟩
theorem zr_8_6 : zRow xM 8 6 = some (41, .if_icmp .ge 23, 9, 29, 3) := rfl
theorem zr_8_9 : zRow xM 8 9 = some (7, .aload_n 0, 10, 0, 0) := rfl
theorem zr_8_10 : zRow xM 8 10 = some (46, .getfield 23, 13, 1, 3) := rfl
theorem zr_8_13 : zRow xM 8 13 = some (7, .aload_n 0, 14, 0, 0) := rfl
theorem zr_8_14 : zRow xM 8 14 = some (46, .getfield 51, 17, 1, 8) := rfl
theorem zr_8_17 : zRow xM 8 17 = some (3, .iload_n 1, 18, 1, 0) := rfl
theorem zr_8_18 : zRow xM 8 18 = some (49, .iastore, 19, 0, 0) := rfl
theorem zr_8_19 : zRow xM 8 19 = some (7, .aload_n 0, 20, 0, 0) := rfl
theorem zr_8_20 : zRow xM 8 20 = some (43, .dup, 21, 0, 0) := rfl
theorem zr_8_21 : zRow xM 8 21 = some (46, .getfield 51, 24, 1, 8) := rfl
theorem zr_8_24 : zRp 8 24 25 (0, 1) := ⟨_, _, _, _, rfl, by decide, Option.some_ne_none _, rfl⟩
theorem zr_8_25 : zRow xM 8 25 = some (16, .iadd, 26, 0, 0) := rfl
theorem zr_8_26 : zRow xM 8 26 = some (47, .putfield 51, 29, 1, 8) := rfl
theorem zr_8_29 : zRow xM 8 29 = some (110, .return_, 30, 0, 0) := rfl
theorem zm_9 : zMt xM 9 = some (3, none, 1, 0, 0) := rfl
theorem zr_9_0 : zRow xM 9 0 = some (7, .aload_n 0, 1, 0, 0) := rfl
theorem zr_9_1 : zRow xM 9 1 = some (46, .getfield 45, 4, 1, 6) := rfl
theorem zr_9_4 : zRow xM 9 4 = some (9, .istore_n 1, 5, 1, 0) := rfl
theorem zr_9_5 : zRp 9 5 6 (0, 0) := ⟨_, _, _, _, rfl, by decide, Option.some_ne_none _, rfl⟩
theorem zr_9_6 : zRow xM 9 6 = some (9, .istore_n 2, 7, 2, 0) := rfl
theorem zr_9_7 : zRow xM 9 7 = some (7, .aload_n 0, 8, 0, 0) := rfl
theorem zr_9_8 : zRow xM 9 8 = some (46, .getfield 45, 11, 1, 6) := rfl
theorem zr_9_11 : zRow xM 9 11 = some (7, .aload_n 0, 12, 0, 0) := rfl
theorem zr_9_12 : zRow xM 9 12 = some (46, .getfield 34, 15, 1, 5) := rfl
theorem zr_9_15 : zRow xM 9 15 = some (41, .if_icmp .ge 84, 18, 99, 3) := rfl
theorem zr_9_18 : zRow xM 9 18 = some (7, .aload_n 0, 19, 0, 0) := rfl
theorem zr_9_19 : zRow xM 9 19 = some (46, .getfield 19, 22, 1, 2) := rfl
theorem zr_9_22 : zRow xM 9 22 = some (7, .aload_n 0, 23, 0, 0) := rfl
theorem zr_9_23 : zRow xM 9 23 = some (46, .getfield 45, 26, 1, 6) := rfl
theorem zr_9_26 : zRow xM 9 26 = some (48, .iaload, 27, 0, 0) := rfl
theorem zr_9_27 : zRp 9 27 29 (0, 48) := ⟨_, _, _, _, rfl, by decide, Option.some_ne_none _, rfl⟩
theorem zr_9_29 : zRow xM 9 29 = some (41, .if_icmp .lt 70, 32, 99, 0) := rfl
theorem zr_9_32 : zRow xM 9 32 = some (7, .aload_n 0, 33, 0, 0) := rfl
theorem zr_9_33 : zRow xM 9 33 = some (46, .getfield 19, 36, 1, 2) := rfl
theorem zr_9_36 : zRow xM 9 36 = some (7, .aload_n 0, 37, 0, 0) := rfl
theorem zr_9_37 : zRow xM 9 37 = some (46, .getfield 45, 40, 1, 6) := rfl
theorem zr_9_40 : zRow xM 9 40 = some (48, .iaload, 41, 0, 0) := rfl
theorem zr_9_41 : zRp 9 41 43 (0, 57) := ⟨_, _, _, _, rfl, by decide, Option.some_ne_none _, rfl⟩
theorem zr_9_43 : zRow xM 9 43 = some (41, .if_icmp .gt 56, 46, 99, 2) := rfl
theorem zr_9_46 : zRow xM 9 46 = some (7, .aload_n 0, 47, 0, 0) := rfl
theorem zr_9_47 : zRow xM 9 47 = some (46, .getfield 45, 50, 1, 6) := rfl
theorem zr_9_50 : zRow xM 9 50 = some (3, .iload_n 1, 51, 1, 0) := rfl
theorem zr_9_51 : zRow xM 9 51 = some (17, .isub, 52, 0, 0) := rfl
theorem zr_9_52 : zRp 9 52 54 (0, 6) := ⟨_, _, _, _, rfl, by decide, Option.some_ne_none _, rfl⟩
theorem zr_9_54 : zRow xM 9 54 = some (41, .if_icmp .lt 14, 57, 68, 0) := rfl
theorem zr_9_57 : zRow xM 9 57 = some (7, .aload_n 0, 58, 0, 0) := rfl
theorem zr_9_58 : zRow xM 9 58 = some (3, .iload_n 1, 59, 1, 0) := rfl
theorem zr_9_59 : zRow xM 9 59 = some (47, .putfield 45, 62, 1, 6) := rfl
theorem zr_9_62 : zRow xM 9 62 = some (7, .aload_n 0, 63, 0, 0) := rfl
theorem zr_9_63 : zRp 9 63 64 (0, 2) := ⟨_, _, _, _, rfl, by decide, Option.some_ne_none _, rfl⟩
theorem zr_9_64 : zRow xM 9 64 = some (105, .invokevirtual 62, 67, 5, 1) := rfl
theorem zr_9_67 : zRow xM 9 67 = some (110, .return_, 68, 0, 0) := rfl
theorem zr_9_68 : zRow xM 9 68 = some (3, .iload_n 2, 69, 2, 0) := rfl
theorem zr_9_69 : zRp 9 69 71 (0, 10) := ⟨_, _, _, _, rfl, by decide, Option.some_ne_none _, rfl⟩
theorem zr_9_71 : zRow xM 9 71 = some (18, .imul, 72, 0, 0) := rfl
theorem zr_9_72 : zRow xM 9 72 = some (7, .aload_n 0, 73, 0, 0) := rfl
theorem zr_9_73 : zRow xM 9 73 = some (46, .getfield 19, 76, 1, 2) := rfl
theorem zr_9_76 : zRow xM 9 76 = some (7, .aload_n 0, 77, 0, 0) := rfl
theorem zr_9_77 : zRow xM 9 77 = some (46, .getfield 45, 80, 1, 6) := rfl
theorem zr_9_80 : zRow xM 9 80 = some (48, .iaload, 81, 0, 0) := rfl
theorem zr_9_81 : zRow xM 9 81 = some (16, .iadd, 82, 0, 0) := rfl
theorem zr_9_82 : zRp 9 82 84 (0, 48) := ⟨_, _, _, _, rfl, by decide, Option.some_ne_none _, rfl⟩
theorem zr_9_84 : zRow xM 9 84 = some (17, .isub, 85, 0, 0) := rfl
theorem zr_9_85 : zRow xM 9 85 = some (9, .istore_n 2, 86, 2, 0) := rfl
theorem zr_9_86 : zRow xM 9 86 = some (7, .aload_n 0, 87, 0, 0) := rfl
theorem zr_9_87 : zRow xM 9 87 = some (43, .dup, 88, 0, 0) := rfl
theorem zr_9_88 : zRow xM 9 88 = some (46, .getfield 45, 91, 1, 6) := rfl
theorem zr_9_91 : zRp 9 91 92 (0, 1) := ⟨_, _, _, _, rfl, by decide, Option.some_ne_none _, rfl⟩
theorem zr_9_92 : zRow xM 9 92 = some (16, .iadd, 93, 0, 0) := rfl
theorem zr_9_93 : zRow xM 9 93 = some (47, .putfield 45, 96, 1, 6) := rfl
theorem zr_9_96 : zRow xM 9 96 = some (42, .goto (-89), 97, 7, 0) := rfl
theorem zr_9_99 : zRow xM 9 99 = some (7, .aload_n 0, 100, 0, 0) := rfl
theorem zr_9_100 : zRow xM 9 100 = some (3, .iload_n 2, 101, 2, 0) := rfl
theorem zr_9_101 : zRow xM 9 101 = some (105, .invokevirtual 86, 104, 8, 1) := rfl
theorem zr_9_104 : zRow xM 9 104 = some (110, .return_, 105, 0, 0) := rfl
theorem zm_10 : zMt xM 10 = some (1, (some .int), 1, 0, 0) := rfl
theorem zr_10_0 : zRow xM 10 0 = some (3, .iload_n 0, 1, 0, 0) := rfl
theorem zr_10_1 : zRow xM 10 1 = some (112, .lookupswitch 71 #[(101, 63), (103, 69), (109, 65), (111, 61), (120, 59), (121, 67)], 2, 0, 0) := rfl
theorem zr_10_60 : zRp 10 60 61 (0, 0) := ⟨_, _, _, _, rfl, by decide, Option.some_ne_none _, rfl⟩
theorem zr_10_61 : zRow xM 10 61 = some (108, .ireturn, 62, 0, 0) := rfl
theorem zr_10_62 : zRp 10 62 63 (0, 1) := ⟨_, _, _, _, rfl, by decide, Option.some_ne_none _, rfl⟩
theorem zr_10_63 : zRow xM 10 63 = some (108, .ireturn, 64, 0, 0) := rfl
theorem zr_10_64 : zRp 10 64 65 (0, 2) := ⟨_, _, _, _, rfl, by decide, Option.some_ne_none _, rfl⟩
theorem zr_10_65 : zRow xM 10 65 = some (108, .ireturn, 66, 0, 0) := rfl
theorem zr_10_66 : zRp 10 66 67 (0, 3) := ⟨_, _, _, _, rfl, by decide, Option.some_ne_none _, rfl⟩
theorem zr_10_67 : zRow xM 10 67 = some (108, .ireturn, 68, 0, 0) := rfl
theorem zr_10_68 : zRp 10 68 69 (0, 4) := ⟨_, _, _, _, rfl, by decide, Option.some_ne_none _, rfl⟩
theorem zr_10_69 : zRow xM 10 69 = some (108, .ireturn, 70, 0, 0) := rfl
theorem zr_10_70 : zRp 10 70 71 (0, 5) := ⟨_, _, _, _, rfl, by decide, Option.some_ne_none _, rfl⟩
theorem zr_10_71 : zRow xM 10 71 = some (108, .ireturn, 72, 0, 0) := rfl
theorem zr_10_72 : zRp 10 72 73 (0, -1) := ⟨_, _, _, _, rfl, by decide, Option.some_ne_none _, rfl⟩
theorem zr_10_73 : zRow xM 10 73 = some (108, .ireturn, 74, 0, 0) := rfl
theorem zm_11 : zMt xM 11 = some (4, none, 3, 0, 0) := rfl
theorem zr_11_0 : zRow xM 11 0 = some (3, .iload_n 2, 1, 2, 0) := rfl
theorem zr_11_1 : zRp 11 1 2 (0, 1) := ⟨_, _, _, _, rfl, by decide, Option.some_ne_none _, rfl⟩
theorem zr_11_2 : zRow xM 11 2 = some (17, .isub, 3, 0, 0) := rfl
theorem zr_11_3 : zRow xM 11 3 = some (9, .istore_n 3, 4, 3, 0) := rfl
theorem zr_11_4 : zRow xM 11 4 = some (3, .iload_n 3, 5, 3, 0) := rfl
theorem zr_11_5 : zRow xM 11 5 = some (3, .iload_n 1, 6, 1, 0) := rfl
theorem zr_11_6 : zRow xM 11 6 = some (41, .if_icmp .lt 46, 9, 52, 0) := rfl
theorem zr_11_9 : zRow xM 11 9 = some (7, .aload_n 0, 10, 0, 0) := rfl
theorem zr_11_10 : zRow xM 11 10 = some (46, .getfield 19, 13, 1, 2) := rfl
theorem zr_11_13 : zRow xM 11 13 = some (3, .iload_n 3, 14, 3, 0) := rfl
theorem zr_11_14 : zRow xM 11 14 = some (48, .iaload, 15, 0, 0) := rfl
theorem zr_11_15 : zRp 11 15 17 (0, 33) := ⟨_, _, _, _, rfl, by decide, Option.some_ne_none _, rfl⟩
theorem zr_11_17 : zRow xM 11 17 = some (41, .if_icmp .ne 12, 20, 29, 4) := rfl
theorem zr_11_20 : zRow xM 11 20 = some (7, .aload_n 0, 21, 0, 0) := rfl
theorem zr_11_21 : zRp 11 21 23 (0, -33) := ⟨_, _, _, _, rfl, by decide, Option.some_ne_none _, rfl⟩
theorem zr_11_23 : zRow xM 11 23 = some (105, .invokevirtual 86, 26, 8, 1) := rfl
theorem zr_11_26 : zRow xM 11 26 = some (42, .goto 20, 27, 46, 0) := rfl
theorem zr_11_29 : zRow xM 11 29 = some (7, .aload_n 0, 30, 0, 0) := rfl
theorem zr_11_30 : zRow xM 11 30 = some (46, .getfield 19, 33, 1, 2) := rfl
theorem zr_11_33 : zRow xM 11 33 = some (3, .iload_n 3, 34, 3, 0) := rfl
theorem zr_11_34 : zRow xM 11 34 = some (48, .iaload, 35, 0, 0) := rfl
theorem zr_11_35 : zRp 11 35 37 (0, 45) := ⟨_, _, _, _, rfl, by decide, Option.some_ne_none _, rfl⟩
theorem zr_11_37 : zRow xM 11 37 = some (41, .if_icmp .ne 9, 40, 46, 4) := rfl
theorem zr_11_40 : zRow xM 11 40 = some (7, .aload_n 0, 41, 0, 0) := rfl
theorem zr_11_41 : zRp 11 41 43 (0, -126) := ⟨_, _, _, _, rfl, by decide, Option.some_ne_none _, rfl⟩
theorem zr_11_43 : zRow xM 11 43 = some (105, .invokevirtual 86, 46, 8, 1) := rfl
theorem zr_11_46 : zRow xM 11 46 = some (15, .iinc 3 (-1), 49, 3, 4294967295) := rfl
theorem zr_11_49 : zRow xM 11 49 = some (42, .goto (-45), 50, 4, 0) := rfl
theorem zr_11_52 : zRow xM 11 52 = some (110, .return_, 53, 0, 0) := rfl
theorem zm_12 : zMt xM 12 = some (1, none, 1, 0, 0) := rfl
theorem zr_12_0 : zRow xM 12 0 = some (7, .aload_n 0, 1, 0, 0) := rfl
theorem zr_12_1 : zRow xM 12 1 = some (46, .getfield 48, 4, 1, 7) := rfl
theorem zr_12_4 : zRp 12 4 6 (0, 8) := ⟨_, _, _, _, rfl, by decide, Option.some_ne_none _, rfl⟩
theorem zr_12_6 : zRow xM 12 6 = some (41, .if_icmp .lt 9, 9, 15, 0) := rfl
theorem zr_12_9 : zRow xM 12 9 = some (7, .aload_n 0, 10, 0, 0) := rfl
theorem zr_12_10 : zRp 12 10 11 (0, 3) := ⟨_, _, _, _, rfl, by decide, Option.some_ne_none _, rfl⟩
theorem zr_12_11 : zRow xM 12 11 = some (105, .invokevirtual 62, 14, 5, 1) := rfl
theorem zr_12_14 : zRow xM 12 14 = some (110, .return_, 15, 0, 0) := rfl
theorem zr_12_15 : zRow xM 12 15 = some (7, .aload_n 0, 16, 0, 0) := rfl
theorem zr_12_16 : zRow xM 12 16 = some (43, .dup, 17, 0, 0) := rfl
theorem zr_12_17 : zRow xM 12 17 = some (46, .getfield 45, 20, 1, 6) := rfl
theorem zr_12_20 : zRp 12 20 21 (0, 1) := ⟨_, _, _, _, rfl, by decide, Option.some_ne_none _, rfl⟩
theorem zr_12_21 : zRow xM 12 21 = some (16, .iadd, 22, 0, 0) := rfl
theorem zr_12_22 : zRow xM 12 22 = some (47, .putfield 45, 25, 1, 6) := rfl
theorem zr_12_25 : zRow xM 12 25 = some (7, .aload_n 0, 26, 0, 0) := rfl
theorem zr_12_26 : zRow xM 12 26 = some (43, .dup, 27, 0, 0) := rfl
theorem zr_12_27 : zRow xM 12 27 = some (46, .getfield 48, 30, 1, 7) := rfl
theorem zr_12_30 : zRp 12 30 31 (0, 1) := ⟨_, _, _, _, rfl, by decide, Option.some_ne_none _, rfl⟩
theorem zr_12_31 : zRow xM 12 31 = some (16, .iadd, 32, 0, 0) := rfl
theorem zr_12_32 : zRow xM 12 32 = some (47, .putfield 48, 35, 1, 7) := rfl
theorem zr_12_35 : zRow xM 12 35 = some (7, .aload_n 0, 36, 0, 0) := rfl
theorem zr_12_36 : zRp 12 36 37 (0, 0) := ⟨_, _, _, _, rfl, by decide, Option.some_ne_none _, rfl⟩
theorem zr_12_37 : zRow xM 12 37 = some (105, .invokevirtual 54, 40, 13, 1) := rfl
theorem zr_12_40 : zRow xM 12 40 = some (7, .aload_n 0, 41, 0, 0) := rfl
theorem zr_12_41 : zRow xM 12 41 = some (43, .dup, 42, 0, 0) := rfl
theorem zr_12_42 : zRow xM 12 42 = some (46, .getfield 48, 45, 1, 7) := rfl
theorem zr_12_45 : zRp 12 45 46 (0, 1) := ⟨_, _, _, _, rfl, by decide, Option.some_ne_none _, rfl⟩
theorem zr_12_46 : zRow xM 12 46 = some (17, .isub, 47, 0, 0) := rfl
theorem zr_12_47 : zRow xM 12 47 = some (47, .putfield 48, 50, 1, 7) := rfl
theorem zr_12_50 : zRow xM 12 50 = some (7, .aload_n 0, 51, 0, 0) := rfl
theorem zr_12_51 : zRow xM 12 51 = some (105, .invokevirtual 58, 54, 6, 1) := rfl
theorem zr_12_54 : zRp 12 54 56 (0, 41) := ⟨_, _, _, _, rfl, by decide, Option.some_ne_none _, rfl⟩
theorem zr_12_56 : zRow xM 12 56 = some (41, .if_icmp .ne 16, 59, 72, 4) := rfl
theorem zr_12_59 : zRow xM 12 59 = some (7, .aload_n 0, 60, 0, 0) := rfl
theorem zr_12_60 : zRow xM 12 60 = some (43, .dup, 61, 0, 0) := rfl
theorem zr_12_61 : zRow xM 12 61 = some (46, .getfield 45, 64, 1, 6) := rfl
theorem zr_12_64 : zRp 12 64 65 (0, 1) := ⟨_, _, _, _, rfl, by decide, Option.some_ne_none _, rfl⟩
theorem zr_12_65 : zRow xM 12 65 = some (16, .iadd, 66, 0, 0) := rfl
theorem zr_12_66 : zRow xM 12 66 = some (47, .putfield 45, 69, 1, 6) := rfl
theorem zr_12_69 : zRow xM 12 69 = some (42, .goto 8, 70, 77, 0) := rfl
theorem zr_12_72 : zRow xM 12 72 = some (7, .aload_n 0, 73, 0, 0) := rfl
theorem zr_12_73 : zRp 12 73 74 (0, 1) := ⟨_, _, _, _, rfl, by decide, Option.some_ne_none _, rfl⟩
theorem zr_12_74 : zRow xM 12 74 = some (105, .invokevirtual 62, 77, 5, 1) := rfl
theorem zr_12_77 : zRow xM 12 77 = some (110, .return_, 78, 0, 0) := rfl
theorem zm_13 : zMt xM 13 = some (5, none, 2, 0, 0) := rfl
theorem zr_13_0 : zRow xM 13 0 = some (3, .iload_n 1, 1, 1, 0) := rfl
theorem zr_13_1 : zRp 13 1 2 (0, 5) := ⟨_, _, _, _, rfl, by decide, Option.some_ne_none _, rfl⟩
theorem zr_13_2 : zRow xM 13 2 = some (41, .if_icmp .lt 8, 5, 10, 0) := rfl
theorem zr_13_5 : zRow xM 13 5 = some (7, .aload_n 0, 6, 0, 0) := rfl
theorem zr_13_6 : zRow xM 13 6 = some (105, .invokevirtual 79, 9, 14, 1) := rfl
theorem zr_13_9 : zRow xM 13 9 = some (110, .return_, 10, 0, 0) := rfl
theorem zr_13_10 : zRow xM 13 10 = some (7, .aload_n 0, 11, 0, 0) := rfl
theorem zr_13_11 : zRow xM 13 11 = some (3, .iload_n 1, 12, 1, 0) := rfl
theorem zr_13_12 : zRp 13 12 13 (0, 1) := ⟨_, _, _, _, rfl, by decide, Option.some_ne_none _, rfl⟩
theorem zr_13_13 : zRow xM 13 13 = some (16, .iadd, 14, 0, 0) := rfl
theorem zr_13_14 : zRow xM 13 14 = some (105, .invokevirtual 54, 17, 13, 1) := rfl
theorem zr_13_17 : zRow xM 13 17 = some (3, .iload_n 1, 18, 1, 0) := rfl
theorem zr_13_18 : zRp 13 18 19 (0, 2) := ⟨_, _, _, _, rfl, by decide, Option.some_ne_none _, rfl⟩
theorem zr_13_19 : zRow xM 13 19 = some (41, .if_icmp .ne 7, 22, 26, 4) := rfl
theorem zr_13_22 : zRp 13 22 23 (0, 1) := ⟨_, _, _, _, rfl, by decide, Option.some_ne_none _, rfl⟩
theorem zr_13_23 : zRow xM 13 23 = some (42, .goto 5, 24, 28, 0) := rfl
theorem zr_13_26 : zRp 13 26 28 (0, 50) := ⟨_, _, _, _, rfl, by decide, Option.some_ne_none _, rfl⟩
theorem zr_13_28 : zRow xM 13 28 = some (9, .istore_n 2, 29, 2, 0) := rfl
theorem zr_13_29 : zRp 13 29 30 (0, 0) := ⟨_, _, _, _, rfl, by decide, Option.some_ne_none _, rfl⟩
theorem zr_13_30 : zRow xM 13 30 = some (9, .istore_n 3, 31, 3, 0) := rfl
theorem zr_13_31 : zRow xM 13 31 = some (3, .iload_n 3, 32, 3, 0) := rfl
theorem zr_13_32 : zRow xM 13 32 = some (3, .iload_n 2, 33, 2, 0) := rfl
theorem zr_13_33 : zRow xM 13 33 = some (41, .if_icmp .ge 49, 36, 82, 3) := rfl
theorem zr_13_36 : zRow xM 13 36 = some (7, .aload_n 0, 37, 0, 0) := rfl
theorem zr_13_37 : zRow xM 13 37 = some (105, .invokevirtual 58, 40, 6, 1) := rfl
theorem zr_13_40 : zRow xM 13 40 = some (10, .istore 4, 42, 4, 0) := rfl
theorem zr_13_42 : zRow xM 13 42 = some (4, .iload 4, 44, 4, 0) := rfl
theorem zr_13_44 : zRow xM 13 44 = some (107, .invokestatic 82, 47, 7, 0) := rfl
theorem zr_13_47 : zRow xM 13 47 = some (3, .iload_n 1, 48, 1, 0) := rfl
theorem zr_13_48 : zRow xM 13 48 = some (41, .if_icmp .eq 4, 51, 52, 1) := rfl
theorem zr_13_51 : zRow xM 13 51 = some (110, .return_, 52, 0, 0) := rfl
theorem zr_13_52 : zRow xM 13 52 = some (7, .aload_n 0, 53, 0, 0) := rfl
theorem zr_13_53 : zRow xM 13 53 = some (43, .dup, 54, 0, 0) := rfl
theorem zr_13_54 : zRow xM 13 54 = some (46, .getfield 45, 57, 1, 6) := rfl
theorem zr_13_57 : zRp 13 57 58 (0, 1) := ⟨_, _, _, _, rfl, by decide, Option.some_ne_none _, rfl⟩
theorem zr_13_58 : zRow xM 13 58 = some (16, .iadd, 59, 0, 0) := rfl
theorem zr_13_59 : zRow xM 13 59 = some (47, .putfield 45, 62, 1, 6) := rfl
theorem zr_13_62 : zRow xM 13 62 = some (7, .aload_n 0, 63, 0, 0) := rfl
theorem zr_13_63 : zRow xM 13 63 = some (3, .iload_n 1, 64, 1, 0) := rfl
theorem zr_13_64 : zRp 13 64 65 (0, 1) := ⟨_, _, _, _, rfl, by decide, Option.some_ne_none _, rfl⟩
theorem zr_13_65 : zRow xM 13 65 = some (16, .iadd, 66, 0, 0) := rfl
theorem zr_13_66 : zRow xM 13 66 = some (105, .invokevirtual 54, 69, 13, 1) := rfl
theorem zr_13_69 : zRow xM 13 69 = some (7, .aload_n 0, 70, 0, 0) := rfl
theorem zr_13_70 : zRow xM 13 70 = some (4, .iload 4, 72, 4, 0) := rfl
theorem zr_13_72 : zRow xM 13 72 = some (38, .ineg, 73, 0, 0) := rfl
theorem zr_13_73 : zRow xM 13 73 = some (105, .invokevirtual 86, 76, 8, 1) := rfl
theorem zr_13_76 : zRow xM 13 76 = some (15, .iinc 3 1, 79, 3, 1) := rfl
theorem zr_13_79 : zRow xM 13 79 = some (42, .goto (-48), 80, 31, 0) := rfl
theorem zr_13_82 : zRow xM 13 82 = some (110, .return_, 83, 0, 0) := rfl
theorem zm_14 : zMt xM 14 = some (4, none, 1, 0, 0) := rfl
theorem zr_14_0 : zRow xM 14 0 = some (7, .aload_n 0, 1, 0, 0) := rfl
theorem zr_14_1 : zRow xM 14 1 = some (46, .getfield 45, 4, 1, 6) := rfl
theorem zr_14_4 : zRow xM 14 4 = some (9, .istore_n 1, 5, 1, 0) := rfl
theorem zr_14_5 : zRow xM 14 5 = some (7, .aload_n 0, 6, 0, 0) := rfl
theorem zr_14_6 : zRow xM 14 6 = some (105, .invokevirtual 58, 9, 6, 1) := rfl
theorem zr_14_9 : zRow xM 14 9 = some (9, .istore_n 2, 10, 2, 0) := rfl
theorem zr_14_10 : zRp 14 10 11 (0, 0) := ⟨_, _, _, _, rfl, by decide, Option.some_ne_none _, rfl⟩
theorem zr_14_11 : zRow xM 14 11 = some (9, .istore_n 3, 12, 3, 0) := rfl
theorem zr_14_12 : zRow xM 14 12 = some (3, .iload_n 3, 13, 3, 0) := rfl
theorem zr_14_13 : zRp 14 13 15 (0, 50) := ⟨_, _, _, _, rfl, by decide, Option.some_ne_none _, rfl⟩
theorem zr_14_15 : zRow xM 14 15 = some (41, .if_icmp .ge 36, 18, 51, 3) := rfl
theorem zr_14_18 : zRow xM 14 18 = some (3, .iload_n 2, 19, 2, 0) := rfl
theorem zr_14_19 : zRp 14 19 21 (0, 33) := ⟨_, _, _, _, rfl, by decide, Option.some_ne_none _, rfl⟩
theorem zr_14_21 : zRow xM 14 21 = some (41, .if_icmp .eq 9, 24, 30, 1) := rfl
theorem zr_14_24 : zRow xM 14 24 = some (3, .iload_n 2, 25, 2, 0) := rfl
theorem zr_14_25 : zRp 14 25 27 (0, 45) := ⟨_, _, _, _, rfl, by decide, Option.some_ne_none _, rfl⟩
theorem zr_14_27 : zRow xM 14 27 = some (41, .if_icmp .ne 24, 30, 51, 4) := rfl
theorem zr_14_30 : zRow xM 14 30 = some (7, .aload_n 0, 31, 0, 0) := rfl
theorem zr_14_31 : zRow xM 14 31 = some (43, .dup, 32, 0, 0) := rfl
theorem zr_14_32 : zRow xM 14 32 = some (46, .getfield 45, 35, 1, 6) := rfl
theorem zr_14_35 : zRp 14 35 36 (0, 1) := ⟨_, _, _, _, rfl, by decide, Option.some_ne_none _, rfl⟩
theorem zr_14_36 : zRow xM 14 36 = some (16, .iadd, 37, 0, 0) := rfl
theorem zr_14_37 : zRow xM 14 37 = some (47, .putfield 45, 40, 1, 6) := rfl
theorem zr_14_40 : zRow xM 14 40 = some (7, .aload_n 0, 41, 0, 0) := rfl
theorem zr_14_41 : zRow xM 14 41 = some (105, .invokevirtual 58, 44, 6, 1) := rfl
theorem zr_14_44 : zRow xM 14 44 = some (9, .istore_n 2, 45, 2, 0) := rfl
theorem zr_14_45 : zRow xM 14 45 = some (15, .iinc 3 1, 48, 3, 1) := rfl
theorem zr_14_48 : zRow xM 14 48 = some (42, .goto (-36), 49, 12, 0) := rfl
theorem zr_14_51 : zRow xM 14 51 = some (7, .aload_n 0, 52, 0, 0) := rfl
theorem zr_14_52 : zRow xM 14 52 = some (46, .getfield 45, 55, 1, 6) := rfl
theorem zr_14_55 : zRow xM 14 55 = some (9, .istore_n 3, 56, 3, 0) := rfl
theorem zr_14_56 : zRow xM 14 56 = some (3, .iload_n 2, 57, 2, 0) := rfl
theorem zr_14_57 : zRp 14 57 59 (0, 48) := ⟨_, _, _, _, rfl, by decide, Option.some_ne_none _, rfl⟩
theorem zr_14_59 : zRow xM 14 59 = some (41, .if_icmp .lt 16, 62, 75, 0) := rfl
theorem zr_14_62 : zRow xM 14 62 = some (3, .iload_n 2, 63, 2, 0) := rfl
theorem zr_14_63 : zRp 14 63 65 (0, 57) := ⟨_, _, _, _, rfl, by decide, Option.some_ne_none _, rfl⟩
theorem zr_14_65 : zRow xM 14 65 = some (41, .if_icmp .gt 10, 68, 75, 2) := rfl
theorem zr_14_68 : zRow xM 14 68 = some (7, .aload_n 0, 69, 0, 0) := rfl
theorem zr_14_69 : zRow xM 14 69 = some (105, .invokevirtual 89, 72, 9, 1) := rfl
theorem zr_14_72 : zRow xM 14 72 = some (42, .goto 48, 73, 120, 0) := rfl
theorem zr_14_75 : zRow xM 14 75 = some (3, .iload_n 2, 76, 2, 0) := rfl
theorem zr_14_76 : zRow xM 14 76 = some (107, .invokestatic 92, 79, 10, 0) := rfl
theorem zr_14_79 : zRp 14 79 80 (0, -1) := ⟨_, _, _, _, rfl, by decide, Option.some_ne_none _, rfl⟩
theorem zr_14_80 : zRow xM 14 80 = some (41, .if_icmp .eq 22, 83, 102, 1) := rfl
theorem zr_14_83 : zRow xM 14 83 = some (7, .aload_n 0, 84, 0, 0) := rfl
theorem zr_14_84 : zRow xM 14 84 = some (43, .dup, 85, 0, 0) := rfl
theorem zr_14_85 : zRow xM 14 85 = some (46, .getfield 45, 88, 1, 6) := rfl
theorem zr_14_88 : zRp 14 88 89 (0, 1) := ⟨_, _, _, _, rfl, by decide, Option.some_ne_none _, rfl⟩
theorem zr_14_89 : zRow xM 14 89 = some (16, .iadd, 90, 0, 0) := rfl
theorem zr_14_90 : zRow xM 14 90 = some (47, .putfield 45, 93, 1, 6) := rfl
theorem zr_14_93 : zRow xM 14 93 = some (7, .aload_n 0, 94, 0, 0) := rfl
theorem zr_14_94 : zRow xM 14 94 = some (3, .iload_n 2, 95, 2, 0) := rfl
theorem zr_14_95 : zRow xM 14 95 = some (38, .ineg, 96, 0, 0) := rfl
theorem zr_14_96 : zRow xM 14 96 = some (105, .invokevirtual 86, 99, 8, 1) := rfl
theorem zr_14_99 : zRow xM 14 99 = some (42, .goto 21, 100, 120, 0) := rfl
theorem zr_14_102 : zRow xM 14 102 = some (3, .iload_n 2, 103, 2, 0) := rfl
theorem zr_14_103 : zRp 14 103 105 (0, 40) := ⟨_, _, _, _, rfl, by decide, Option.some_ne_none _, rfl⟩
theorem zr_14_105 : zRow xM 14 105 = some (41, .if_icmp .ne 10, 108, 115, 4) := rfl
theorem zr_14_108 : zRow xM 14 108 = some (7, .aload_n 0, 109, 0, 0) := rfl
theorem zr_14_109 : zRow xM 14 109 = some (105, .invokevirtual 95, 112, 12, 1) := rfl
theorem zr_14_112 : zRow xM 14 112 = some (42, .goto 8, 113, 120, 0) := rfl
theorem zr_14_115 : zRow xM 14 115 = some (7, .aload_n 0, 116, 0, 0) := rfl
theorem zr_14_116 : zRp 14 116 117 (0, 1) := ⟨_, _, _, _, rfl, by decide, Option.some_ne_none _, rfl⟩
theorem zr_14_117 : zRow xM 14 117 = some (105, .invokevirtual 62, 120, 5, 1) := rfl
theorem zr_14_120 : zRow xM 14 120 = some (7, .aload_n 0, 121, 0, 0) := rfl
theorem zr_14_121 : zRow xM 14 121 = some (3, .iload_n 1, 122, 1, 0) := rfl
theorem zr_14_122 : zRow xM 14 122 = some (3, .iload_n 3, 123, 3, 0) := rfl
theorem zr_14_123 : zRow xM 14 123 = some (105, .invokevirtual 98, 126, 11, 1) := rfl
theorem zr_14_126 : zRow xM 14 126 = some (110, .return_, 127, 0, 0) := rfl
theorem zm_15 : zMt xM 15 = some (3, none, 3, 0, 0) := rfl
theorem zr_15_0 : zRow xM 15 0 = some (7, .aload_n 0, 1, 0, 0) := rfl
theorem zr_15_1 : zRow xM 15 1 = some (7, .aload_n 1, 2, 1, 0) := rfl
theorem zr_15_2 : zRow xM 15 2 = some (46, .getfield 29, 5, 4, 14) := rfl
theorem zr_15_5 : zRow xM 15 5 = some (3, .iload_n 2, 6, 2, 0) := rfl
theorem zr_15_6 : zRow xM 15 6 = some (48, .iaload, 7, 0, 0) := rfl
theorem zr_15_7 : zRow xM 15 7 = some (47, .putfield 34, 10, 1, 5) := rfl
theorem zr_15_10 : zRow xM 15 10 = some (7, .aload_n 1, 11, 1, 0) := rfl
theorem zr_15_11 : zRow xM 15 11 = some (46, .getfield 36, 14, 4, 15) := rfl
theorem zr_15_14 : zRow xM 15 14 = some (3, .iload_n 2, 15, 2, 0) := rfl
theorem zr_15_15 : zRp 15 15 17 (0, 50) := ⟨_, _, _, _, rfl, by decide, Option.some_ne_none _, rfl⟩
theorem zr_15_17 : zRow xM 15 17 = some (18, .imul, 18, 0, 0) := rfl
theorem zr_15_18 : zRow xM 15 18 = some (7, .aload_n 0, 19, 0, 0) := rfl
theorem zr_15_19 : zRow xM 15 19 = some (46, .getfield 19, 22, 1, 2) := rfl
theorem zr_15_22 : zRp 15 22 23 (0, 0) := ⟨_, _, _, _, rfl, by decide, Option.some_ne_none _, rfl⟩
theorem zr_15_23 : zRow xM 15 23 = some (7, .aload_n 0, 24, 0, 0) := rfl
theorem zr_15_24 : zRow xM 15 24 = some (46, .getfield 34, 27, 1, 5) := rfl
theorem zr_15_27 : zRow xM 15 27 = some (114, .invokestatic 39, 30, 998, 0) := rfl
theorem zr_15_30 : zRow xM 15 30 = some (7, .aload_n 0, 31, 0, 0) := rfl
theorem zr_15_31 : zRp 15 31 32 (0, 0) := ⟨_, _, _, _, rfl, by decide, Option.some_ne_none _, rfl⟩
theorem zr_15_32 : zRow xM 15 32 = some (47, .putfield 45, 35, 1, 6) := rfl
theorem zr_15_35 : zRow xM 15 35 = some (7, .aload_n 0, 36, 0, 0) := rfl
theorem zr_15_36 : zRp 15 36 37 (0, 0) := ⟨_, _, _, _, rfl, by decide, Option.some_ne_none _, rfl⟩
theorem zr_15_37 : zRow xM 15 37 = some (47, .putfield 48, 40, 1, 7) := rfl
theorem zr_15_40 : zRow xM 15 40 = some (7, .aload_n 0, 41, 0, 0) := rfl
theorem zr_15_41 : zRp 15 41 42 (0, 0) := ⟨_, _, _, _, rfl, by decide, Option.some_ne_none _, rfl⟩
theorem zr_15_42 : zRow xM 15 42 = some (47, .putfield 51, 45, 1, 8) := rfl
theorem zr_15_45 : zRow xM 15 45 = some (7, .aload_n 0, 46, 0, 0) := rfl
theorem zr_15_46 : zRp 15 46 47 (0, -1) := ⟨_, _, _, _, rfl, by decide, Option.some_ne_none _, rfl⟩
theorem zr_15_47 : zRow xM 15 47 = some (47, .putfield 15, 50, 1, 1) := rfl
theorem zr_15_50 : zRow xM 15 50 = some (7, .aload_n 0, 51, 0, 0) := rfl
theorem zr_15_51 : zRp 15 51 52 (0, 0) := ⟨_, _, _, _, rfl, by decide, Option.some_ne_none _, rfl⟩
theorem zr_15_52 : zRow xM 15 52 = some (105, .invokevirtual 54, 55, 13, 1) := rfl
theorem zr_15_55 : zRow xM 15 55 = some (7, .aload_n 0, 56, 0, 0) := rfl
theorem zr_15_56 : zRow xM 15 56 = some (46, .getfield 15, 59, 1, 1) := rfl
theorem zr_15_59 : zRp 15 59 60 (0, -1) := ⟨_, _, _, _, rfl, by decide, Option.some_ne_none _, rfl⟩
theorem zr_15_60 : zRow xM 15 60 = some (41, .if_icmp .ne 16, 63, 76, 4) := rfl
theorem zr_15_63 : zRow xM 15 63 = some (7, .aload_n 0, 64, 0, 0) := rfl
theorem zr_15_64 : zRow xM 15 64 = some (105, .invokevirtual 58, 67, 6, 1) := rfl
theorem zr_15_67 : zRp 15 67 68 (0, -1) := ⟨_, _, _, _, rfl, by decide, Option.some_ne_none _, rfl⟩
theorem zr_15_68 : zRow xM 15 68 = some (41, .if_icmp .eq 8, 71, 76, 1) := rfl
theorem zr_15_71 : zRow xM 15 71 = some (7, .aload_n 0, 72, 0, 0) := rfl
theorem zr_15_72 : zRp 15 72 73 (0, 1) := ⟨_, _, _, _, rfl, by decide, Option.some_ne_none _, rfl⟩
theorem zr_15_73 : zRow xM 15 73 = some (105, .invokevirtual 62, 76, 5, 1) := rfl
theorem zr_15_76 : zRow xM 15 76 = some (110, .return_, 77, 0, 0) := rfl
theorem zm_16 : zMt xM 16 = some (2, none, 2, 0, 0) := rfl
theorem zr_16_0 : zRow xM 16 0 = some (7, .aload_n 0, 1, 0, 0) := rfl
theorem zr_16_1 : zRow xM 16 1 = some (46, .getfield 18, 4, 3, 2) := rfl
theorem zr_16_4 : zRow xM 16 4 = some (7, .aload_n 0, 5, 0, 0) := rfl
theorem zr_16_5 : zRow xM 16 5 = some (46, .getfield 28, 8, 3, 1) := rfl
theorem zr_16_8 : zRow xM 16 8 = some (3, .iload_n 1, 9, 1, 0) := rfl
theorem zr_16_9 : zRow xM 16 9 = some (105, .invokevirtual 32, 12, 15, 1) := rfl
theorem zr_16_12 : zRow xM 16 12 = some (7, .aload_n 0, 13, 0, 0) := rfl
theorem zr_16_13 : zRow xM 16 13 = some (46, .getfield 9, 16, 3, 0) := rfl
theorem zr_16_16 : zRow xM 16 16 = some (7, .aload_n 0, 17, 0, 0) := rfl
theorem zr_16_17 : zRow xM 16 17 = some (46, .getfield 28, 20, 3, 1) := rfl
theorem zr_16_20 : zRow xM 16 20 = some (46, .getfield 40, 23, 4, 13) := rfl
theorem zr_16_23 : zRow xM 16 23 = some (3, .iload_n 1, 24, 1, 0) := rfl
theorem zr_16_24 : zRow xM 16 24 = some (48, .iaload, 25, 0, 0) := rfl
theorem zr_16_25 : zRow xM 16 25 = some (107, .invokestatic 45, 28, 4, 0) := rfl
theorem zr_16_28 : zRow xM 16 28 = some (7, .aload_n 0, 29, 0, 0) := rfl
theorem zr_16_29 : zRow xM 16 29 = some (46, .getfield 22, 32, 3, 3) := rfl
theorem zr_16_32 : zRp 16 32 33 (0, 0) := ⟨_, _, _, _, rfl, by decide, Option.some_ne_none _, rfl⟩
theorem zr_16_33 : zRow xM 16 33 = some (107, .invokestatic 45, 36, 4, 0) := rfl
theorem zr_16_36 : zRow xM 16 36 = some (7, .aload_n 0, 37, 0, 0) := rfl
theorem zr_16_37 : zRow xM 16 37 = some (46, .getfield 25, 40, 3, 4) := rfl
theorem zr_16_40 : zRp 16 40 41 (0, 0) := ⟨_, _, _, _, rfl, by decide, Option.some_ne_none _, rfl⟩
theorem zr_16_41 : zRow xM 16 41 = some (107, .invokestatic 45, 44, 4, 0) := rfl
theorem zr_16_44 : zRow xM 16 44 = some (110, .return_, 45, 0, 0) := rfl
theorem zm_17 : zMt xM 17 = some (1, (some .boolean), 1, 0, 0) := rfl
theorem zr_17_0 : zRow xM 17 0 = some (7, .aload_n 0, 1, 0, 0) := rfl
theorem zr_17_1 : zRow xM 17 1 = some (46, .getfield 18, 4, 3, 2) := rfl
theorem zr_17_4 : zRow xM 17 4 = some (46, .getfield 36, 7, 1, 1) := rfl
theorem zr_17_7 : zRp 17 7 8 (0, -1) := ⟨_, _, _, _, rfl, by decide, Option.some_ne_none _, rfl⟩
theorem zr_17_8 : zRow xM 17 8 = some (41, .if_icmp .eq 7, 11, 15, 1) := rfl
theorem zr_17_11 : zRp 17 11 12 (0, 1) := ⟨_, _, _, _, rfl, by decide, Option.some_ne_none _, rfl⟩
theorem zr_17_12 : zRow xM 17 12 = some (42, .goto 4, 13, 16, 0) := rfl
theorem zr_17_15 : zRp 17 15 16 (0, 0) := ⟨_, _, _, _, rfl, by decide, Option.some_ne_none _, rfl⟩
theorem zr_17_16 : zRow xM 17 16 = some (108, .ireturn, 17, 0, 0) := rfl
theorem zm_18 : zMt xM 18 = some (2, (some .boolean), 2, 0, 0) := rfl
theorem zr_18_0 : zRow xM 18 0 = some (7, .aload_n 0, 1, 0, 0) := rfl
theorem zr_18_1 : zRow xM 18 1 = some (46, .getfield 65, 4, 4, 2) := rfl
theorem zr_18_4 : zRow xM 18 4 = some (3, .iload_n 1, 5, 1, 0) := rfl
theorem zr_18_5 : zRow xM 18 5 = some (34, .lshr, 6, 0, 0) := rfl
theorem zr_18_6 : zRp 18 6 7 (1, 1) := ⟨_, _, _, _, rfl, by decide, Option.some_ne_none _, rfl⟩
theorem zr_18_7 : zRow xM 18 7 = some (30, .land, 8, 0, 0) := rfl
theorem zr_18_8 : zRp 18 8 9 (1, 0) := ⟨_, _, _, _, rfl, by decide, Option.some_ne_none _, rfl⟩
theorem zr_18_9 : zRow xM 18 9 = some (39, .lcmp, 10, 0, 0) := rfl
theorem zr_18_10 : zRow xM 18 10 = some (40, .ifCond .eq 7, 13, 17, 1) := rfl
theorem zr_18_13 : zRp 18 13 14 (0, 1) := ⟨_, _, _, _, rfl, by decide, Option.some_ne_none _, rfl⟩
theorem zr_18_14 : zRow xM 18 14 = some (42, .goto 4, 15, 18, 0) := rfl
theorem zr_18_17 : zRp 18 17 18 (0, 0) := ⟨_, _, _, _, rfl, by decide, Option.some_ne_none _, rfl⟩
theorem zr_18_18 : zRow xM 18 18 = some (108, .ireturn, 19, 0, 0) := rfl
theorem zm_19 : zMt xM 19 = some (3, none, 2, 0, 0) := rfl
theorem zr_19_0 : zRow xM 19 0 = some (7, .aload_n 0, 1, 0, 0) := rfl
theorem zr_19_1 : zRow xM 19 1 = some (46, .getfield 65, 4, 1, 9) := rfl
theorem zr_19_4 : zRp 19 4 6 (0, 50) := ⟨_, _, _, _, rfl, by decide, Option.some_ne_none _, rfl⟩
theorem zr_19_6 : zRow xM 19 6 = some (41, .if_icmp .ge 23, 9, 29, 3) := rfl
theorem zr_19_9 : zRow xM 19 9 = some (7, .aload_n 0, 10, 0, 0) := rfl
theorem zr_19_10 : zRow xM 19 10 = some (46, .getfield 26, 13, 1, 4) := rfl
theorem zr_19_13 : zRow xM 19 13 = some (7, .aload_n 0, 14, 0, 0) := rfl
theorem zr_19_14 : zRow xM 19 14 = some (46, .getfield 65, 17, 1, 9) := rfl
theorem zr_19_17 : zRow xM 19 17 = some (5, .lload_n 1, 18, 1, 0) := rfl
theorem zr_19_18 : zRow xM 19 18 = some (51, .lastore, 19, 0, 0) := rfl
theorem zr_19_19 : zRow xM 19 19 = some (7, .aload_n 0, 20, 0, 0) := rfl
theorem zr_19_20 : zRow xM 19 20 = some (43, .dup, 21, 0, 0) := rfl
theorem zr_19_21 : zRow xM 19 21 = some (46, .getfield 65, 24, 1, 9) := rfl
theorem zr_19_24 : zRp 19 24 25 (0, 1) := ⟨_, _, _, _, rfl, by decide, Option.some_ne_none _, rfl⟩
theorem zr_19_25 : zRow xM 19 25 = some (16, .iadd, 26, 0, 0) := rfl
theorem zr_19_26 : zRow xM 19 26 = some (47, .putfield 65, 29, 1, 9) := rfl
theorem zr_19_29 : zRow xM 19 29 = some (110, .return_, 30, 0, 0) := rfl
theorem zm_20 : zMt xM 20 = some (1, (some .long), 1, 0, 0) := rfl
theorem zr_20_0 : zRow xM 20 0 = some (7, .aload_n 0, 1, 0, 0) := rfl
theorem zr_20_1 : zRow xM 20 1 = some (46, .getfield 65, 4, 1, 9) := rfl
theorem zr_20_4 : zRow xM 20 4 = some (40, .ifCond .gt 5, 7, 9, 2) := rfl
theorem zr_20_7 : zRp 20 7 8 (1, 0) := ⟨_, _, _, _, rfl, by decide, Option.some_ne_none _, rfl⟩
theorem zr_20_8 : zRow xM 20 8 = some (109, .lreturn, 9, 0, 0) := rfl
theorem zr_20_9 : zRow xM 20 9 = some (7, .aload_n 0, 10, 0, 0) := rfl
theorem zr_20_10 : zRow xM 20 10 = some (43, .dup, 11, 0, 0) := rfl
theorem zr_20_11 : zRow xM 20 11 = some (46, .getfield 65, 14, 1, 9) := rfl
theorem zr_20_14 : zRp 20 14 15 (0, 1) := ⟨_, _, _, _, rfl, by decide, Option.some_ne_none _, rfl⟩
theorem zr_20_15 : zRow xM 20 15 = some (17, .isub, 16, 0, 0) := rfl
theorem zr_20_16 : zRow xM 20 16 = some (47, .putfield 65, 19, 1, 9) := rfl
theorem zr_20_19 : zRow xM 20 19 = some (7, .aload_n 0, 20, 0, 0) := rfl
theorem zr_20_20 : zRow xM 20 20 = some (46, .getfield 26, 23, 1, 4) := rfl
theorem zr_20_23 : zRow xM 20 23 = some (7, .aload_n 0, 24, 0, 0) := rfl
theorem zr_20_24 : zRow xM 20 24 = some (46, .getfield 65, 27, 1, 9) := rfl
theorem zr_20_27 : zRow xM 20 27 = some (50, .laload, 28, 0, 0) := rfl
theorem zr_20_28 : zRow xM 20 28 = some (109, .lreturn, 29, 0, 0) := rfl
theorem zm_21 : zMt xM 21 = some (5, (some .long), 3, 0, 0) := rfl
theorem zr_21_0 : zRow xM 21 0 = some (3, .iload_n 2, 1, 2, 0) := rfl
theorem zr_21_1 : zRow xM 21 1 = some (112, .lookupswitch 159 #[(38, 93), (42, 155), (43, 147), (45, 151), (60, 111), (61, 135), (62, 123), (124, 75)], 2, 0, 0) := rfl
theorem zr_21_76 : zRow xM 21 76 = some (5, .lload_n 0, 77, 0, 0) := rfl
theorem zr_21_77 : zRp 21 77 78 (1, 0) := ⟨_, _, _, _, rfl, by decide, Option.some_ne_none _, rfl⟩
theorem zr_21_78 : zRow xM 21 78 = some (39, .lcmp, 79, 0, 0) := rfl
theorem zr_21_79 : zRow xM 21 79 = some (40, .ifCond .ne 9, 82, 88, 4) := rfl
theorem zr_21_82 : zRow xM 21 82 = some (5, .lload_n 3, 83, 3, 0) := rfl
theorem zr_21_83 : zRp 21 83 84 (1, 0) := ⟨_, _, _, _, rfl, by decide, Option.some_ne_none _, rfl⟩
theorem zr_21_84 : zRow xM 21 84 = some (39, .lcmp, 85, 0, 0) := rfl
theorem zr_21_85 : zRow xM 21 85 = some (40, .ifCond .eq 7, 88, 92, 1) := rfl
theorem zr_21_88 : zRp 21 88 89 (1, 1) := ⟨_, _, _, _, rfl, by decide, Option.some_ne_none _, rfl⟩
theorem zr_21_89 : zRow xM 21 89 = some (42, .goto 4, 90, 93, 0) := rfl
theorem zr_21_92 : zRp 21 92 93 (1, 0) := ⟨_, _, _, _, rfl, by decide, Option.some_ne_none _, rfl⟩
theorem zr_21_93 : zRow xM 21 93 = some (109, .lreturn, 94, 0, 0) := rfl
theorem zr_21_94 : zRow xM 21 94 = some (5, .lload_n 0, 95, 0, 0) := rfl
theorem zr_21_95 : zRp 21 95 96 (1, 0) := ⟨_, _, _, _, rfl, by decide, Option.some_ne_none _, rfl⟩
theorem zr_21_96 : zRow xM 21 96 = some (39, .lcmp, 97, 0, 0) := rfl
theorem zr_21_97 : zRow xM 21 97 = some (40, .ifCond .eq 13, 100, 110, 1) := rfl
theorem zr_21_100 : zRow xM 21 100 = some (5, .lload_n 3, 101, 3, 0) := rfl
theorem zr_21_101 : zRp 21 101 102 (1, 0) := ⟨_, _, _, _, rfl, by decide, Option.some_ne_none _, rfl⟩
theorem zr_21_102 : zRow xM 21 102 = some (39, .lcmp, 103, 0, 0) := rfl
theorem zr_21_103 : zRow xM 21 103 = some (40, .ifCond .eq 7, 106, 110, 1) := rfl
theorem zr_21_106 : zRp 21 106 107 (1, 1) := ⟨_, _, _, _, rfl, by decide, Option.some_ne_none _, rfl⟩
theorem zr_21_107 : zRow xM 21 107 = some (42, .goto 4, 108, 111, 0) := rfl
theorem zr_21_110 : zRp 21 110 111 (1, 0) := ⟨_, _, _, _, rfl, by decide, Option.some_ne_none _, rfl⟩
theorem zr_21_111 : zRow xM 21 111 = some (109, .lreturn, 112, 0, 0) := rfl
theorem zr_21_112 : zRow xM 21 112 = some (5, .lload_n 0, 113, 0, 0) := rfl
theorem zr_21_113 : zRow xM 21 113 = some (5, .lload_n 3, 114, 3, 0) := rfl
theorem zr_21_114 : zRow xM 21 114 = some (39, .lcmp, 115, 0, 0) := rfl
theorem zr_21_115 : zRow xM 21 115 = some (40, .ifCond .ge 7, 118, 122, 3) := rfl
theorem zr_21_118 : zRp 21 118 119 (1, 1) := ⟨_, _, _, _, rfl, by decide, Option.some_ne_none _, rfl⟩
theorem zr_21_119 : zRow xM 21 119 = some (42, .goto 4, 120, 123, 0) := rfl
theorem zr_21_122 : zRp 21 122 123 (1, 0) := ⟨_, _, _, _, rfl, by decide, Option.some_ne_none _, rfl⟩
theorem zr_21_123 : zRow xM 21 123 = some (109, .lreturn, 124, 0, 0) := rfl
theorem zr_21_124 : zRow xM 21 124 = some (5, .lload_n 0, 125, 0, 0) := rfl
theorem zr_21_125 : zRow xM 21 125 = some (5, .lload_n 3, 126, 3, 0) := rfl
theorem zr_21_126 : zRow xM 21 126 = some (39, .lcmp, 127, 0, 0) := rfl
theorem zr_21_127 : zRow xM 21 127 = some (40, .ifCond .le 7, 130, 134, 5) := rfl
theorem zr_21_130 : zRp 21 130 131 (1, 1) := ⟨_, _, _, _, rfl, by decide, Option.some_ne_none _, rfl⟩
theorem zr_21_131 : zRow xM 21 131 = some (42, .goto 4, 132, 135, 0) := rfl
theorem zr_21_134 : zRp 21 134 135 (1, 0) := ⟨_, _, _, _, rfl, by decide, Option.some_ne_none _, rfl⟩
theorem zr_21_135 : zRow xM 21 135 = some (109, .lreturn, 136, 0, 0) := rfl
theorem zr_21_136 : zRow xM 21 136 = some (5, .lload_n 0, 137, 0, 0) := rfl
theorem zr_21_137 : zRow xM 21 137 = some (5, .lload_n 3, 138, 3, 0) := rfl
theorem zr_21_138 : zRow xM 21 138 = some (39, .lcmp, 139, 0, 0) := rfl
theorem zr_21_139 : zRow xM 21 139 = some (40, .ifCond .ne 7, 142, 146, 4) := rfl
theorem zr_21_142 : zRp 21 142 143 (1, 1) := ⟨_, _, _, _, rfl, by decide, Option.some_ne_none _, rfl⟩
theorem zr_21_143 : zRow xM 21 143 = some (42, .goto 4, 144, 147, 0) := rfl
theorem zr_21_146 : zRp 21 146 147 (1, 0) := ⟨_, _, _, _, rfl, by decide, Option.some_ne_none _, rfl⟩
theorem zr_21_147 : zRow xM 21 147 = some (109, .lreturn, 148, 0, 0) := rfl
theorem zr_21_148 : zRow xM 21 148 = some (5, .lload_n 0, 149, 0, 0) := rfl
theorem zr_21_149 : zRow xM 21 149 = some (5, .lload_n 3, 150, 3, 0) := rfl
theorem zr_21_150 : zRow xM 21 150 = some (27, .ladd, 151, 0, 0) := rfl
theorem zr_21_151 : zRow xM 21 151 = some (109, .lreturn, 152, 0, 0) := rfl
theorem zr_21_152 : zRow xM 21 152 = some (5, .lload_n 0, 153, 0, 0) := rfl
theorem zr_21_153 : zRow xM 21 153 = some (5, .lload_n 3, 154, 3, 0) := rfl
theorem zr_21_154 : zRow xM 21 154 = some (28, .lsub, 155, 0, 0) := rfl
theorem zr_21_155 : zRow xM 21 155 = some (109, .lreturn, 156, 0, 0) := rfl
theorem zr_21_156 : zRow xM 21 156 = some (5, .lload_n 0, 157, 0, 0) := rfl
theorem zr_21_157 : zRow xM 21 157 = some (5, .lload_n 3, 158, 3, 0) := rfl
theorem zr_21_158 : zRow xM 21 158 = some (29, .lmul, 159, 0, 0) := rfl
theorem zr_21_159 : zRow xM 21 159 = some (109, .lreturn, 160, 0, 0) := rfl
theorem zr_21_160 : zRow xM 21 160 = some (5, .lload_n 3, 161, 3, 0) := rfl
theorem zr_21_161 : zRp 21 161 162 (1, 0) := ⟨_, _, _, _, rfl, by decide, Option.some_ne_none _, rfl⟩
theorem zr_21_162 : zRow xM 21 162 = some (39, .lcmp, 163, 0, 0) := rfl
theorem zr_21_163 : zRow xM 21 163 = some (40, .ifCond .ne 7, 166, 170, 4) := rfl
theorem zr_21_166 : zRp 21 166 167 (1, 0) := ⟨_, _, _, _, rfl, by decide, Option.some_ne_none _, rfl⟩
theorem zr_21_167 : zRow xM 21 167 = some (42, .goto 6, 168, 173, 0) := rfl
theorem zr_21_170 : zRow xM 21 170 = some (5, .lload_n 0, 171, 0, 0) := rfl
theorem zr_21_171 : zRow xM 21 171 = some (5, .lload_n 3, 172, 3, 0) := rfl
theorem zr_21_172 : zRow xM 21 172 = some (118, .ldiv, 173, 0, 0) := rfl
theorem zr_21_173 : zRow xM 21 173 = some (109, .lreturn, 174, 0, 0) := rfl
theorem zm_22 : zMt xM 22 = some (5, none, 2, 0, 0) := rfl
theorem zr_22_0 : zRow xM 22 0 = some (3, .iload_n 1, 1, 1, 0) := rfl
theorem zr_22_1 : zRow xM 22 1 = some (107, .invokestatic 92, 4, 10, 0) := rfl
theorem zr_22_4 : zRow xM 22 4 = some (9, .istore_n 2, 5, 2, 0) := rfl
theorem zr_22_5 : zRow xM 22 5 = some (3, .iload_n 2, 6, 2, 0) := rfl
theorem zr_22_6 : zRp 22 6 7 (0, -1) := ⟨_, _, _, _, rfl, by decide, Option.some_ne_none _, rfl⟩
theorem zr_22_7 : zRow xM 22 7 = some (41, .if_icmp .eq 14, 10, 21, 1) := rfl
theorem zr_22_10 : zRow xM 22 10 = some (7, .aload_n 0, 11, 0, 0) := rfl
theorem zr_22_11 : zRow xM 22 11 = some (7, .aload_n 0, 12, 0, 0) := rfl
theorem zr_22_12 : zRow xM 22 12 = some (46, .getfield 9, 15, 1, 0) := rfl
theorem zr_22_15 : zRow xM 22 15 = some (3, .iload_n 2, 16, 2, 0) := rfl
theorem zr_22_16 : zRow xM 22 16 = some (50, .laload, 17, 0, 0) := rfl
theorem zr_22_17 : zRow xM 22 17 = some (105, .invokevirtual 68, 20, 19, 1) := rfl
theorem zr_22_20 : zRow xM 22 20 = some (110, .return_, 21, 0, 0) := rfl
theorem zr_22_21 : zRow xM 22 21 = some (7, .aload_n 0, 22, 0, 0) := rfl
theorem zr_22_22 : zRow xM 22 22 = some (105, .invokevirtual 75, 25, 20, 1) := rfl
theorem zr_22_25 : zRow xM 22 25 = some (13, .lstore_n 3, 26, 3, 0) := rfl
theorem zr_22_26 : zRow xM 22 26 = some (3, .iload_n 1, 27, 1, 0) := rfl
theorem zr_22_27 : zRp 22 27 29 (0, 33) := ⟨_, _, _, _, rfl, by decide, Option.some_ne_none _, rfl⟩
theorem zr_22_29 : zRow xM 22 29 = some (41, .if_icmp .ne 21, 32, 50, 4) := rfl
theorem zr_22_32 : zRow xM 22 32 = some (7, .aload_n 0, 33, 0, 0) := rfl
theorem zr_22_33 : zRow xM 22 33 = some (5, .lload_n 3, 34, 3, 0) := rfl
theorem zr_22_34 : zRp 22 34 35 (1, 0) := ⟨_, _, _, _, rfl, by decide, Option.some_ne_none _, rfl⟩
theorem zr_22_35 : zRow xM 22 35 = some (39, .lcmp, 36, 0, 0) := rfl
theorem zr_22_36 : zRow xM 22 36 = some (40, .ifCond .ne 7, 39, 43, 4) := rfl
theorem zr_22_39 : zRp 22 39 40 (1, 1) := ⟨_, _, _, _, rfl, by decide, Option.some_ne_none _, rfl⟩
theorem zr_22_40 : zRow xM 22 40 = some (42, .goto 4, 41, 44, 0) := rfl
theorem zr_22_43 : zRp 22 43 44 (1, 0) := ⟨_, _, _, _, rfl, by decide, Option.some_ne_none _, rfl⟩
theorem zr_22_44 : zRow xM 22 44 = some (105, .invokevirtual 68, 47, 19, 1) := rfl
theorem zr_22_47 : zRow xM 22 47 = some (42, .goto 31, 48, 78, 0) := rfl
theorem zr_22_50 : zRow xM 22 50 = some (3, .iload_n 1, 51, 1, 0) := rfl
theorem zr_22_51 : zRp 22 51 53 (0, 126) := ⟨_, _, _, _, rfl, by decide, Option.some_ne_none _, rfl⟩
theorem zr_22_53 : zRow xM 22 53 = some (41, .if_icmp .ne 12, 56, 65, 4) := rfl
theorem zr_22_56 : zRow xM 22 56 = some (7, .aload_n 0, 57, 0, 0) := rfl
theorem zr_22_57 : zRow xM 22 57 = some (5, .lload_n 3, 58, 3, 0) := rfl
theorem zr_22_58 : zRow xM 22 58 = some (117, .lneg, 59, 0, 0) := rfl
theorem zr_22_59 : zRow xM 22 59 = some (105, .invokevirtual 68, 62, 19, 1) := rfl
theorem zr_22_62 : zRow xM 22 62 = some (42, .goto 16, 63, 78, 0) := rfl
theorem zr_22_65 : zRow xM 22 65 = some (7, .aload_n 0, 66, 0, 0) := rfl
theorem zr_22_66 : zRow xM 22 66 = some (7, .aload_n 0, 67, 0, 0) := rfl
theorem zr_22_67 : zRow xM 22 67 = some (105, .invokevirtual 75, 70, 20, 1) := rfl
theorem zr_22_70 : zRow xM 22 70 = some (3, .iload_n 1, 71, 1, 0) := rfl
theorem zr_22_71 : zRow xM 22 71 = some (5, .lload_n 3, 72, 3, 0) := rfl
theorem zr_22_72 : zRow xM 22 72 = some (107, .invokestatic 102, 75, 21, 0) := rfl
theorem zr_22_75 : zRow xM 22 75 = some (105, .invokevirtual 68, 78, 19, 1) := rfl
theorem zr_22_78 : zRow xM 22 78 = some (110, .return_, 79, 0, 0) := rfl
