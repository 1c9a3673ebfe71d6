def pmZ_h : List PE := [(0, 3, .new (7), 0, 0, 0, 0),
  (3, 1, .dup, 0, 0, 0, 0),
  (4, 3, .invokespecial (9), 0, 0, 0, 0),
  (7, 1, .astore_n (1), 0, 0, 0, 0),
  (8, 3, .new (10), 0, 0, 0, 0),
  (11, 1, .dup, 0, 0, 0, 0),
  (12, 3, .invokespecial (12), 0, 0, 0, 0),
  (15, 1, .astore_n (2), 0, 0, 0, 0),
  (16, 1, .iconst (0), 0, 0, 0, 0),
  (17, 1, .istore_n (3), 0, 0, 0, 0),
  (18, 1, .iload_n (3), 0, 0, 0, 0),
  (19, 1, .aload_n (0), 0, 0, 0, 0),
  (20, 1, .arraylength, 0, 0, 0, 0),
  (21, 2, .bipush (6), 0, 0, 6, 0),
  (23, 1, .isub, 0, 0, 0, 0),
  (24, 3, .if_icmp .gt (1483), 1507, 0, 0, 0),
  (27, 1, .aload_n (0), 0, 0, 0, 0),
  (28, 1, .iload_n (3), 0, 0, 0, 0),
  (29, 1, .iaload, 0, 0, 0, 0),
  (30, 2, .bipush (63), 0, 0, 63, 0),
  (32, 1, .iand, 0, 0, 0, 0)]
def mdZ_h : Md := (x, code, 4, none, pmZ_h)
theorem tkZ_h : Tm mdZ_h := tab_of (o := 7) (by decide +kernel)
theorem dw_0 : decode code 0 = .ok (.new (7), 3) := (dec_at tkZ_h (pc1 := 0) rfl rfl).1
theorem dw_3 : decode code 3 = .ok (.dup, 1) := (dec_at tkZ_h (pc1 := 3) rfl rfl).1
theorem dw_4 : decode code 4 = .ok (.invokespecial (9), 3) := (dec_at tkZ_h (pc1 := 4) rfl rfl).1
theorem dw_7 : decode code 7 = .ok (.astore_n (1), 1) := (dec_at tkZ_h (pc1 := 7) rfl rfl).1
theorem dw_8 : decode code 8 = .ok (.new (10), 3) := (dec_at tkZ_h (pc1 := 8) rfl rfl).1
theorem dw_11 : decode code 11 = .ok (.dup, 1) := (dec_at tkZ_h (pc1 := 11) rfl rfl).1
theorem dw_12 : decode code 12 = .ok (.invokespecial (12), 3) := (dec_at tkZ_h (pc1 := 12) rfl rfl).1
theorem dw_15 : decode code 15 = .ok (.astore_n (2), 1) := (dec_at tkZ_h (pc1 := 15) rfl rfl).1
theorem dw_16 : decode code 16 = .ok (.iconst (0), 1) := (dec_at tkZ_h (pc1 := 16) rfl rfl).1
theorem dw_17 : decode code 17 = .ok (.istore_n (3), 1) := (dec_at tkZ_h (pc1 := 17) rfl rfl).1
theorem dw_18 : decode code 18 = .ok (.iload_n (3), 1) := (dec_at tkZ_h (pc1 := 18) rfl rfl).1
theorem dw_19 : decode code 19 = .ok (.aload_n (0), 1) := (dec_at tkZ_h (pc1 := 19) rfl rfl).1
theorem dw_20 : decode code 20 = .ok (.arraylength, 1) := (dec_at tkZ_h (pc1 := 20) rfl rfl).1
theorem dw_21 : decode code 21 = .ok (.bipush (6), 2) := (dec_at tkZ_h (pc1 := 21) rfl rfl).1
theorem dw_23 : decode code 23 = .ok (.isub, 1) := (dec_at tkZ_h (pc1 := 23) rfl rfl).1
theorem dw_24 : decode code 24 = .ok (.if_icmp .gt (1483), 3) := (dec_at tkZ_h (pc1 := 24) rfl rfl).1
theorem dw_27 : decode code 27 = .ok (.aload_n (0), 1) := (dec_at tkZ_h (pc1 := 27) rfl rfl).1
theorem dw_28 : decode code 28 = .ok (.iload_n (3), 1) := (dec_at tkZ_h (pc1 := 28) rfl rfl).1
theorem dw_29 : decode code 29 = .ok (.iaload, 1) := (dec_at tkZ_h (pc1 := 29) rfl rfl).1
theorem dw_30 : decode code 30 = .ok (.bipush (63), 2) := (dec_at tkZ_h (pc1 := 30) rfl rfl).1
theorem dw_32 : decode code 32 = .ok (.iand, 1) := (dec_at tkZ_h (pc1 := 32) rfl rfl).1
def pmZ_0 : List PE := [(248, 1, .aload_n (1), 0, 0, 0, 0),
  (249, 1, .aload_n (0), 0, 0, 0, 0),
  (250, 1, .iload_n (3), 0, 0, 0, 0),
  (251, 1, .iconst (1), 0, 0, 1, 0),
  (252, 1, .iadd, 0, 0, 0, 0),
  (253, 1, .iaload, 0, 0, 0, 0),
  (254, 1, .aload_n (0), 0, 0, 0, 0),
  (255, 1, .iload_n (3), 0, 0, 0, 0),
  (256, 1, .iconst (2), 0, 0, 2, 0),
  (257, 1, .iadd, 0, 0, 0, 0),
  (258, 1, .iaload, 0, 0, 0, 0),
  (259, 3, .invokevirtual (13), 0, 0, 0, 0),
  (262, 1, .aload_n (2), 0, 0, 0, 0),
  (263, 1, .aload_n (0), 0, 0, 0, 0),
  (264, 1, .iload_n (3), 0, 0, 0, 0),
  (265, 1, .iconst (1), 0, 0, 1, 0),
  (266, 1, .iadd, 0, 0, 0, 0),
  (267, 1, .iaload, 0, 0, 0, 0),
  (268, 1, .aload_n (0), 0, 0, 0, 0),
  (269, 1, .iload_n (3), 0, 0, 0, 0),
  (270, 1, .iconst (2), 0, 0, 2, 0),
  (271, 1, .iadd, 0, 0, 0, 0),
  (272, 1, .iaload, 0, 0, 0, 0),
  (273, 3, .invokevirtual (17), 0, 0, 0, 0),
  (276, 3, .if_icmp .eq (1225), 1501, 0, 0, 0),
  (279, 1, .iconst (0), 0, 0, 0, 0),
  (280, 1, .ireturn, 0, 0, 0, 0)]
def mdZ_0 : Md := (x, code, 4, none, pmZ_0)
theorem tkZ_0 : Tm mdZ_0 := tab_of (o := 7) (by decide +kernel)
theorem dw_248 : decode code 248 = .ok (.aload_n (1), 1) := (dec_at tkZ_0 (pc1 := 248) rfl rfl).1
theorem dw_249 : decode code 249 = .ok (.aload_n (0), 1) := (dec_at tkZ_0 (pc1 := 249) rfl rfl).1
theorem dw_250 : decode code 250 = .ok (.iload_n (3), 1) := (dec_at tkZ_0 (pc1 := 250) rfl rfl).1
theorem dw_251 : decode code 251 = .ok (.iconst (1), 1) := (dec_at tkZ_0 (pc1 := 251) rfl rfl).1
theorem dw_252 : decode code 252 = .ok (.iadd, 1) := (dec_at tkZ_0 (pc1 := 252) rfl rfl).1
theorem dw_253 : decode code 253 = .ok (.iaload, 1) := (dec_at tkZ_0 (pc1 := 253) rfl rfl).1
theorem dw_254 : decode code 254 = .ok (.aload_n (0), 1) := (dec_at tkZ_0 (pc1 := 254) rfl rfl).1
theorem dw_255 : decode code 255 = .ok (.iload_n (3), 1) := (dec_at tkZ_0 (pc1 := 255) rfl rfl).1
theorem dw_256 : decode code 256 = .ok (.iconst (2), 1) := (dec_at tkZ_0 (pc1 := 256) rfl rfl).1
theorem dw_257 : decode code 257 = .ok (.iadd, 1) := (dec_at tkZ_0 (pc1 := 257) rfl rfl).1
theorem dw_258 : decode code 258 = .ok (.iaload, 1) := (dec_at tkZ_0 (pc1 := 258) rfl rfl).1
theorem dw_259 : decode code 259 = .ok (.invokevirtual (13), 3) := (dec_at tkZ_0 (pc1 := 259) rfl rfl).1
theorem dw_262 : decode code 262 = .ok (.aload_n (2), 1) := (dec_at tkZ_0 (pc1 := 262) rfl rfl).1
theorem dw_263 : decode code 263 = .ok (.aload_n (0), 1) := (dec_at tkZ_0 (pc1 := 263) rfl rfl).1
theorem dw_264 : decode code 264 = .ok (.iload_n (3), 1) := (dec_at tkZ_0 (pc1 := 264) rfl rfl).1
theorem dw_265 : decode code 265 = .ok (.iconst (1), 1) := (dec_at tkZ_0 (pc1 := 265) rfl rfl).1
theorem dw_266 : decode code 266 = .ok (.iadd, 1) := (dec_at tkZ_0 (pc1 := 266) rfl rfl).1
theorem dw_267 : decode code 267 = .ok (.iaload, 1) := (dec_at tkZ_0 (pc1 := 267) rfl rfl).1
theorem dw_268 : decode code 268 = .ok (.aload_n (0), 1) := (dec_at tkZ_0 (pc1 := 268) rfl rfl).1
theorem dw_269 : decode code 269 = .ok (.iload_n (3), 1) := (dec_at tkZ_0 (pc1 := 269) rfl rfl).1
theorem dw_270 : decode code 270 = .ok (.iconst (2), 1) := (dec_at tkZ_0 (pc1 := 270) rfl rfl).1
theorem dw_271 : decode code 271 = .ok (.iadd, 1) := (dec_at tkZ_0 (pc1 := 271) rfl rfl).1
theorem dw_272 : decode code 272 = .ok (.iaload, 1) := (dec_at tkZ_0 (pc1 := 272) rfl rfl).1
theorem dw_273 : decode code 273 = .ok (.invokevirtual (17), 3) := (dec_at tkZ_0 (pc1 := 273) rfl rfl).1
theorem dw_276 : decode code 276 = .ok (.if_icmp .eq (1225), 3) := (dec_at tkZ_0 (pc1 := 276) rfl rfl).1
theorem dw_279 : decode code 279 = .ok (.iconst (0), 1) := (dec_at tkZ_0 (pc1 := 279) rfl rfl).1
theorem dw_280 : decode code 280 = .ok (.ireturn, 1) := (dec_at tkZ_0 (pc1 := 280) rfl rfl).1
def pmZ_1 : List PE := [(281, 1, .aload_n (1), 0, 0, 0, 0),
  (282, 1, .aload_n (0), 0, 0, 0, 0),
  (283, 1, .iload_n (3), 0, 0, 0, 0),
  (284, 1, .iconst (1), 0, 0, 1, 0),
  (285, 1, .iadd, 0, 0, 0, 0),
  (286, 1, .iaload, 0, 0, 0, 0),
  (287, 1, .aload_n (0), 0, 0, 0, 0),
  (288, 1, .iload_n (3), 0, 0, 0, 0),
  (289, 1, .iconst (2), 0, 0, 2, 0),
  (290, 1, .iadd, 0, 0, 0, 0),
  (291, 1, .iaload, 0, 0, 0, 0),
  (292, 1, .aload_n (0), 0, 0, 0, 0),
  (293, 1, .iload_n (3), 0, 0, 0, 0),
  (294, 1, .iconst (3), 0, 0, 3, 0),
  (295, 1, .iadd, 0, 0, 0, 0),
  (296, 1, .iaload, 0, 0, 0, 0),
  (297, 3, .invokevirtual (18), 0, 0, 0, 0),
  (300, 1, .aload_n (2), 0, 0, 0, 0),
  (301, 1, .aload_n (0), 0, 0, 0, 0),
  (302, 1, .iload_n (3), 0, 0, 0, 0),
  (303, 1, .iconst (1), 0, 0, 1, 0),
  (304, 1, .iadd, 0, 0, 0, 0),
  (305, 1, .iaload, 0, 0, 0, 0),
  (306, 1, .aload_n (0), 0, 0, 0, 0),
  (307, 1, .iload_n (3), 0, 0, 0, 0),
  (308, 1, .iconst (2), 0, 0, 2, 0),
  (309, 1, .iadd, 0, 0, 0, 0),
  (310, 1, .iaload, 0, 0, 0, 0),
  (311, 1, .aload_n (0), 0, 0, 0, 0),
  (312, 1, .iload_n (3), 0, 0, 0, 0),
  (313, 1, .iconst (3), 0, 0, 3, 0),
  (314, 1, .iadd, 0, 0, 0, 0),
  (315, 1, .iaload, 0, 0, 0, 0),
  (316, 3, .invokevirtual (22), 0, 0, 0, 0),
  (319, 3, .if_icmp .eq (1182), 1501, 0, 0, 0),
  (322, 1, .iconst (0), 0, 0, 0, 0),
  (323, 1, .ireturn, 0, 0, 0, 0)]
def mdZ_1 : Md := (x, code, 4, none, pmZ_1)
theorem tkZ_1 : Tm mdZ_1 := tab_of (o := 7) (by decide +kernel)
theorem dw_281 : decode code 281 = .ok (.aload_n (1), 1) := (dec_at tkZ_1 (pc1 := 281) rfl rfl).1
theorem dw_282 : decode code 282 = .ok (.aload_n (0), 1) := (dec_at tkZ_1 (pc1 := 282) rfl rfl).1
theorem dw_283 : decode code 283 = .ok (.iload_n (3), 1) := (dec_at tkZ_1 (pc1 := 283) rfl rfl).1
theorem dw_284 : decode code 284 = .ok (.iconst (1), 1) := (dec_at tkZ_1 (pc1 := 284) rfl rfl).1
theorem dw_285 : decode code 285 = .ok (.iadd, 1) := (dec_at tkZ_1 (pc1 := 285) rfl rfl).1
theorem dw_286 : decode code 286 = .ok (.iaload, 1) := (dec_at tkZ_1 (pc1 := 286) rfl rfl).1
theorem dw_287 : decode code 287 = .ok (.aload_n (0), 1) := (dec_at tkZ_1 (pc1 := 287) rfl rfl).1
theorem dw_288 : decode code 288 = .ok (.iload_n (3), 1) := (dec_at tkZ_1 (pc1 := 288) rfl rfl).1
theorem dw_289 : decode code 289 = .ok (.iconst (2), 1) := (dec_at tkZ_1 (pc1 := 289) rfl rfl).1
theorem dw_290 : decode code 290 = .ok (.iadd, 1) := (dec_at tkZ_1 (pc1 := 290) rfl rfl).1
theorem dw_291 : decode code 291 = .ok (.iaload, 1) := (dec_at tkZ_1 (pc1 := 291) rfl rfl).1
theorem dw_292 : decode code 292 = .ok (.aload_n (0), 1) := (dec_at tkZ_1 (pc1 := 292) rfl rfl).1
theorem dw_293 : decode code 293 = .ok (.iload_n (3), 1) := (dec_at tkZ_1 (pc1 := 293) rfl rfl).1
theorem dw_294 : decode code 294 = .ok (.iconst (3), 1) := (dec_at tkZ_1 (pc1 := 294) rfl rfl).1
theorem dw_295 : decode code 295 = .ok (.iadd, 1) := (dec_at tkZ_1 (pc1 := 295) rfl rfl).1
theorem dw_296 : decode code 296 = .ok (.iaload, 1) := (dec_at tkZ_1 (pc1 := 296) rfl rfl).1
theorem dw_297 : decode code 297 = .ok (.invokevirtual (18), 3) := (dec_at tkZ_1 (pc1 := 297) rfl rfl).1
theorem dw_300 : decode code 300 = .ok (.aload_n (2), 1) := (dec_at tkZ_1 (pc1 := 300) rfl rfl).1
theorem dw_301 : decode code 301 = .ok (.aload_n (0), 1) := (dec_at tkZ_1 (pc1 := 301) rfl rfl).1
theorem dw_302 : decode code 302 = .ok (.iload_n (3), 1) := (dec_at tkZ_1 (pc1 := 302) rfl rfl).1
theorem dw_303 : decode code 303 = .ok (.iconst (1), 1) := (dec_at tkZ_1 (pc1 := 303) rfl rfl).1
theorem dw_304 : decode code 304 = .ok (.iadd, 1) := (dec_at tkZ_1 (pc1 := 304) rfl rfl).1
theorem dw_305 : decode code 305 = .ok (.iaload, 1) := (dec_at tkZ_1 (pc1 := 305) rfl rfl).1
theorem dw_306 : decode code 306 = .ok (.aload_n (0), 1) := (dec_at tkZ_1 (pc1 := 306) rfl rfl).1
theorem dw_307 : decode code 307 = .ok (.iload_n (3), 1) := (dec_at tkZ_1 (pc1 := 307) rfl rfl).1
theorem dw_308 : decode code 308 = .ok (.iconst (2), 1) := (dec_at tkZ_1 (pc1 := 308) rfl rfl).1
theorem dw_309 : decode code 309 = .ok (.iadd, 1) := (dec_at tkZ_1 (pc1 := 309) rfl rfl).1
theorem dw_310 : decode code 310 = .ok (.iaload, 1) := (dec_at tkZ_1 (pc1 := 310) rfl rfl).1
theorem dw_311 : decode code 311 = .ok (.aload_n (0), 1) := (dec_at tkZ_1 (pc1 := 311) rfl rfl).1
theorem dw_312 : decode code 312 = .ok (.iload_n (3), 1) := (dec_at tkZ_1 (pc1 := 312) rfl rfl).1
theorem dw_313 : decode code 313 = .ok (.iconst (3), 1) := (dec_at tkZ_1 (pc1 := 313) rfl rfl).1
theorem dw_314 : decode code 314 = .ok (.iadd, 1) := (dec_at tkZ_1 (pc1 := 314) rfl rfl).1
theorem dw_315 : decode code 315 = .ok (.iaload, 1) := (dec_at tkZ_1 (pc1 := 315) rfl rfl).1
theorem dw_316 : decode code 316 = .ok (.invokevirtual (22), 3) := (dec_at tkZ_1 (pc1 := 316) rfl rfl).1
theorem dw_319 : decode code 319 = .ok (.if_icmp .eq (1182), 3) := (dec_at tkZ_1 (pc1 := 319) rfl rfl).1
theorem dw_322 : decode code 322 = .ok (.iconst (0), 1) := (dec_at tkZ_1 (pc1 := 322) rfl rfl).1
theorem dw_323 : decode code 323 = .ok (.ireturn, 1) := (dec_at tkZ_1 (pc1 := 323) rfl rfl).1
def pmZ_2 : List PE := [(324, 1, .aload_n (1), 0, 0, 0, 0),
  (325, 1, .aload_n (0), 0, 0, 0, 0),
  (326, 1, .iload_n (3), 0, 0, 0, 0),
  (327, 1, .iconst (1), 0, 0, 1, 0),
  (328, 1, .iadd, 0, 0, 0, 0),
  (329, 1, .iaload, 0, 0, 0, 0),
  (330, 1, .aload_n (0), 0, 0, 0, 0),
  (331, 1, .iload_n (3), 0, 0, 0, 0),
  (332, 1, .iconst (2), 0, 0, 2, 0),
  (333, 1, .iadd, 0, 0, 0, 0),
  (334, 1, .iaload, 0, 0, 0, 0),
  (335, 3, .invokevirtual (23), 0, 0, 0, 0),
  (338, 1, .aload_n (2), 0, 0, 0, 0),
  (339, 1, .aload_n (0), 0, 0, 0, 0),
  (340, 1, .iload_n (3), 0, 0, 0, 0),
  (341, 1, .iconst (1), 0, 0, 1, 0),
  (342, 1, .iadd, 0, 0, 0, 0),
  (343, 1, .iaload, 0, 0, 0, 0),
  (344, 1, .aload_n (0), 0, 0, 0, 0),
  (345, 1, .iload_n (3), 0, 0, 0, 0),
  (346, 1, .iconst (2), 0, 0, 2, 0),
  (347, 1, .iadd, 0, 0, 0, 0),
  (348, 1, .iaload, 0, 0, 0, 0),
  (349, 3, .invokevirtual (26), 0, 0, 0, 0),
  (352, 3, .if_icmp .eq (1149), 1501, 0, 0, 0),
  (355, 1, .iconst (0), 0, 0, 0, 0),
  (356, 1, .ireturn, 0, 0, 0, 0)]
def mdZ_2 : Md := (x, code, 4, none, pmZ_2)
theorem tkZ_2 : Tm mdZ_2 := tab_of (o := 7) (by decide +kernel)
theorem dw_324 : decode code 324 = .ok (.aload_n (1), 1) := (dec_at tkZ_2 (pc1 := 324) rfl rfl).1
theorem dw_325 : decode code 325 = .ok (.aload_n (0), 1) := (dec_at tkZ_2 (pc1 := 325) rfl rfl).1
theorem dw_326 : decode code 326 = .ok (.iload_n (3), 1) := (dec_at tkZ_2 (pc1 := 326) rfl rfl).1
theorem dw_327 : decode code 327 = .ok (.iconst (1), 1) := (dec_at tkZ_2 (pc1 := 327) rfl rfl).1
theorem dw_328 : decode code 328 = .ok (.iadd, 1) := (dec_at tkZ_2 (pc1 := 328) rfl rfl).1
theorem dw_329 : decode code 329 = .ok (.iaload, 1) := (dec_at tkZ_2 (pc1 := 329) rfl rfl).1
theorem dw_330 : decode code 330 = .ok (.aload_n (0), 1) := (dec_at tkZ_2 (pc1 := 330) rfl rfl).1
theorem dw_331 : decode code 331 = .ok (.iload_n (3), 1) := (dec_at tkZ_2 (pc1 := 331) rfl rfl).1
theorem dw_332 : decode code 332 = .ok (.iconst (2), 1) := (dec_at tkZ_2 (pc1 := 332) rfl rfl).1
theorem dw_333 : decode code 333 = .ok (.iadd, 1) := (dec_at tkZ_2 (pc1 := 333) rfl rfl).1
theorem dw_334 : decode code 334 = .ok (.iaload, 1) := (dec_at tkZ_2 (pc1 := 334) rfl rfl).1
theorem dw_335 : decode code 335 = .ok (.invokevirtual (23), 3) := (dec_at tkZ_2 (pc1 := 335) rfl rfl).1
theorem dw_338 : decode code 338 = .ok (.aload_n (2), 1) := (dec_at tkZ_2 (pc1 := 338) rfl rfl).1
theorem dw_339 : decode code 339 = .ok (.aload_n (0), 1) := (dec_at tkZ_2 (pc1 := 339) rfl rfl).1
theorem dw_340 : decode code 340 = .ok (.iload_n (3), 1) := (dec_at tkZ_2 (pc1 := 340) rfl rfl).1
theorem dw_341 : decode code 341 = .ok (.iconst (1), 1) := (dec_at tkZ_2 (pc1 := 341) rfl rfl).1
theorem dw_342 : decode code 342 = .ok (.iadd, 1) := (dec_at tkZ_2 (pc1 := 342) rfl rfl).1
theorem dw_343 : decode code 343 = .ok (.iaload, 1) := (dec_at tkZ_2 (pc1 := 343) rfl rfl).1
theorem dw_344 : decode code 344 = .ok (.aload_n (0), 1) := (dec_at tkZ_2 (pc1 := 344) rfl rfl).1
theorem dw_345 : decode code 345 = .ok (.iload_n (3), 1) := (dec_at tkZ_2 (pc1 := 345) rfl rfl).1
theorem dw_346 : decode code 346 = .ok (.iconst (2), 1) := (dec_at tkZ_2 (pc1 := 346) rfl rfl).1
theorem dw_347 : decode code 347 = .ok (.iadd, 1) := (dec_at tkZ_2 (pc1 := 347) rfl rfl).1
theorem dw_348 : decode code 348 = .ok (.iaload, 1) := (dec_at tkZ_2 (pc1 := 348) rfl rfl).1
theorem dw_349 : decode code 349 = .ok (.invokevirtual (26), 3) := (dec_at tkZ_2 (pc1 := 349) rfl rfl).1
theorem dw_352 : decode code 352 = .ok (.if_icmp .eq (1149), 3) := (dec_at tkZ_2 (pc1 := 352) rfl rfl).1
theorem dw_355 : decode code 355 = .ok (.iconst (0), 1) := (dec_at tkZ_2 (pc1 := 355) rfl rfl).1
theorem dw_356 : decode code 356 = .ok (.ireturn, 1) := (dec_at tkZ_2 (pc1 := 356) rfl rfl).1
def pmZ_3 : List PE := [(357, 1, .aload_n (1), 0, 0, 0, 0),
  (358, 1, .aload_n (0), 0, 0, 0, 0),
  (359, 1, .iload_n (3), 0, 0, 0, 0),
  (360, 1, .iconst (1), 0, 0, 1, 0),
  (361, 1, .iadd, 0, 0, 0, 0),
  (362, 1, .iaload, 0, 0, 0, 0),
  (363, 3, .invokevirtual (27), 0, 0, 0, 0),
  (366, 1, .aload_n (2), 0, 0, 0, 0),
  (367, 1, .aload_n (0), 0, 0, 0, 0),
  (368, 1, .iload_n (3), 0, 0, 0, 0),
  (369, 1, .iconst (1), 0, 0, 1, 0),
  (370, 1, .iadd, 0, 0, 0, 0),
  (371, 1, .iaload, 0, 0, 0, 0),
  (372, 3, .invokevirtual (31), 0, 0, 0, 0),
  (375, 3, .if_icmp .eq (1126), 1501, 0, 0, 0),
  (378, 1, .iconst (0), 0, 0, 0, 0),
  (379, 1, .ireturn, 0, 0, 0, 0)]
def mdZ_3 : Md := (x, code, 4, none, pmZ_3)
theorem tkZ_3 : Tm mdZ_3 := tab_of (o := 7) (by decide +kernel)
theorem dw_357 : decode code 357 = .ok (.aload_n (1), 1) := (dec_at tkZ_3 (pc1 := 357) rfl rfl).1
theorem dw_358 : decode code 358 = .ok (.aload_n (0), 1) := (dec_at tkZ_3 (pc1 := 358) rfl rfl).1
theorem dw_359 : decode code 359 = .ok (.iload_n (3), 1) := (dec_at tkZ_3 (pc1 := 359) rfl rfl).1
theorem dw_360 : decode code 360 = .ok (.iconst (1), 1) := (dec_at tkZ_3 (pc1 := 360) rfl rfl).1
theorem dw_361 : decode code 361 = .ok (.iadd, 1) := (dec_at tkZ_3 (pc1 := 361) rfl rfl).1
theorem dw_362 : decode code 362 = .ok (.iaload, 1) := (dec_at tkZ_3 (pc1 := 362) rfl rfl).1
theorem dw_363 : decode code 363 = .ok (.invokevirtual (27), 3) := (dec_at tkZ_3 (pc1 := 363) rfl rfl).1
theorem dw_366 : decode code 366 = .ok (.aload_n (2), 1) := (dec_at tkZ_3 (pc1 := 366) rfl rfl).1
theorem dw_367 : decode code 367 = .ok (.aload_n (0), 1) := (dec_at tkZ_3 (pc1 := 367) rfl rfl).1
theorem dw_368 : decode code 368 = .ok (.iload_n (3), 1) := (dec_at tkZ_3 (pc1 := 368) rfl rfl).1
theorem dw_369 : decode code 369 = .ok (.iconst (1), 1) := (dec_at tkZ_3 (pc1 := 369) rfl rfl).1
theorem dw_370 : decode code 370 = .ok (.iadd, 1) := (dec_at tkZ_3 (pc1 := 370) rfl rfl).1
theorem dw_371 : decode code 371 = .ok (.iaload, 1) := (dec_at tkZ_3 (pc1 := 371) rfl rfl).1
theorem dw_372 : decode code 372 = .ok (.invokevirtual (31), 3) := (dec_at tkZ_3 (pc1 := 372) rfl rfl).1
theorem dw_375 : decode code 375 = .ok (.if_icmp .eq (1126), 3) := (dec_at tkZ_3 (pc1 := 375) rfl rfl).1
theorem dw_378 : decode code 378 = .ok (.iconst (0), 1) := (dec_at tkZ_3 (pc1 := 378) rfl rfl).1
theorem dw_379 : decode code 379 = .ok (.ireturn, 1) := (dec_at tkZ_3 (pc1 := 379) rfl rfl).1
def pmZ_4 : List PE := [(380, 1, .aload_n (1), 0, 0, 0, 0),
  (381, 1, .aload_n (0), 0, 0, 0, 0),
  (382, 1, .iload_n (3), 0, 0, 0, 0),
  (383, 1, .iconst (1), 0, 0, 1, 0),
  (384, 1, .iadd, 0, 0, 0, 0),
  (385, 1, .iaload, 0, 0, 0, 0),
  (386, 1, .aload_n (0), 0, 0, 0, 0),
  (387, 1, .iload_n (3), 0, 0, 0, 0),
  (388, 1, .iconst (2), 0, 0, 2, 0),
  (389, 1, .iadd, 0, 0, 0, 0),
  (390, 1, .iaload, 0, 0, 0, 0),
  (391, 1, .aload_n (0), 0, 0, 0, 0),
  (392, 1, .iload_n (3), 0, 0, 0, 0),
  (393, 1, .iconst (3), 0, 0, 3, 0),
  (394, 1, .iadd, 0, 0, 0, 0),
  (395, 1, .iaload, 0, 0, 0, 0),
  (396, 1, .aload_n (0), 0, 0, 0, 0),
  (397, 1, .iload_n (3), 0, 0, 0, 0),
  (398, 1, .iconst (4), 0, 0, 4, 0),
  (399, 1, .iadd, 0, 0, 0, 0),
  (400, 1, .iaload, 0, 0, 0, 0),
  (401, 1, .aload_n (0), 0, 0, 0, 0),
  (402, 1, .iload_n (3), 0, 0, 0, 0),
  (403, 1, .iconst (5), 0, 0, 5, 0),
  (404, 1, .iadd, 0, 0, 0, 0),
  (405, 1, .iaload, 0, 0, 0, 0),
  (406, 3, .invokevirtual (32), 0, 0, 0, 0),
  (409, 1, .aload_n (2), 0, 0, 0, 0),
  (410, 1, .aload_n (0), 0, 0, 0, 0),
  (411, 1, .iload_n (3), 0, 0, 0, 0),
  (412, 1, .iconst (1), 0, 0, 1, 0),
  (413, 1, .iadd, 0, 0, 0, 0),
  (414, 1, .iaload, 0, 0, 0, 0),
  (415, 1, .aload_n (0), 0, 0, 0, 0),
  (416, 1, .iload_n (3), 0, 0, 0, 0),
  (417, 1, .iconst (2), 0, 0, 2, 0),
  (418, 1, .iadd, 0, 0, 0, 0),
  (419, 1, .iaload, 0, 0, 0, 0),
  (420, 1, .aload_n (0), 0, 0, 0, 0),
  (421, 1, .iload_n (3), 0, 0, 0, 0),
  (422, 1, .iconst (3), 0, 0, 3, 0),
  (423, 1, .iadd, 0, 0, 0, 0),
  (424, 1, .iaload, 0, 0, 0, 0),
  (425, 1, .aload_n (0), 0, 0, 0, 0),
  (426, 1, .iload_n (3), 0, 0, 0, 0),
  (427, 1, .iconst (4), 0, 0, 4, 0),
  (428, 1, .iadd, 0, 0, 0, 0),
  (429, 1, .iaload, 0, 0, 0, 0),
  (430, 1, .aload_n (0), 0, 0, 0, 0),
  (431, 1, .iload_n (3), 0, 0, 0, 0),
  (432, 1, .iconst (5), 0, 0, 5, 0),
  (433, 1, .iadd, 0, 0, 0, 0),
  (434, 1, .iaload, 0, 0, 0, 0),
  (435, 3, .invokevirtual (36), 0, 0, 0, 0),
  (438, 3, .if_icmp .eq (1063), 1501, 0, 0, 0),
  (441, 1, .iconst (0), 0, 0, 0, 0),
  (442, 1, .ireturn, 0, 0, 0, 0)]
def mdZ_4 : Md := (x, code, 4, none, pmZ_4)
theorem tkZ_4 : Tm mdZ_4 := tab_of (o := 7) (by decide +kernel)
theorem dw_380 : decode code 380 = .ok (.aload_n (1), 1) := (dec_at tkZ_4 (pc1 := 380) rfl rfl).1
theorem dw_381 : decode code 381 = .ok (.aload_n (0), 1) := (dec_at tkZ_4 (pc1 := 381) rfl rfl).1
theorem dw_382 : decode code 382 = .ok (.iload_n (3), 1) := (dec_at tkZ_4 (pc1 := 382) rfl rfl).1
theorem dw_383 : decode code 383 = .ok (.iconst (1), 1) := (dec_at tkZ_4 (pc1 := 383) rfl rfl).1
theorem dw_384 : decode code 384 = .ok (.iadd, 1) := (dec_at tkZ_4 (pc1 := 384) rfl rfl).1
theorem dw_385 : decode code 385 = .ok (.iaload, 1) := (dec_at tkZ_4 (pc1 := 385) rfl rfl).1
theorem dw_386 : decode code 386 = .ok (.aload_n (0), 1) := (dec_at tkZ_4 (pc1 := 386) rfl rfl).1
theorem dw_387 : decode code 387 = .ok (.iload_n (3), 1) := (dec_at tkZ_4 (pc1 := 387) rfl rfl).1
theorem dw_388 : decode code 388 = .ok (.iconst (2), 1) := (dec_at tkZ_4 (pc1 := 388) rfl rfl).1
theorem dw_389 : decode code 389 = .ok (.iadd, 1) := (dec_at tkZ_4 (pc1 := 389) rfl rfl).1
theorem dw_390 : decode code 390 = .ok (.iaload, 1) := (dec_at tkZ_4 (pc1 := 390) rfl rfl).1
theorem dw_391 : decode code 391 = .ok (.aload_n (0), 1) := (dec_at tkZ_4 (pc1 := 391) rfl rfl).1
theorem dw_392 : decode code 392 = .ok (.iload_n (3), 1) := (dec_at tkZ_4 (pc1 := 392) rfl rfl).1
theorem dw_393 : decode code 393 = .ok (.iconst (3), 1) := (dec_at tkZ_4 (pc1 := 393) rfl rfl).1
theorem dw_394 : decode code 394 = .ok (.iadd, 1) := (dec_at tkZ_4 (pc1 := 394) rfl rfl).1
theorem dw_395 : decode code 395 = .ok (.iaload, 1) := (dec_at tkZ_4 (pc1 := 395) rfl rfl).1
theorem dw_396 : decode code 396 = .ok (.aload_n (0), 1) := (dec_at tkZ_4 (pc1 := 396) rfl rfl).1
theorem dw_397 : decode code 397 = .ok (.iload_n (3), 1) := (dec_at tkZ_4 (pc1 := 397) rfl rfl).1
theorem dw_398 : decode code 398 = .ok (.iconst (4), 1) := (dec_at tkZ_4 (pc1 := 398) rfl rfl).1
theorem dw_399 : decode code 399 = .ok (.iadd, 1) := (dec_at tkZ_4 (pc1 := 399) rfl rfl).1
theorem dw_400 : decode code 400 = .ok (.iaload, 1) := (dec_at tkZ_4 (pc1 := 400) rfl rfl).1
theorem dw_401 : decode code 401 = .ok (.aload_n (0), 1) := (dec_at tkZ_4 (pc1 := 401) rfl rfl).1
theorem dw_402 : decode code 402 = .ok (.iload_n (3), 1) := (dec_at tkZ_4 (pc1 := 402) rfl rfl).1
theorem dw_403 : decode code 403 = .ok (.iconst (5), 1) := (dec_at tkZ_4 (pc1 := 403) rfl rfl).1
theorem dw_404 : decode code 404 = .ok (.iadd, 1) := (dec_at tkZ_4 (pc1 := 404) rfl rfl).1
theorem dw_405 : decode code 405 = .ok (.iaload, 1) := (dec_at tkZ_4 (pc1 := 405) rfl rfl).1
theorem dw_406 : decode code 406 = .ok (.invokevirtual (32), 3) := (dec_at tkZ_4 (pc1 := 406) rfl rfl).1
theorem dw_409 : decode code 409 = .ok (.aload_n (2), 1) := (dec_at tkZ_4 (pc1 := 409) rfl rfl).1
theorem dw_410 : decode code 410 = .ok (.aload_n (0), 1) := (dec_at tkZ_4 (pc1 := 410) rfl rfl).1
theorem dw_411 : decode code 411 = .ok (.iload_n (3), 1) := (dec_at tkZ_4 (pc1 := 411) rfl rfl).1
theorem dw_412 : decode code 412 = .ok (.iconst (1), 1) := (dec_at tkZ_4 (pc1 := 412) rfl rfl).1
theorem dw_413 : decode code 413 = .ok (.iadd, 1) := (dec_at tkZ_4 (pc1 := 413) rfl rfl).1
theorem dw_414 : decode code 414 = .ok (.iaload, 1) := (dec_at tkZ_4 (pc1 := 414) rfl rfl).1
theorem dw_415 : decode code 415 = .ok (.aload_n (0), 1) := (dec_at tkZ_4 (pc1 := 415) rfl rfl).1
theorem dw_416 : decode code 416 = .ok (.iload_n (3), 1) := (dec_at tkZ_4 (pc1 := 416) rfl rfl).1
theorem dw_417 : decode code 417 = .ok (.iconst (2), 1) := (dec_at tkZ_4 (pc1 := 417) rfl rfl).1
theorem dw_418 : decode code 418 = .ok (.iadd, 1) := (dec_at tkZ_4 (pc1 := 418) rfl rfl).1
theorem dw_419 : decode code 419 = .ok (.iaload, 1) := (dec_at tkZ_4 (pc1 := 419) rfl rfl).1
theorem dw_420 : decode code 420 = .ok (.aload_n (0), 1) := (dec_at tkZ_4 (pc1 := 420) rfl rfl).1
theorem dw_421 : decode code 421 = .ok (.iload_n (3), 1) := (dec_at tkZ_4 (pc1 := 421) rfl rfl).1
theorem dw_422 : decode code 422 = .ok (.iconst (3), 1) := (dec_at tkZ_4 (pc1 := 422) rfl rfl).1
theorem dw_423 : decode code 423 = .ok (.iadd, 1) := (dec_at tkZ_4 (pc1 := 423) rfl rfl).1
theorem dw_424 : decode code 424 = .ok (.iaload, 1) := (dec_at tkZ_4 (pc1 := 424) rfl rfl).1
theorem dw_425 : decode code 425 = .ok (.aload_n (0), 1) := (dec_at tkZ_4 (pc1 := 425) rfl rfl).1
theorem dw_426 : decode code 426 = .ok (.iload_n (3), 1) := (dec_at tkZ_4 (pc1 := 426) rfl rfl).1
theorem dw_427 : decode code 427 = .ok (.iconst (4), 1) := (dec_at tkZ_4 (pc1 := 427) rfl rfl).1
theorem dw_428 : decode code 428 = .ok (.iadd, 1) := (dec_at tkZ_4 (pc1 := 428) rfl rfl).1
theorem dw_429 : decode code 429 = .ok (.iaload, 1) := (dec_at tkZ_4 (pc1 := 429) rfl rfl).1
theorem dw_430 : decode code 430 = .ok (.aload_n (0), 1) := (dec_at tkZ_4 (pc1 := 430) rfl rfl).1
theorem dw_431 : decode code 431 = .ok (.iload_n (3), 1) := (dec_at tkZ_4 (pc1 := 431) rfl rfl).1
theorem dw_432 : decode code 432 = .ok (.iconst (5), 1) := (dec_at tkZ_4 (pc1 := 432) rfl rfl).1
theorem dw_433 : decode code 433 = .ok (.iadd, 1) := (dec_at tkZ_4 (pc1 := 433) rfl rfl).1
theorem dw_434 : decode code 434 = .ok (.iaload, 1) := (dec_at tkZ_4 (pc1 := 434) rfl rfl).1
theorem dw_435 : decode code 435 = .ok (.invokevirtual (36), 3) := (dec_at tkZ_4 (pc1 := 435) rfl rfl).1
theorem dw_438 : decode code 438 = .ok (.if_icmp .eq (1063), 3) := (dec_at tkZ_4 (pc1 := 438) rfl rfl).1
theorem dw_441 : decode code 441 = .ok (.iconst (0), 1) := (dec_at tkZ_4 (pc1 := 441) rfl rfl).1
theorem dw_442 : decode code 442 = .ok (.ireturn, 1) := (dec_at tkZ_4 (pc1 := 442) rfl rfl).1
def pmZ_5 : List PE := [(443, 1, .aload_n (1), 0, 0, 0, 0),
  (444, 1, .aload_n (0), 0, 0, 0, 0),
  (445, 1, .iload_n (3), 0, 0, 0, 0),
  (446, 1, .iconst (1), 0, 0, 1, 0),
  (447, 1, .iadd, 0, 0, 0, 0),
  (448, 1, .iaload, 0, 0, 0, 0),
  (449, 3, .invokevirtual (37), 0, 0, 0, 0),
  (452, 1, .aload_n (2), 0, 0, 0, 0),
  (453, 1, .aload_n (0), 0, 0, 0, 0),
  (454, 1, .iload_n (3), 0, 0, 0, 0),
  (455, 1, .iconst (1), 0, 0, 1, 0),
  (456, 1, .iadd, 0, 0, 0, 0),
  (457, 1, .iaload, 0, 0, 0, 0),
  (458, 3, .invokevirtual (40), 0, 0, 0, 0),
  (461, 3, .if_icmp .eq (1040), 1501, 0, 0, 0),
  (464, 1, .iconst (0), 0, 0, 0, 0),
  (465, 1, .ireturn, 0, 0, 0, 0)]
def mdZ_5 : Md := (x, code, 4, none, pmZ_5)
theorem tkZ_5 : Tm mdZ_5 := tab_of (o := 7) (by decide +kernel)
theorem dw_443 : decode code 443 = .ok (.aload_n (1), 1) := (dec_at tkZ_5 (pc1 := 443) rfl rfl).1
theorem dw_444 : decode code 444 = .ok (.aload_n (0), 1) := (dec_at tkZ_5 (pc1 := 444) rfl rfl).1
theorem dw_445 : decode code 445 = .ok (.iload_n (3), 1) := (dec_at tkZ_5 (pc1 := 445) rfl rfl).1
theorem dw_446 : decode code 446 = .ok (.iconst (1), 1) := (dec_at tkZ_5 (pc1 := 446) rfl rfl).1
theorem dw_447 : decode code 447 = .ok (.iadd, 1) := (dec_at tkZ_5 (pc1 := 447) rfl rfl).1
theorem dw_448 : decode code 448 = .ok (.iaload, 1) := (dec_at tkZ_5 (pc1 := 448) rfl rfl).1
theorem dw_449 : decode code 449 = .ok (.invokevirtual (37), 3) := (dec_at tkZ_5 (pc1 := 449) rfl rfl).1
theorem dw_452 : decode code 452 = .ok (.aload_n (2), 1) := (dec_at tkZ_5 (pc1 := 452) rfl rfl).1
theorem dw_453 : decode code 453 = .ok (.aload_n (0), 1) := (dec_at tkZ_5 (pc1 := 453) rfl rfl).1
theorem dw_454 : decode code 454 = .ok (.iload_n (3), 1) := (dec_at tkZ_5 (pc1 := 454) rfl rfl).1
theorem dw_455 : decode code 455 = .ok (.iconst (1), 1) := (dec_at tkZ_5 (pc1 := 455) rfl rfl).1
theorem dw_456 : decode code 456 = .ok (.iadd, 1) := (dec_at tkZ_5 (pc1 := 456) rfl rfl).1
theorem dw_457 : decode code 457 = .ok (.iaload, 1) := (dec_at tkZ_5 (pc1 := 457) rfl rfl).1
theorem dw_458 : decode code 458 = .ok (.invokevirtual (40), 3) := (dec_at tkZ_5 (pc1 := 458) rfl rfl).1
theorem dw_461 : decode code 461 = .ok (.if_icmp .eq (1040), 3) := (dec_at tkZ_5 (pc1 := 461) rfl rfl).1
theorem dw_464 : decode code 464 = .ok (.iconst (0), 1) := (dec_at tkZ_5 (pc1 := 464) rfl rfl).1
theorem dw_465 : decode code 465 = .ok (.ireturn, 1) := (dec_at tkZ_5 (pc1 := 465) rfl rfl).1
def pmZ_6 : List PE := [(466, 1, .aload_n (1), 0, 0, 0, 0),
  (467, 1, .aload_n (0), 0, 0, 0, 0),
  (468, 1, .iload_n (3), 0, 0, 0, 0),
  (469, 1, .iconst (1), 0, 0, 1, 0),
  (470, 1, .iadd, 0, 0, 0, 0),
  (471, 1, .iaload, 0, 0, 0, 0),
  (472, 1, .aload_n (0), 0, 0, 0, 0),
  (473, 1, .iload_n (3), 0, 0, 0, 0),
  (474, 1, .iconst (2), 0, 0, 2, 0),
  (475, 1, .iadd, 0, 0, 0, 0),
  (476, 1, .iaload, 0, 0, 0, 0),
  (477, 3, .invokevirtual (41), 0, 0, 0, 0),
  (480, 1, .aload_n (2), 0, 0, 0, 0),
  (481, 1, .aload_n (0), 0, 0, 0, 0),
  (482, 1, .iload_n (3), 0, 0, 0, 0),
  (483, 1, .iconst (1), 0, 0, 1, 0),
  (484, 1, .iadd, 0, 0, 0, 0),
  (485, 1, .iaload, 0, 0, 0, 0),
  (486, 1, .aload_n (0), 0, 0, 0, 0),
  (487, 1, .iload_n (3), 0, 0, 0, 0),
  (488, 1, .iconst (2), 0, 0, 2, 0),
  (489, 1, .iadd, 0, 0, 0, 0),
  (490, 1, .iaload, 0, 0, 0, 0),
  (491, 3, .invokevirtual (44), 0, 0, 0, 0),
  (494, 3, .if_icmp .eq (1007), 1501, 0, 0, 0),
  (497, 1, .iconst (0), 0, 0, 0, 0),
  (498, 1, .ireturn, 0, 0, 0, 0)]
def mdZ_6 : Md := (x, code, 4, none, pmZ_6)
theorem tkZ_6 : Tm mdZ_6 := tab_of (o := 7) (by decide +kernel)
theorem dw_466 : decode code 466 = .ok (.aload_n (1), 1) := (dec_at tkZ_6 (pc1 := 466) rfl rfl).1
theorem dw_467 : decode code 467 = .ok (.aload_n (0), 1) := (dec_at tkZ_6 (pc1 := 467) rfl rfl).1
theorem dw_468 : decode code 468 = .ok (.iload_n (3), 1) := (dec_at tkZ_6 (pc1 := 468) rfl rfl).1
theorem dw_469 : decode code 469 = .ok (.iconst (1), 1) := (dec_at tkZ_6 (pc1 := 469) rfl rfl).1
theorem dw_470 : decode code 470 = .ok (.iadd, 1) := (dec_at tkZ_6 (pc1 := 470) rfl rfl).1
theorem dw_471 : decode code 471 = .ok (.iaload, 1) := (dec_at tkZ_6 (pc1 := 471) rfl rfl).1
theorem dw_472 : decode code 472 = .ok (.aload_n (0), 1) := (dec_at tkZ_6 (pc1 := 472) rfl rfl).1
theorem dw_473 : decode code 473 = .ok (.iload_n (3), 1) := (dec_at tkZ_6 (pc1 := 473) rfl rfl).1
theorem dw_474 : decode code 474 = .ok (.iconst (2), 1) := (dec_at tkZ_6 (pc1 := 474) rfl rfl).1
theorem dw_475 : decode code 475 = .ok (.iadd, 1) := (dec_at tkZ_6 (pc1 := 475) rfl rfl).1
theorem dw_476 : decode code 476 = .ok (.iaload, 1) := (dec_at tkZ_6 (pc1 := 476) rfl rfl).1
theorem dw_477 : decode code 477 = .ok (.invokevirtual (41), 3) := (dec_at tkZ_6 (pc1 := 477) rfl rfl).1
theorem dw_480 : decode code 480 = .ok (.aload_n (2), 1) := (dec_at tkZ_6 (pc1 := 480) rfl rfl).1
theorem dw_481 : decode code 481 = .ok (.aload_n (0), 1) := (dec_at tkZ_6 (pc1 := 481) rfl rfl).1
theorem dw_482 : decode code 482 = .ok (.iload_n (3), 1) := (dec_at tkZ_6 (pc1 := 482) rfl rfl).1
theorem dw_483 : decode code 483 = .ok (.iconst (1), 1) := (dec_at tkZ_6 (pc1 := 483) rfl rfl).1
theorem dw_484 : decode code 484 = .ok (.iadd, 1) := (dec_at tkZ_6 (pc1 := 484) rfl rfl).1
theorem dw_485 : decode code 485 = .ok (.iaload, 1) := (dec_at tkZ_6 (pc1 := 485) rfl rfl).1
theorem dw_486 : decode code 486 = .ok (.aload_n (0), 1) := (dec_at tkZ_6 (pc1 := 486) rfl rfl).1
theorem dw_487 : decode code 487 = .ok (.iload_n (3), 1) := (dec_at tkZ_6 (pc1 := 487) rfl rfl).1
theorem dw_488 : decode code 488 = .ok (.iconst (2), 1) := (dec_at tkZ_6 (pc1 := 488) rfl rfl).1
theorem dw_489 : decode code 489 = .ok (.iadd, 1) := (dec_at tkZ_6 (pc1 := 489) rfl rfl).1
theorem dw_490 : decode code 490 = .ok (.iaload, 1) := (dec_at tkZ_6 (pc1 := 490) rfl rfl).1
theorem dw_491 : decode code 491 = .ok (.invokevirtual (44), 3) := (dec_at tkZ_6 (pc1 := 491) rfl rfl).1
theorem dw_494 : decode code 494 = .ok (.if_icmp .eq (1007), 3) := (dec_at tkZ_6 (pc1 := 494) rfl rfl).1
theorem dw_497 : decode code 497 = .ok (.iconst (0), 1) := (dec_at tkZ_6 (pc1 := 497) rfl rfl).1
theorem dw_498 : decode code 498 = .ok (.ireturn, 1) := (dec_at tkZ_6 (pc1 := 498) rfl rfl).1
def pmZ_7 : List PE := [(499, 1, .aload_n (1), 0, 0, 0, 0),
  (500, 1, .aload_n (0), 0, 0, 0, 0),
  (501, 1, .iload_n (3), 0, 0, 0, 0),
  (502, 1, .iconst (1), 0, 0, 1, 0),
  (503, 1, .iadd, 0, 0, 0, 0),
  (504, 1, .iaload, 0, 0, 0, 0),
  (505, 1, .aload_n (0), 0, 0, 0, 0),
  (506, 1, .iload_n (3), 0, 0, 0, 0),
  (507, 1, .iconst (2), 0, 0, 2, 0),
  (508, 1, .iadd, 0, 0, 0, 0),
  (509, 1, .iaload, 0, 0, 0, 0),
  (510, 1, .aload_n (0), 0, 0, 0, 0),
  (511, 1, .iload_n (3), 0, 0, 0, 0),
  (512, 1, .iconst (3), 0, 0, 3, 0),
  (513, 1, .iadd, 0, 0, 0, 0),
  (514, 1, .iaload, 0, 0, 0, 0),
  (515, 3, .invokevirtual (45), 0, 0, 0, 0),
  (518, 1, .aload_n (2), 0, 0, 0, 0),
  (519, 1, .aload_n (0), 0, 0, 0, 0),
  (520, 1, .iload_n (3), 0, 0, 0, 0),
  (521, 1, .iconst (1), 0, 0, 1, 0),
  (522, 1, .iadd, 0, 0, 0, 0),
  (523, 1, .iaload, 0, 0, 0, 0),
  (524, 1, .aload_n (0), 0, 0, 0, 0),
  (525, 1, .iload_n (3), 0, 0, 0, 0),
  (526, 1, .iconst (2), 0, 0, 2, 0),
  (527, 1, .iadd, 0, 0, 0, 0),
  (528, 1, .iaload, 0, 0, 0, 0),
  (529, 1, .aload_n (0), 0, 0, 0, 0),
  (530, 1, .iload_n (3), 0, 0, 0, 0),
  (531, 1, .iconst (3), 0, 0, 3, 0),
  (532, 1, .iadd, 0, 0, 0, 0),
  (533, 1, .iaload, 0, 0, 0, 0),
  (534, 3, .invokevirtual (48), 0, 0, 0, 0),
  (537, 3, .if_icmp .eq (964), 1501, 0, 0, 0),
  (540, 1, .iconst (0), 0, 0, 0, 0),
  (541, 1, .ireturn, 0, 0, 0, 0)]
def mdZ_7 : Md := (x, code, 4, none, pmZ_7)
theorem tkZ_7 : Tm mdZ_7 := tab_of (o := 7) (by decide +kernel)
theorem dw_499 : decode code 499 = .ok (.aload_n (1), 1) := (dec_at tkZ_7 (pc1 := 499) rfl rfl).1
theorem dw_500 : decode code 500 = .ok (.aload_n (0), 1) := (dec_at tkZ_7 (pc1 := 500) rfl rfl).1
theorem dw_501 : decode code 501 = .ok (.iload_n (3), 1) := (dec_at tkZ_7 (pc1 := 501) rfl rfl).1
theorem dw_502 : decode code 502 = .ok (.iconst (1), 1) := (dec_at tkZ_7 (pc1 := 502) rfl rfl).1
theorem dw_503 : decode code 503 = .ok (.iadd, 1) := (dec_at tkZ_7 (pc1 := 503) rfl rfl).1
theorem dw_504 : decode code 504 = .ok (.iaload, 1) := (dec_at tkZ_7 (pc1 := 504) rfl rfl).1
theorem dw_505 : decode code 505 = .ok (.aload_n (0), 1) := (dec_at tkZ_7 (pc1 := 505) rfl rfl).1
theorem dw_506 : decode code 506 = .ok (.iload_n (3), 1) := (dec_at tkZ_7 (pc1 := 506) rfl rfl).1
theorem dw_507 : decode code 507 = .ok (.iconst (2), 1) := (dec_at tkZ_7 (pc1 := 507) rfl rfl).1
theorem dw_508 : decode code 508 = .ok (.iadd, 1) := (dec_at tkZ_7 (pc1 := 508) rfl rfl).1
theorem dw_509 : decode code 509 = .ok (.iaload, 1) := (dec_at tkZ_7 (pc1 := 509) rfl rfl).1
theorem dw_510 : decode code 510 = .ok (.aload_n (0), 1) := (dec_at tkZ_7 (pc1 := 510) rfl rfl).1
theorem dw_511 : decode code 511 = .ok (.iload_n (3), 1) := (dec_at tkZ_7 (pc1 := 511) rfl rfl).1
theorem dw_512 : decode code 512 = .ok (.iconst (3), 1) := (dec_at tkZ_7 (pc1 := 512) rfl rfl).1
theorem dw_513 : decode code 513 = .ok (.iadd, 1) := (dec_at tkZ_7 (pc1 := 513) rfl rfl).1
theorem dw_514 : decode code 514 = .ok (.iaload, 1) := (dec_at tkZ_7 (pc1 := 514) rfl rfl).1
theorem dw_515 : decode code 515 = .ok (.invokevirtual (45), 3) := (dec_at tkZ_7 (pc1 := 515) rfl rfl).1
theorem dw_518 : decode code 518 = .ok (.aload_n (2), 1) := (dec_at tkZ_7 (pc1 := 518) rfl rfl).1
theorem dw_519 : decode code 519 = .ok (.aload_n (0), 1) := (dec_at tkZ_7 (pc1 := 519) rfl rfl).1
theorem dw_520 : decode code 520 = .ok (.iload_n (3), 1) := (dec_at tkZ_7 (pc1 := 520) rfl rfl).1
theorem dw_521 : decode code 521 = .ok (.iconst (1), 1) := (dec_at tkZ_7 (pc1 := 521) rfl rfl).1
theorem dw_522 : decode code 522 = .ok (.iadd, 1) := (dec_at tkZ_7 (pc1 := 522) rfl rfl).1
theorem dw_523 : decode code 523 = .ok (.iaload, 1) := (dec_at tkZ_7 (pc1 := 523) rfl rfl).1
theorem dw_524 : decode code 524 = .ok (.aload_n (0), 1) := (dec_at tkZ_7 (pc1 := 524) rfl rfl).1
theorem dw_525 : decode code 525 = .ok (.iload_n (3), 1) := (dec_at tkZ_7 (pc1 := 525) rfl rfl).1
theorem dw_526 : decode code 526 = .ok (.iconst (2), 1) := (dec_at tkZ_7 (pc1 := 526) rfl rfl).1
theorem dw_527 : decode code 527 = .ok (.iadd, 1) := (dec_at tkZ_7 (pc1 := 527) rfl rfl).1
theorem dw_528 : decode code 528 = .ok (.iaload, 1) := (dec_at tkZ_7 (pc1 := 528) rfl rfl).1
theorem dw_529 : decode code 529 = .ok (.aload_n (0), 1) := (dec_at tkZ_7 (pc1 := 529) rfl rfl).1
theorem dw_530 : decode code 530 = .ok (.iload_n (3), 1) := (dec_at tkZ_7 (pc1 := 530) rfl rfl).1
theorem dw_531 : decode code 531 = .ok (.iconst (3), 1) := (dec_at tkZ_7 (pc1 := 531) rfl rfl).1
theorem dw_532 : decode code 532 = .ok (.iadd, 1) := (dec_at tkZ_7 (pc1 := 532) rfl rfl).1
theorem dw_533 : decode code 533 = .ok (.iaload, 1) := (dec_at tkZ_7 (pc1 := 533) rfl rfl).1
theorem dw_534 : decode code 534 = .ok (.invokevirtual (48), 3) := (dec_at tkZ_7 (pc1 := 534) rfl rfl).1
theorem dw_537 : decode code 537 = .ok (.if_icmp .eq (964), 3) := (dec_at tkZ_7 (pc1 := 537) rfl rfl).1
theorem dw_540 : decode code 540 = .ok (.iconst (0), 1) := (dec_at tkZ_7 (pc1 := 540) rfl rfl).1
theorem dw_541 : decode code 541 = .ok (.ireturn, 1) := (dec_at tkZ_7 (pc1 := 541) rfl rfl).1
def pmZ_8 : List PE := [(542, 1, .aload_n (1), 0, 0, 0, 0),
  (543, 1, .aload_n (0), 0, 0, 0, 0),
  (544, 1, .iload_n (3), 0, 0, 0, 0),
  (545, 1, .iconst (1), 0, 0, 1, 0),
  (546, 1, .iadd, 0, 0, 0, 0),
  (547, 1, .iaload, 0, 0, 0, 0),
  (548, 3, .invokevirtual (49), 0, 0, 0, 0),
  (551, 1, .aload_n (2), 0, 0, 0, 0),
  (552, 1, .aload_n (0), 0, 0, 0, 0),
  (553, 1, .iload_n (3), 0, 0, 0, 0),
  (554, 1, .iconst (1), 0, 0, 1, 0),
  (555, 1, .iadd, 0, 0, 0, 0),
  (556, 1, .iaload, 0, 0, 0, 0),
  (557, 3, .invokevirtual (52), 0, 0, 0, 0),
  (560, 3, .if_icmp .eq (941), 1501, 0, 0, 0),
  (563, 1, .iconst (0), 0, 0, 0, 0),
  (564, 1, .ireturn, 0, 0, 0, 0)]
def mdZ_8 : Md := (x, code, 4, none, pmZ_8)
theorem tkZ_8 : Tm mdZ_8 := tab_of (o := 7) (by decide +kernel)
theorem dw_542 : decode code 542 = .ok (.aload_n (1), 1) := (dec_at tkZ_8 (pc1 := 542) rfl rfl).1
theorem dw_543 : decode code 543 = .ok (.aload_n (0), 1) := (dec_at tkZ_8 (pc1 := 543) rfl rfl).1
theorem dw_544 : decode code 544 = .ok (.iload_n (3), 1) := (dec_at tkZ_8 (pc1 := 544) rfl rfl).1
theorem dw_545 : decode code 545 = .ok (.iconst (1), 1) := (dec_at tkZ_8 (pc1 := 545) rfl rfl).1
theorem dw_546 : decode code 546 = .ok (.iadd, 1) := (dec_at tkZ_8 (pc1 := 546) rfl rfl).1
theorem dw_547 : decode code 547 = .ok (.iaload, 1) := (dec_at tkZ_8 (pc1 := 547) rfl rfl).1
theorem dw_548 : decode code 548 = .ok (.invokevirtual (49), 3) := (dec_at tkZ_8 (pc1 := 548) rfl rfl).1
theorem dw_551 : decode code 551 = .ok (.aload_n (2), 1) := (dec_at tkZ_8 (pc1 := 551) rfl rfl).1
theorem dw_552 : decode code 552 = .ok (.aload_n (0), 1) := (dec_at tkZ_8 (pc1 := 552) rfl rfl).1
theorem dw_553 : decode code 553 = .ok (.iload_n (3), 1) := (dec_at tkZ_8 (pc1 := 553) rfl rfl).1
theorem dw_554 : decode code 554 = .ok (.iconst (1), 1) := (dec_at tkZ_8 (pc1 := 554) rfl rfl).1
theorem dw_555 : decode code 555 = .ok (.iadd, 1) := (dec_at tkZ_8 (pc1 := 555) rfl rfl).1
theorem dw_556 : decode code 556 = .ok (.iaload, 1) := (dec_at tkZ_8 (pc1 := 556) rfl rfl).1
theorem dw_557 : decode code 557 = .ok (.invokevirtual (52), 3) := (dec_at tkZ_8 (pc1 := 557) rfl rfl).1
theorem dw_560 : decode code 560 = .ok (.if_icmp .eq (941), 3) := (dec_at tkZ_8 (pc1 := 560) rfl rfl).1
theorem dw_563 : decode code 563 = .ok (.iconst (0), 1) := (dec_at tkZ_8 (pc1 := 563) rfl rfl).1
theorem dw_564 : decode code 564 = .ok (.ireturn, 1) := (dec_at tkZ_8 (pc1 := 564) rfl rfl).1
def pmZ_9 : List PE := [(565, 1, .aload_n (1), 0, 0, 0, 0),
  (566, 1, .aload_n (0), 0, 0, 0, 0),
  (567, 1, .iload_n (3), 0, 0, 0, 0),
  (568, 1, .iconst (1), 0, 0, 1, 0),
  (569, 1, .iadd, 0, 0, 0, 0),
  (570, 1, .iaload, 0, 0, 0, 0),
  (571, 3, .invokevirtual (53), 0, 0, 0, 0),
  (574, 1, .aload_n (2), 0, 0, 0, 0),
  (575, 1, .aload_n (0), 0, 0, 0, 0),
  (576, 1, .iload_n (3), 0, 0, 0, 0),
  (577, 1, .iconst (1), 0, 0, 1, 0),
  (578, 1, .iadd, 0, 0, 0, 0),
  (579, 1, .iaload, 0, 0, 0, 0),
  (580, 3, .invokevirtual (56), 0, 0, 0, 0),
  (583, 3, .if_icmp .eq (918), 1501, 0, 0, 0),
  (586, 1, .iconst (0), 0, 0, 0, 0),
  (587, 1, .ireturn, 0, 0, 0, 0)]
def mdZ_9 : Md := (x, code, 4, none, pmZ_9)
theorem tkZ_9 : Tm mdZ_9 := tab_of (o := 7) (by decide +kernel)
theorem dw_565 : decode code 565 = .ok (.aload_n (1), 1) := (dec_at tkZ_9 (pc1 := 565) rfl rfl).1
theorem dw_566 : decode code 566 = .ok (.aload_n (0), 1) := (dec_at tkZ_9 (pc1 := 566) rfl rfl).1
theorem dw_567 : decode code 567 = .ok (.iload_n (3), 1) := (dec_at tkZ_9 (pc1 := 567) rfl rfl).1
theorem dw_568 : decode code 568 = .ok (.iconst (1), 1) := (dec_at tkZ_9 (pc1 := 568) rfl rfl).1
theorem dw_569 : decode code 569 = .ok (.iadd, 1) := (dec_at tkZ_9 (pc1 := 569) rfl rfl).1
theorem dw_570 : decode code 570 = .ok (.iaload, 1) := (dec_at tkZ_9 (pc1 := 570) rfl rfl).1
theorem dw_571 : decode code 571 = .ok (.invokevirtual (53), 3) := (dec_at tkZ_9 (pc1 := 571) rfl rfl).1
theorem dw_574 : decode code 574 = .ok (.aload_n (2), 1) := (dec_at tkZ_9 (pc1 := 574) rfl rfl).1
theorem dw_575 : decode code 575 = .ok (.aload_n (0), 1) := (dec_at tkZ_9 (pc1 := 575) rfl rfl).1
theorem dw_576 : decode code 576 = .ok (.iload_n (3), 1) := (dec_at tkZ_9 (pc1 := 576) rfl rfl).1
theorem dw_577 : decode code 577 = .ok (.iconst (1), 1) := (dec_at tkZ_9 (pc1 := 577) rfl rfl).1
theorem dw_578 : decode code 578 = .ok (.iadd, 1) := (dec_at tkZ_9 (pc1 := 578) rfl rfl).1
theorem dw_579 : decode code 579 = .ok (.iaload, 1) := (dec_at tkZ_9 (pc1 := 579) rfl rfl).1
theorem dw_580 : decode code 580 = .ok (.invokevirtual (56), 3) := (dec_at tkZ_9 (pc1 := 580) rfl rfl).1
theorem dw_583 : decode code 583 = .ok (.if_icmp .eq (918), 3) := (dec_at tkZ_9 (pc1 := 583) rfl rfl).1
theorem dw_586 : decode code 586 = .ok (.iconst (0), 1) := (dec_at tkZ_9 (pc1 := 586) rfl rfl).1
theorem dw_587 : decode code 587 = .ok (.ireturn, 1) := (dec_at tkZ_9 (pc1 := 587) rfl rfl).1
def pmZ_10 : List PE := [(588, 1, .aload_n (1), 0, 0, 0, 0),
  (589, 1, .aload_n (0), 0, 0, 0, 0),
  (590, 1, .iload_n (3), 0, 0, 0, 0),
  (591, 1, .iconst (1), 0, 0, 1, 0),
  (592, 1, .iadd, 0, 0, 0, 0),
  (593, 1, .iaload, 0, 0, 0, 0),
  (594, 1, .aload_n (0), 0, 0, 0, 0),
  (595, 1, .iload_n (3), 0, 0, 0, 0),
  (596, 1, .iconst (2), 0, 0, 2, 0),
  (597, 1, .iadd, 0, 0, 0, 0),
  (598, 1, .iaload, 0, 0, 0, 0),
  (599, 3, .invokevirtual (57), 0, 0, 0, 0),
  (602, 1, .aload_n (2), 0, 0, 0, 0),
  (603, 1, .aload_n (0), 0, 0, 0, 0),
  (604, 1, .iload_n (3), 0, 0, 0, 0),
  (605, 1, .iconst (1), 0, 0, 1, 0),
  (606, 1, .iadd, 0, 0, 0, 0),
  (607, 1, .iaload, 0, 0, 0, 0),
  (608, 1, .aload_n (0), 0, 0, 0, 0),
  (609, 1, .iload_n (3), 0, 0, 0, 0),
  (610, 1, .iconst (2), 0, 0, 2, 0),
  (611, 1, .iadd, 0, 0, 0, 0),
  (612, 1, .iaload, 0, 0, 0, 0),
  (613, 3, .invokevirtual (60), 0, 0, 0, 0),
  (616, 3, .if_icmp .eq (885), 1501, 0, 0, 0),
  (619, 1, .iconst (0), 0, 0, 0, 0),
  (620, 1, .ireturn, 0, 0, 0, 0)]
def mdZ_10 : Md := (x, code, 4, none, pmZ_10)
theorem tkZ_10 : Tm mdZ_10 := tab_of (o := 7) (by decide +kernel)
theorem dw_588 : decode code 588 = .ok (.aload_n (1), 1) := (dec_at tkZ_10 (pc1 := 588) rfl rfl).1
theorem dw_589 : decode code 589 = .ok (.aload_n (0), 1) := (dec_at tkZ_10 (pc1 := 589) rfl rfl).1
theorem dw_590 : decode code 590 = .ok (.iload_n (3), 1) := (dec_at tkZ_10 (pc1 := 590) rfl rfl).1
theorem dw_591 : decode code 591 = .ok (.iconst (1), 1) := (dec_at tkZ_10 (pc1 := 591) rfl rfl).1
theorem dw_592 : decode code 592 = .ok (.iadd, 1) := (dec_at tkZ_10 (pc1 := 592) rfl rfl).1
theorem dw_593 : decode code 593 = .ok (.iaload, 1) := (dec_at tkZ_10 (pc1 := 593) rfl rfl).1
theorem dw_594 : decode code 594 = .ok (.aload_n (0), 1) := (dec_at tkZ_10 (pc1 := 594) rfl rfl).1
theorem dw_595 : decode code 595 = .ok (.iload_n (3), 1) := (dec_at tkZ_10 (pc1 := 595) rfl rfl).1
theorem dw_596 : decode code 596 = .ok (.iconst (2), 1) := (dec_at tkZ_10 (pc1 := 596) rfl rfl).1
theorem dw_597 : decode code 597 = .ok (.iadd, 1) := (dec_at tkZ_10 (pc1 := 597) rfl rfl).1
theorem dw_598 : decode code 598 = .ok (.iaload, 1) := (dec_at tkZ_10 (pc1 := 598) rfl rfl).1
theorem dw_599 : decode code 599 = .ok (.invokevirtual (57), 3) := (dec_at tkZ_10 (pc1 := 599) rfl rfl).1
theorem dw_602 : decode code 602 = .ok (.aload_n (2), 1) := (dec_at tkZ_10 (pc1 := 602) rfl rfl).1
theorem dw_603 : decode code 603 = .ok (.aload_n (0), 1) := (dec_at tkZ_10 (pc1 := 603) rfl rfl).1
theorem dw_604 : decode code 604 = .ok (.iload_n (3), 1) := (dec_at tkZ_10 (pc1 := 604) rfl rfl).1
theorem dw_605 : decode code 605 = .ok (.iconst (1), 1) := (dec_at tkZ_10 (pc1 := 605) rfl rfl).1
theorem dw_606 : decode code 606 = .ok (.iadd, 1) := (dec_at tkZ_10 (pc1 := 606) rfl rfl).1
theorem dw_607 : decode code 607 = .ok (.iaload, 1) := (dec_at tkZ_10 (pc1 := 607) rfl rfl).1
theorem dw_608 : decode code 608 = .ok (.aload_n (0), 1) := (dec_at tkZ_10 (pc1 := 608) rfl rfl).1
theorem dw_609 : decode code 609 = .ok (.iload_n (3), 1) := (dec_at tkZ_10 (pc1 := 609) rfl rfl).1
theorem dw_610 : decode code 610 = .ok (.iconst (2), 1) := (dec_at tkZ_10 (pc1 := 610) rfl rfl).1
theorem dw_611 : decode code 611 = .ok (.iadd, 1) := (dec_at tkZ_10 (pc1 := 611) rfl rfl).1
theorem dw_612 : decode code 612 = .ok (.iaload, 1) := (dec_at tkZ_10 (pc1 := 612) rfl rfl).1
theorem dw_613 : decode code 613 = .ok (.invokevirtual (60), 3) := (dec_at tkZ_10 (pc1 := 613) rfl rfl).1
theorem dw_616 : decode code 616 = .ok (.if_icmp .eq (885), 3) := (dec_at tkZ_10 (pc1 := 616) rfl rfl).1
theorem dw_619 : decode code 619 = .ok (.iconst (0), 1) := (dec_at tkZ_10 (pc1 := 619) rfl rfl).1
theorem dw_620 : decode code 620 = .ok (.ireturn, 1) := (dec_at tkZ_10 (pc1 := 620) rfl rfl).1
def pmZ_11 : List PE := [(621, 1, .aload_n (1), 0, 0, 0, 0),
  (622, 1, .aload_n (0), 0, 0, 0, 0),
  (623, 1, .iload_n (3), 0, 0, 0, 0),
  (624, 1, .iconst (1), 0, 0, 1, 0),
  (625, 1, .iadd, 0, 0, 0, 0),
  (626, 1, .iaload, 0, 0, 0, 0),
  (627, 1, .aload_n (0), 0, 0, 0, 0),
  (628, 1, .iload_n (3), 0, 0, 0, 0),
  (629, 1, .iconst (2), 0, 0, 2, 0),
  (630, 1, .iadd, 0, 0, 0, 0),
  (631, 1, .iaload, 0, 0, 0, 0),
  (632, 3, .invokevirtual (61), 0, 0, 0, 0),
  (635, 1, .aload_n (2), 0, 0, 0, 0),
  (636, 1, .aload_n (0), 0, 0, 0, 0),
  (637, 1, .iload_n (3), 0, 0, 0, 0),
  (638, 1, .iconst (1), 0, 0, 1, 0),
  (639, 1, .iadd, 0, 0, 0, 0),
  (640, 1, .iaload, 0, 0, 0, 0),
  (641, 1, .aload_n (0), 0, 0, 0, 0),
  (642, 1, .iload_n (3), 0, 0, 0, 0),
  (643, 1, .iconst (2), 0, 0, 2, 0),
  (644, 1, .iadd, 0, 0, 0, 0),
  (645, 1, .iaload, 0, 0, 0, 0),
  (646, 3, .invokevirtual (64), 0, 0, 0, 0),
  (649, 3, .if_icmp .eq (852), 1501, 0, 0, 0),
  (652, 1, .iconst (0), 0, 0, 0, 0),
  (653, 1, .ireturn, 0, 0, 0, 0)]
def mdZ_11 : Md := (x, code, 4, none, pmZ_11)
theorem tkZ_11 : Tm mdZ_11 := tab_of (o := 7) (by decide +kernel)
theorem dw_621 : decode code 621 = .ok (.aload_n (1), 1) := (dec_at tkZ_11 (pc1 := 621) rfl rfl).1
theorem dw_622 : decode code 622 = .ok (.aload_n (0), 1) := (dec_at tkZ_11 (pc1 := 622) rfl rfl).1
theorem dw_623 : decode code 623 = .ok (.iload_n (3), 1) := (dec_at tkZ_11 (pc1 := 623) rfl rfl).1
theorem dw_624 : decode code 624 = .ok (.iconst (1), 1) := (dec_at tkZ_11 (pc1 := 624) rfl rfl).1
theorem dw_625 : decode code 625 = .ok (.iadd, 1) := (dec_at tkZ_11 (pc1 := 625) rfl rfl).1
theorem dw_626 : decode code 626 = .ok (.iaload, 1) := (dec_at tkZ_11 (pc1 := 626) rfl rfl).1
theorem dw_627 : decode code 627 = .ok (.aload_n (0), 1) := (dec_at tkZ_11 (pc1 := 627) rfl rfl).1
theorem dw_628 : decode code 628 = .ok (.iload_n (3), 1) := (dec_at tkZ_11 (pc1 := 628) rfl rfl).1
theorem dw_629 : decode code 629 = .ok (.iconst (2), 1) := (dec_at tkZ_11 (pc1 := 629) rfl rfl).1
theorem dw_630 : decode code 630 = .ok (.iadd, 1) := (dec_at tkZ_11 (pc1 := 630) rfl rfl).1
theorem dw_631 : decode code 631 = .ok (.iaload, 1) := (dec_at tkZ_11 (pc1 := 631) rfl rfl).1
theorem dw_632 : decode code 632 = .ok (.invokevirtual (61), 3) := (dec_at tkZ_11 (pc1 := 632) rfl rfl).1
theorem dw_635 : decode code 635 = .ok (.aload_n (2), 1) := (dec_at tkZ_11 (pc1 := 635) rfl rfl).1
theorem dw_636 : decode code 636 = .ok (.aload_n (0), 1) := (dec_at tkZ_11 (pc1 := 636) rfl rfl).1
theorem dw_637 : decode code 637 = .ok (.iload_n (3), 1) := (dec_at tkZ_11 (pc1 := 637) rfl rfl).1
theorem dw_638 : decode code 638 = .ok (.iconst (1), 1) := (dec_at tkZ_11 (pc1 := 638) rfl rfl).1
theorem dw_639 : decode code 639 = .ok (.iadd, 1) := (dec_at tkZ_11 (pc1 := 639) rfl rfl).1
theorem dw_640 : decode code 640 = .ok (.iaload, 1) := (dec_at tkZ_11 (pc1 := 640) rfl rfl).1
theorem dw_641 : decode code 641 = .ok (.aload_n (0), 1) := (dec_at tkZ_11 (pc1 := 641) rfl rfl).1
theorem dw_642 : decode code 642 = .ok (.iload_n (3), 1) := (dec_at tkZ_11 (pc1 := 642) rfl rfl).1
theorem dw_643 : decode code 643 = .ok (.iconst (2), 1) := (dec_at tkZ_11 (pc1 := 643) rfl rfl).1
theorem dw_644 : decode code 644 = .ok (.iadd, 1) := (dec_at tkZ_11 (pc1 := 644) rfl rfl).1
theorem dw_645 : decode code 645 = .ok (.iaload, 1) := (dec_at tkZ_11 (pc1 := 645) rfl rfl).1
theorem dw_646 : decode code 646 = .ok (.invokevirtual (64), 3) := (dec_at tkZ_11 (pc1 := 646) rfl rfl).1
theorem dw_649 : decode code 649 = .ok (.if_icmp .eq (852), 3) := (dec_at tkZ_11 (pc1 := 649) rfl rfl).1
theorem dw_652 : decode code 652 = .ok (.iconst (0), 1) := (dec_at tkZ_11 (pc1 := 652) rfl rfl).1
theorem dw_653 : decode code 653 = .ok (.ireturn, 1) := (dec_at tkZ_11 (pc1 := 653) rfl rfl).1
def pmZ_12 : List PE := [(654, 1, .aload_n (1), 0, 0, 0, 0),
  (655, 1, .aload_n (0), 0, 0, 0, 0),
  (656, 1, .iload_n (3), 0, 0, 0, 0),
  (657, 1, .iconst (1), 0, 0, 1, 0),
  (658, 1, .iadd, 0, 0, 0, 0),
  (659, 1, .iaload, 0, 0, 0, 0),
  (660, 3, .invokevirtual (65), 0, 0, 0, 0),
  (663, 1, .aload_n (2), 0, 0, 0, 0),
  (664, 1, .aload_n (0), 0, 0, 0, 0),
  (665, 1, .iload_n (3), 0, 0, 0, 0),
  (666, 1, .iconst (1), 0, 0, 1, 0),
  (667, 1, .iadd, 0, 0, 0, 0),
  (668, 1, .iaload, 0, 0, 0, 0),
  (669, 3, .invokevirtual (68), 0, 0, 0, 0),
  (672, 3, .if_icmp .eq (829), 1501, 0, 0, 0),
  (675, 1, .iconst (0), 0, 0, 0, 0),
  (676, 1, .ireturn, 0, 0, 0, 0)]
def mdZ_12 : Md := (x, code, 4, none, pmZ_12)
theorem tkZ_12 : Tm mdZ_12 := tab_of (o := 7) (by decide +kernel)
theorem dw_654 : decode code 654 = .ok (.aload_n (1), 1) := (dec_at tkZ_12 (pc1 := 654) rfl rfl).1
theorem dw_655 : decode code 655 = .ok (.aload_n (0), 1) := (dec_at tkZ_12 (pc1 := 655) rfl rfl).1
theorem dw_656 : decode code 656 = .ok (.iload_n (3), 1) := (dec_at tkZ_12 (pc1 := 656) rfl rfl).1
theorem dw_657 : decode code 657 = .ok (.iconst (1), 1) := (dec_at tkZ_12 (pc1 := 657) rfl rfl).1
theorem dw_658 : decode code 658 = .ok (.iadd, 1) := (dec_at tkZ_12 (pc1 := 658) rfl rfl).1
theorem dw_659 : decode code 659 = .ok (.iaload, 1) := (dec_at tkZ_12 (pc1 := 659) rfl rfl).1
theorem dw_660 : decode code 660 = .ok (.invokevirtual (65), 3) := (dec_at tkZ_12 (pc1 := 660) rfl rfl).1
theorem dw_663 : decode code 663 = .ok (.aload_n (2), 1) := (dec_at tkZ_12 (pc1 := 663) rfl rfl).1
theorem dw_664 : decode code 664 = .ok (.aload_n (0), 1) := (dec_at tkZ_12 (pc1 := 664) rfl rfl).1
theorem dw_665 : decode code 665 = .ok (.iload_n (3), 1) := (dec_at tkZ_12 (pc1 := 665) rfl rfl).1
theorem dw_666 : decode code 666 = .ok (.iconst (1), 1) := (dec_at tkZ_12 (pc1 := 666) rfl rfl).1
theorem dw_667 : decode code 667 = .ok (.iadd, 1) := (dec_at tkZ_12 (pc1 := 667) rfl rfl).1
theorem dw_668 : decode code 668 = .ok (.iaload, 1) := (dec_at tkZ_12 (pc1 := 668) rfl rfl).1
theorem dw_669 : decode code 669 = .ok (.invokevirtual (68), 3) := (dec_at tkZ_12 (pc1 := 669) rfl rfl).1
theorem dw_672 : decode code 672 = .ok (.if_icmp .eq (829), 3) := (dec_at tkZ_12 (pc1 := 672) rfl rfl).1
theorem dw_675 : decode code 675 = .ok (.iconst (0), 1) := (dec_at tkZ_12 (pc1 := 675) rfl rfl).1
theorem dw_676 : decode code 676 = .ok (.ireturn, 1) := (dec_at tkZ_12 (pc1 := 676) rfl rfl).1
def pmZ_13 : List PE := [(677, 1, .aload_n (1), 0, 0, 0, 0),
  (678, 1, .aload_n (0), 0, 0, 0, 0),
  (679, 1, .iload_n (3), 0, 0, 0, 0),
  (680, 1, .iconst (1), 0, 0, 1, 0),
  (681, 1, .iadd, 0, 0, 0, 0),
  (682, 1, .iaload, 0, 0, 0, 0),
  (683, 3, .invokevirtual (69), 0, 0, 0, 0),
  (686, 1, .aload_n (2), 0, 0, 0, 0),
  (687, 1, .aload_n (0), 0, 0, 0, 0),
  (688, 1, .iload_n (3), 0, 0, 0, 0),
  (689, 1, .iconst (1), 0, 0, 1, 0),
  (690, 1, .iadd, 0, 0, 0, 0),
  (691, 1, .iaload, 0, 0, 0, 0),
  (692, 3, .invokevirtual (72), 0, 0, 0, 0),
  (695, 3, .if_icmp .eq (806), 1501, 0, 0, 0),
  (698, 1, .iconst (0), 0, 0, 0, 0),
  (699, 1, .ireturn, 0, 0, 0, 0)]
def mdZ_13 : Md := (x, code, 4, none, pmZ_13)
theorem tkZ_13 : Tm mdZ_13 := tab_of (o := 7) (by decide +kernel)
theorem dw_677 : decode code 677 = .ok (.aload_n (1), 1) := (dec_at tkZ_13 (pc1 := 677) rfl rfl).1
theorem dw_678 : decode code 678 = .ok (.aload_n (0), 1) := (dec_at tkZ_13 (pc1 := 678) rfl rfl).1
theorem dw_679 : decode code 679 = .ok (.iload_n (3), 1) := (dec_at tkZ_13 (pc1 := 679) rfl rfl).1
theorem dw_680 : decode code 680 = .ok (.iconst (1), 1) := (dec_at tkZ_13 (pc1 := 680) rfl rfl).1
theorem dw_681 : decode code 681 = .ok (.iadd, 1) := (dec_at tkZ_13 (pc1 := 681) rfl rfl).1
theorem dw_682 : decode code 682 = .ok (.iaload, 1) := (dec_at tkZ_13 (pc1 := 682) rfl rfl).1
theorem dw_683 : decode code 683 = .ok (.invokevirtual (69), 3) := (dec_at tkZ_13 (pc1 := 683) rfl rfl).1
theorem dw_686 : decode code 686 = .ok (.aload_n (2), 1) := (dec_at tkZ_13 (pc1 := 686) rfl rfl).1
theorem dw_687 : decode code 687 = .ok (.aload_n (0), 1) := (dec_at tkZ_13 (pc1 := 687) rfl rfl).1
theorem dw_688 : decode code 688 = .ok (.iload_n (3), 1) := (dec_at tkZ_13 (pc1 := 688) rfl rfl).1
theorem dw_689 : decode code 689 = .ok (.iconst (1), 1) := (dec_at tkZ_13 (pc1 := 689) rfl rfl).1
theorem dw_690 : decode code 690 = .ok (.iadd, 1) := (dec_at tkZ_13 (pc1 := 690) rfl rfl).1
theorem dw_691 : decode code 691 = .ok (.iaload, 1) := (dec_at tkZ_13 (pc1 := 691) rfl rfl).1
theorem dw_692 : decode code 692 = .ok (.invokevirtual (72), 3) := (dec_at tkZ_13 (pc1 := 692) rfl rfl).1
theorem dw_695 : decode code 695 = .ok (.if_icmp .eq (806), 3) := (dec_at tkZ_13 (pc1 := 695) rfl rfl).1
theorem dw_698 : decode code 698 = .ok (.iconst (0), 1) := (dec_at tkZ_13 (pc1 := 698) rfl rfl).1
theorem dw_699 : decode code 699 = .ok (.ireturn, 1) := (dec_at tkZ_13 (pc1 := 699) rfl rfl).1
def pmZ_14 : List PE := [(700, 1, .aload_n (1), 0, 0, 0, 0),
  (701, 1, .aload_n (0), 0, 0, 0, 0),
  (702, 1, .iload_n (3), 0, 0, 0, 0),
  (703, 1, .iconst (1), 0, 0, 1, 0),
  (704, 1, .iadd, 0, 0, 0, 0),
  (705, 1, .iaload, 0, 0, 0, 0),
  (706, 3, .invokevirtual (73), 0, 0, 0, 0),
  (709, 1, .aload_n (2), 0, 0, 0, 0),
  (710, 1, .aload_n (0), 0, 0, 0, 0),
  (711, 1, .iload_n (3), 0, 0, 0, 0),
  (712, 1, .iconst (1), 0, 0, 1, 0),
  (713, 1, .iadd, 0, 0, 0, 0),
  (714, 1, .iaload, 0, 0, 0, 0),
  (715, 3, .invokevirtual (76), 0, 0, 0, 0),
  (718, 3, .if_icmp .eq (783), 1501, 0, 0, 0),
  (721, 1, .iconst (0), 0, 0, 0, 0),
  (722, 1, .ireturn, 0, 0, 0, 0)]
def mdZ_14 : Md := (x, code, 4, none, pmZ_14)
theorem tkZ_14 : Tm mdZ_14 := tab_of (o := 7) (by decide +kernel)
theorem dw_700 : decode code 700 = .ok (.aload_n (1), 1) := (dec_at tkZ_14 (pc1 := 700) rfl rfl).1
theorem dw_701 : decode code 701 = .ok (.aload_n (0), 1) := (dec_at tkZ_14 (pc1 := 701) rfl rfl).1
theorem dw_702 : decode code 702 = .ok (.iload_n (3), 1) := (dec_at tkZ_14 (pc1 := 702) rfl rfl).1
theorem dw_703 : decode code 703 = .ok (.iconst (1), 1) := (dec_at tkZ_14 (pc1 := 703) rfl rfl).1
theorem dw_704 : decode code 704 = .ok (.iadd, 1) := (dec_at tkZ_14 (pc1 := 704) rfl rfl).1
theorem dw_705 : decode code 705 = .ok (.iaload, 1) := (dec_at tkZ_14 (pc1 := 705) rfl rfl).1
theorem dw_706 : decode code 706 = .ok (.invokevirtual (73), 3) := (dec_at tkZ_14 (pc1 := 706) rfl rfl).1
theorem dw_709 : decode code 709 = .ok (.aload_n (2), 1) := (dec_at tkZ_14 (pc1 := 709) rfl rfl).1
theorem dw_710 : decode code 710 = .ok (.aload_n (0), 1) := (dec_at tkZ_14 (pc1 := 710) rfl rfl).1
theorem dw_711 : decode code 711 = .ok (.iload_n (3), 1) := (dec_at tkZ_14 (pc1 := 711) rfl rfl).1
theorem dw_712 : decode code 712 = .ok (.iconst (1), 1) := (dec_at tkZ_14 (pc1 := 712) rfl rfl).1
theorem dw_713 : decode code 713 = .ok (.iadd, 1) := (dec_at tkZ_14 (pc1 := 713) rfl rfl).1
theorem dw_714 : decode code 714 = .ok (.iaload, 1) := (dec_at tkZ_14 (pc1 := 714) rfl rfl).1
theorem dw_715 : decode code 715 = .ok (.invokevirtual (76), 3) := (dec_at tkZ_14 (pc1 := 715) rfl rfl).1
theorem dw_718 : decode code 718 = .ok (.if_icmp .eq (783), 3) := (dec_at tkZ_14 (pc1 := 718) rfl rfl).1
theorem dw_721 : decode code 721 = .ok (.iconst (0), 1) := (dec_at tkZ_14 (pc1 := 721) rfl rfl).1
theorem dw_722 : decode code 722 = .ok (.ireturn, 1) := (dec_at tkZ_14 (pc1 := 722) rfl rfl).1
def pmZ_15 : List PE := [(723, 1, .aload_n (1), 0, 0, 0, 0),
  (724, 1, .aload_n (0), 0, 0, 0, 0),
  (725, 1, .iload_n (3), 0, 0, 0, 0),
  (726, 1, .iconst (1), 0, 0, 1, 0),
  (727, 1, .iadd, 0, 0, 0, 0),
  (728, 1, .iaload, 0, 0, 0, 0),
  (729, 1, .aload_n (0), 0, 0, 0, 0),
  (730, 1, .iload_n (3), 0, 0, 0, 0),
  (731, 1, .iconst (2), 0, 0, 2, 0),
  (732, 1, .iadd, 0, 0, 0, 0),
  (733, 1, .iaload, 0, 0, 0, 0),
  (734, 3, .invokevirtual (77), 0, 0, 0, 0),
  (737, 1, .aload_n (2), 0, 0, 0, 0),
  (738, 1, .aload_n (0), 0, 0, 0, 0),
  (739, 1, .iload_n (3), 0, 0, 0, 0),
  (740, 1, .iconst (1), 0, 0, 1, 0),
  (741, 1, .iadd, 0, 0, 0, 0),
  (742, 1, .iaload, 0, 0, 0, 0),
  (743, 1, .aload_n (0), 0, 0, 0, 0),
  (744, 1, .iload_n (3), 0, 0, 0, 0),
  (745, 1, .iconst (2), 0, 0, 2, 0),
  (746, 1, .iadd, 0, 0, 0, 0),
  (747, 1, .iaload, 0, 0, 0, 0),
  (748, 3, .invokevirtual (80), 0, 0, 0, 0),
  (751, 3, .if_icmp .eq (750), 1501, 0, 0, 0),
  (754, 1, .iconst (0), 0, 0, 0, 0),
  (755, 1, .ireturn, 0, 0, 0, 0)]
def mdZ_15 : Md := (x, code, 4, none, pmZ_15)
theorem tkZ_15 : Tm mdZ_15 := tab_of (o := 7) (by decide +kernel)
theorem dw_723 : decode code 723 = .ok (.aload_n (1), 1) := (dec_at tkZ_15 (pc1 := 723) rfl rfl).1
theorem dw_724 : decode code 724 = .ok (.aload_n (0), 1) := (dec_at tkZ_15 (pc1 := 724) rfl rfl).1
theorem dw_725 : decode code 725 = .ok (.iload_n (3), 1) := (dec_at tkZ_15 (pc1 := 725) rfl rfl).1
theorem dw_726 : decode code 726 = .ok (.iconst (1), 1) := (dec_at tkZ_15 (pc1 := 726) rfl rfl).1
theorem dw_727 : decode code 727 = .ok (.iadd, 1) := (dec_at tkZ_15 (pc1 := 727) rfl rfl).1
theorem dw_728 : decode code 728 = .ok (.iaload, 1) := (dec_at tkZ_15 (pc1 := 728) rfl rfl).1
theorem dw_729 : decode code 729 = .ok (.aload_n (0), 1) := (dec_at tkZ_15 (pc1 := 729) rfl rfl).1
theorem dw_730 : decode code 730 = .ok (.iload_n (3), 1) := (dec_at tkZ_15 (pc1 := 730) rfl rfl).1
theorem dw_731 : decode code 731 = .ok (.iconst (2), 1) := (dec_at tkZ_15 (pc1 := 731) rfl rfl).1
theorem dw_732 : decode code 732 = .ok (.iadd, 1) := (dec_at tkZ_15 (pc1 := 732) rfl rfl).1
theorem dw_733 : decode code 733 = .ok (.iaload, 1) := (dec_at tkZ_15 (pc1 := 733) rfl rfl).1
theorem dw_734 : decode code 734 = .ok (.invokevirtual (77), 3) := (dec_at tkZ_15 (pc1 := 734) rfl rfl).1
theorem dw_737 : decode code 737 = .ok (.aload_n (2), 1) := (dec_at tkZ_15 (pc1 := 737) rfl rfl).1
theorem dw_738 : decode code 738 = .ok (.aload_n (0), 1) := (dec_at tkZ_15 (pc1 := 738) rfl rfl).1
theorem dw_739 : decode code 739 = .ok (.iload_n (3), 1) := (dec_at tkZ_15 (pc1 := 739) rfl rfl).1
theorem dw_740 : decode code 740 = .ok (.iconst (1), 1) := (dec_at tkZ_15 (pc1 := 740) rfl rfl).1
theorem dw_741 : decode code 741 = .ok (.iadd, 1) := (dec_at tkZ_15 (pc1 := 741) rfl rfl).1
theorem dw_742 : decode code 742 = .ok (.iaload, 1) := (dec_at tkZ_15 (pc1 := 742) rfl rfl).1
theorem dw_743 : decode code 743 = .ok (.aload_n (0), 1) := (dec_at tkZ_15 (pc1 := 743) rfl rfl).1
theorem dw_744 : decode code 744 = .ok (.iload_n (3), 1) := (dec_at tkZ_15 (pc1 := 744) rfl rfl).1
theorem dw_745 : decode code 745 = .ok (.iconst (2), 1) := (dec_at tkZ_15 (pc1 := 745) rfl rfl).1
theorem dw_746 : decode code 746 = .ok (.iadd, 1) := (dec_at tkZ_15 (pc1 := 746) rfl rfl).1
theorem dw_747 : decode code 747 = .ok (.iaload, 1) := (dec_at tkZ_15 (pc1 := 747) rfl rfl).1
theorem dw_748 : decode code 748 = .ok (.invokevirtual (80), 3) := (dec_at tkZ_15 (pc1 := 748) rfl rfl).1
theorem dw_751 : decode code 751 = .ok (.if_icmp .eq (750), 3) := (dec_at tkZ_15 (pc1 := 751) rfl rfl).1
theorem dw_754 : decode code 754 = .ok (.iconst (0), 1) := (dec_at tkZ_15 (pc1 := 754) rfl rfl).1
theorem dw_755 : decode code 755 = .ok (.ireturn, 1) := (dec_at tkZ_15 (pc1 := 755) rfl rfl).1
def pmZ_16 : List PE := [(756, 1, .aload_n (1), 0, 0, 0, 0),
  (757, 1, .aload_n (0), 0, 0, 0, 0),
  (758, 1, .iload_n (3), 0, 0, 0, 0),
  (759, 1, .iconst (1), 0, 0, 1, 0),
  (760, 1, .iadd, 0, 0, 0, 0),
  (761, 1, .iaload, 0, 0, 0, 0),
  (762, 1, .aload_n (0), 0, 0, 0, 0),
  (763, 1, .iload_n (3), 0, 0, 0, 0),
  (764, 1, .iconst (2), 0, 0, 2, 0),
  (765, 1, .iadd, 0, 0, 0, 0),
  (766, 1, .iaload, 0, 0, 0, 0),
  (767, 3, .invokevirtual (81), 0, 0, 0, 0),
  (770, 1, .aload_n (2), 0, 0, 0, 0),
  (771, 1, .aload_n (0), 0, 0, 0, 0),
  (772, 1, .iload_n (3), 0, 0, 0, 0),
  (773, 1, .iconst (1), 0, 0, 1, 0),
  (774, 1, .iadd, 0, 0, 0, 0),
  (775, 1, .iaload, 0, 0, 0, 0),
  (776, 1, .aload_n (0), 0, 0, 0, 0),
  (777, 1, .iload_n (3), 0, 0, 0, 0),
  (778, 1, .iconst (2), 0, 0, 2, 0),
  (779, 1, .iadd, 0, 0, 0, 0),
  (780, 1, .iaload, 0, 0, 0, 0),
  (781, 3, .invokevirtual (84), 0, 0, 0, 0),
  (784, 3, .if_icmp .eq (717), 1501, 0, 0, 0),
  (787, 1, .iconst (0), 0, 0, 0, 0),
  (788, 1, .ireturn, 0, 0, 0, 0)]
def mdZ_16 : Md := (x, code, 4, none, pmZ_16)
theorem tkZ_16 : Tm mdZ_16 := tab_of (o := 7) (by decide +kernel)
theorem dw_756 : decode code 756 = .ok (.aload_n (1), 1) := (dec_at tkZ_16 (pc1 := 756) rfl rfl).1
theorem dw_757 : decode code 757 = .ok (.aload_n (0), 1) := (dec_at tkZ_16 (pc1 := 757) rfl rfl).1
theorem dw_758 : decode code 758 = .ok (.iload_n (3), 1) := (dec_at tkZ_16 (pc1 := 758) rfl rfl).1
theorem dw_759 : decode code 759 = .ok (.iconst (1), 1) := (dec_at tkZ_16 (pc1 := 759) rfl rfl).1
theorem dw_760 : decode code 760 = .ok (.iadd, 1) := (dec_at tkZ_16 (pc1 := 760) rfl rfl).1
theorem dw_761 : decode code 761 = .ok (.iaload, 1) := (dec_at tkZ_16 (pc1 := 761) rfl rfl).1
theorem dw_762 : decode code 762 = .ok (.aload_n (0), 1) := (dec_at tkZ_16 (pc1 := 762) rfl rfl).1
theorem dw_763 : decode code 763 = .ok (.iload_n (3), 1) := (dec_at tkZ_16 (pc1 := 763) rfl rfl).1
theorem dw_764 : decode code 764 = .ok (.iconst (2), 1) := (dec_at tkZ_16 (pc1 := 764) rfl rfl).1
theorem dw_765 : decode code 765 = .ok (.iadd, 1) := (dec_at tkZ_16 (pc1 := 765) rfl rfl).1
theorem dw_766 : decode code 766 = .ok (.iaload, 1) := (dec_at tkZ_16 (pc1 := 766) rfl rfl).1
theorem dw_767 : decode code 767 = .ok (.invokevirtual (81), 3) := (dec_at tkZ_16 (pc1 := 767) rfl rfl).1
theorem dw_770 : decode code 770 = .ok (.aload_n (2), 1) := (dec_at tkZ_16 (pc1 := 770) rfl rfl).1
theorem dw_771 : decode code 771 = .ok (.aload_n (0), 1) := (dec_at tkZ_16 (pc1 := 771) rfl rfl).1
theorem dw_772 : decode code 772 = .ok (.iload_n (3), 1) := (dec_at tkZ_16 (pc1 := 772) rfl rfl).1
theorem dw_773 : decode code 773 = .ok (.iconst (1), 1) := (dec_at tkZ_16 (pc1 := 773) rfl rfl).1
theorem dw_774 : decode code 774 = .ok (.iadd, 1) := (dec_at tkZ_16 (pc1 := 774) rfl rfl).1
theorem dw_775 : decode code 775 = .ok (.iaload, 1) := (dec_at tkZ_16 (pc1 := 775) rfl rfl).1
theorem dw_776 : decode code 776 = .ok (.aload_n (0), 1) := (dec_at tkZ_16 (pc1 := 776) rfl rfl).1
theorem dw_777 : decode code 777 = .ok (.iload_n (3), 1) := (dec_at tkZ_16 (pc1 := 777) rfl rfl).1
theorem dw_778 : decode code 778 = .ok (.iconst (2), 1) := (dec_at tkZ_16 (pc1 := 778) rfl rfl).1
theorem dw_779 : decode code 779 = .ok (.iadd, 1) := (dec_at tkZ_16 (pc1 := 779) rfl rfl).1
theorem dw_780 : decode code 780 = .ok (.iaload, 1) := (dec_at tkZ_16 (pc1 := 780) rfl rfl).1
theorem dw_781 : decode code 781 = .ok (.invokevirtual (84), 3) := (dec_at tkZ_16 (pc1 := 781) rfl rfl).1
theorem dw_784 : decode code 784 = .ok (.if_icmp .eq (717), 3) := (dec_at tkZ_16 (pc1 := 784) rfl rfl).1
theorem dw_787 : decode code 787 = .ok (.iconst (0), 1) := (dec_at tkZ_16 (pc1 := 787) rfl rfl).1
theorem dw_788 : decode code 788 = .ok (.ireturn, 1) := (dec_at tkZ_16 (pc1 := 788) rfl rfl).1
def pmZ_17 : List PE := [(789, 1, .aload_n (1), 0, 0, 0, 0),
  (790, 1, .aload_n (0), 0, 0, 0, 0),
  (791, 1, .iload_n (3), 0, 0, 0, 0),
  (792, 1, .iconst (1), 0, 0, 1, 0),
  (793, 1, .iadd, 0, 0, 0, 0),
  (794, 1, .iaload, 0, 0, 0, 0),
  (795, 3, .invokevirtual (85), 0, 0, 0, 0),
  (798, 1, .aload_n (2), 0, 0, 0, 0),
  (799, 1, .aload_n (0), 0, 0, 0, 0),
  (800, 1, .iload_n (3), 0, 0, 0, 0),
  (801, 1, .iconst (1), 0, 0, 1, 0),
  (802, 1, .iadd, 0, 0, 0, 0),
  (803, 1, .iaload, 0, 0, 0, 0),
  (804, 3, .invokevirtual (88), 0, 0, 0, 0),
  (807, 3, .if_icmp .eq (694), 1501, 0, 0, 0),
  (810, 1, .iconst (0), 0, 0, 0, 0),
  (811, 1, .ireturn, 0, 0, 0, 0)]
def mdZ_17 : Md := (x, code, 4, none, pmZ_17)
theorem tkZ_17 : Tm mdZ_17 := tab_of (o := 7) (by decide +kernel)
theorem dw_789 : decode code 789 = .ok (.aload_n (1), 1) := (dec_at tkZ_17 (pc1 := 789) rfl rfl).1
theorem dw_790 : decode code 790 = .ok (.aload_n (0), 1) := (dec_at tkZ_17 (pc1 := 790) rfl rfl).1
theorem dw_791 : decode code 791 = .ok (.iload_n (3), 1) := (dec_at tkZ_17 (pc1 := 791) rfl rfl).1
theorem dw_792 : decode code 792 = .ok (.iconst (1), 1) := (dec_at tkZ_17 (pc1 := 792) rfl rfl).1
theorem dw_793 : decode code 793 = .ok (.iadd, 1) := (dec_at tkZ_17 (pc1 := 793) rfl rfl).1
theorem dw_794 : decode code 794 = .ok (.iaload, 1) := (dec_at tkZ_17 (pc1 := 794) rfl rfl).1
theorem dw_795 : decode code 795 = .ok (.invokevirtual (85), 3) := (dec_at tkZ_17 (pc1 := 795) rfl rfl).1
theorem dw_798 : decode code 798 = .ok (.aload_n (2), 1) := (dec_at tkZ_17 (pc1 := 798) rfl rfl).1
theorem dw_799 : decode code 799 = .ok (.aload_n (0), 1) := (dec_at tkZ_17 (pc1 := 799) rfl rfl).1
theorem dw_800 : decode code 800 = .ok (.iload_n (3), 1) := (dec_at tkZ_17 (pc1 := 800) rfl rfl).1
theorem dw_801 : decode code 801 = .ok (.iconst (1), 1) := (dec_at tkZ_17 (pc1 := 801) rfl rfl).1
theorem dw_802 : decode code 802 = .ok (.iadd, 1) := (dec_at tkZ_17 (pc1 := 802) rfl rfl).1
theorem dw_803 : decode code 803 = .ok (.iaload, 1) := (dec_at tkZ_17 (pc1 := 803) rfl rfl).1
theorem dw_804 : decode code 804 = .ok (.invokevirtual (88), 3) := (dec_at tkZ_17 (pc1 := 804) rfl rfl).1
theorem dw_807 : decode code 807 = .ok (.if_icmp .eq (694), 3) := (dec_at tkZ_17 (pc1 := 807) rfl rfl).1
theorem dw_810 : decode code 810 = .ok (.iconst (0), 1) := (dec_at tkZ_17 (pc1 := 810) rfl rfl).1
theorem dw_811 : decode code 811 = .ok (.ireturn, 1) := (dec_at tkZ_17 (pc1 := 811) rfl rfl).1
def pmZ_18 : List PE := [(812, 1, .aload_n (1), 0, 0, 0, 0),
  (813, 3, .invokevirtual (89), 0, 0, 0, 0),
  (816, 1, .aload_n (2), 0, 0, 0, 0),
  (817, 3, .invokevirtual (93), 0, 0, 0, 0),
  (820, 3, .if_icmp .eq (681), 1501, 0, 0, 0),
  (823, 1, .iconst (0), 0, 0, 0, 0),
  (824, 1, .ireturn, 0, 0, 0, 0)]
def mdZ_18 : Md := (x, code, 4, none, pmZ_18)
theorem tkZ_18 : Tm mdZ_18 := tab_of (o := 7) (by decide +kernel)
theorem dw_812 : decode code 812 = .ok (.aload_n (1), 1) := (dec_at tkZ_18 (pc1 := 812) rfl rfl).1
theorem dw_813 : decode code 813 = .ok (.invokevirtual (89), 3) := (dec_at tkZ_18 (pc1 := 813) rfl rfl).1
theorem dw_816 : decode code 816 = .ok (.aload_n (2), 1) := (dec_at tkZ_18 (pc1 := 816) rfl rfl).1
theorem dw_817 : decode code 817 = .ok (.invokevirtual (93), 3) := (dec_at tkZ_18 (pc1 := 817) rfl rfl).1
theorem dw_820 : decode code 820 = .ok (.if_icmp .eq (681), 3) := (dec_at tkZ_18 (pc1 := 820) rfl rfl).1
theorem dw_823 : decode code 823 = .ok (.iconst (0), 1) := (dec_at tkZ_18 (pc1 := 823) rfl rfl).1
theorem dw_824 : decode code 824 = .ok (.ireturn, 1) := (dec_at tkZ_18 (pc1 := 824) rfl rfl).1
def pmZ_19 : List PE := [(825, 1, .aload_n (1), 0, 0, 0, 0),
  (826, 3, .invokevirtual (94), 0, 0, 0, 0),
  (829, 1, .aload_n (2), 0, 0, 0, 0),
  (830, 3, .invokevirtual (97), 0, 0, 0, 0),
  (833, 3, .if_icmp .eq (668), 1501, 0, 0, 0),
  (836, 1, .iconst (0), 0, 0, 0, 0),
  (837, 1, .ireturn, 0, 0, 0, 0)]
def mdZ_19 : Md := (x, code, 4, none, pmZ_19)
theorem tkZ_19 : Tm mdZ_19 := tab_of (o := 7) (by decide +kernel)
theorem dw_825 : decode code 825 = .ok (.aload_n (1), 1) := (dec_at tkZ_19 (pc1 := 825) rfl rfl).1
theorem dw_826 : decode code 826 = .ok (.invokevirtual (94), 3) := (dec_at tkZ_19 (pc1 := 826) rfl rfl).1
theorem dw_829 : decode code 829 = .ok (.aload_n (2), 1) := (dec_at tkZ_19 (pc1 := 829) rfl rfl).1
theorem dw_830 : decode code 830 = .ok (.invokevirtual (97), 3) := (dec_at tkZ_19 (pc1 := 830) rfl rfl).1
theorem dw_833 : decode code 833 = .ok (.if_icmp .eq (668), 3) := (dec_at tkZ_19 (pc1 := 833) rfl rfl).1
theorem dw_836 : decode code 836 = .ok (.iconst (0), 1) := (dec_at tkZ_19 (pc1 := 836) rfl rfl).1
theorem dw_837 : decode code 837 = .ok (.ireturn, 1) := (dec_at tkZ_19 (pc1 := 837) rfl rfl).1
def pmZ_20 : List PE := [(838, 1, .aload_n (1), 0, 0, 0, 0),
  (839, 1, .aload_n (0), 0, 0, 0, 0),
  (840, 1, .iload_n (3), 0, 0, 0, 0),
  (841, 1, .iconst (1), 0, 0, 1, 0),
  (842, 1, .iadd, 0, 0, 0, 0),
  (843, 1, .iaload, 0, 0, 0, 0),
  (844, 3, .invokevirtual (98), 0, 0, 0, 0),
  (847, 1, .aload_n (2), 0, 0, 0, 0),
  (848, 1, .aload_n (0), 0, 0, 0, 0),
  (849, 1, .iload_n (3), 0, 0, 0, 0),
  (850, 1, .iconst (1), 0, 0, 1, 0),
  (851, 1, .iadd, 0, 0, 0, 0),
  (852, 1, .iaload, 0, 0, 0, 0),
  (853, 3, .invokevirtual (101), 0, 0, 0, 0),
  (856, 3, .if_icmp .eq (645), 1501, 0, 0, 0),
  (859, 1, .iconst (0), 0, 0, 0, 0),
  (860, 1, .ireturn, 0, 0, 0, 0)]
def mdZ_20 : Md := (x, code, 4, none, pmZ_20)
theorem tkZ_20 : Tm mdZ_20 := tab_of (o := 7) (by decide +kernel)
theorem dw_838 : decode code 838 = .ok (.aload_n (1), 1) := (dec_at tkZ_20 (pc1 := 838) rfl rfl).1
theorem dw_839 : decode code 839 = .ok (.aload_n (0), 1) := (dec_at tkZ_20 (pc1 := 839) rfl rfl).1
theorem dw_840 : decode code 840 = .ok (.iload_n (3), 1) := (dec_at tkZ_20 (pc1 := 840) rfl rfl).1
theorem dw_841 : decode code 841 = .ok (.iconst (1), 1) := (dec_at tkZ_20 (pc1 := 841) rfl rfl).1
theorem dw_842 : decode code 842 = .ok (.iadd, 1) := (dec_at tkZ_20 (pc1 := 842) rfl rfl).1
theorem dw_843 : decode code 843 = .ok (.iaload, 1) := (dec_at tkZ_20 (pc1 := 843) rfl rfl).1
theorem dw_844 : decode code 844 = .ok (.invokevirtual (98), 3) := (dec_at tkZ_20 (pc1 := 844) rfl rfl).1
theorem dw_847 : decode code 847 = .ok (.aload_n (2), 1) := (dec_at tkZ_20 (pc1 := 847) rfl rfl).1
theorem dw_848 : decode code 848 = .ok (.aload_n (0), 1) := (dec_at tkZ_20 (pc1 := 848) rfl rfl).1
theorem dw_849 : decode code 849 = .ok (.iload_n (3), 1) := (dec_at tkZ_20 (pc1 := 849) rfl rfl).1
theorem dw_850 : decode code 850 = .ok (.iconst (1), 1) := (dec_at tkZ_20 (pc1 := 850) rfl rfl).1
theorem dw_851 : decode code 851 = .ok (.iadd, 1) := (dec_at tkZ_20 (pc1 := 851) rfl rfl).1
theorem dw_852 : decode code 852 = .ok (.iaload, 1) := (dec_at tkZ_20 (pc1 := 852) rfl rfl).1
theorem dw_853 : decode code 853 = .ok (.invokevirtual (101), 3) := (dec_at tkZ_20 (pc1 := 853) rfl rfl).1
theorem dw_856 : decode code 856 = .ok (.if_icmp .eq (645), 3) := (dec_at tkZ_20 (pc1 := 856) rfl rfl).1
theorem dw_859 : decode code 859 = .ok (.iconst (0), 1) := (dec_at tkZ_20 (pc1 := 859) rfl rfl).1
theorem dw_860 : decode code 860 = .ok (.ireturn, 1) := (dec_at tkZ_20 (pc1 := 860) rfl rfl).1
def pmZ_21 : List PE := [(861, 1, .aload_n (1), 0, 0, 0, 0),
  (862, 3, .invokevirtual (102), 0, 0, 0, 0),
  (865, 1, .aload_n (2), 0, 0, 0, 0),
  (866, 3, .invokevirtual (105), 0, 0, 0, 0),
  (869, 3, .if_icmp .eq (632), 1501, 0, 0, 0),
  (872, 1, .iconst (0), 0, 0, 0, 0),
  (873, 1, .ireturn, 0, 0, 0, 0)]
def mdZ_21 : Md := (x, code, 4, none, pmZ_21)
theorem tkZ_21 : Tm mdZ_21 := tab_of (o := 7) (by decide +kernel)
theorem dw_861 : decode code 861 = .ok (.aload_n (1), 1) := (dec_at tkZ_21 (pc1 := 861) rfl rfl).1
theorem dw_862 : decode code 862 = .ok (.invokevirtual (102), 3) := (dec_at tkZ_21 (pc1 := 862) rfl rfl).1
theorem dw_865 : decode code 865 = .ok (.aload_n (2), 1) := (dec_at tkZ_21 (pc1 := 865) rfl rfl).1
theorem dw_866 : decode code 866 = .ok (.invokevirtual (105), 3) := (dec_at tkZ_21 (pc1 := 866) rfl rfl).1
theorem dw_869 : decode code 869 = .ok (.if_icmp .eq (632), 3) := (dec_at tkZ_21 (pc1 := 869) rfl rfl).1
theorem dw_872 : decode code 872 = .ok (.iconst (0), 1) := (dec_at tkZ_21 (pc1 := 872) rfl rfl).1
theorem dw_873 : decode code 873 = .ok (.ireturn, 1) := (dec_at tkZ_21 (pc1 := 873) rfl rfl).1
def pmZ_22 : List PE := [(874, 1, .aload_n (1), 0, 0, 0, 0),
  (875, 1, .aload_n (0), 0, 0, 0, 0),
  (876, 1, .iload_n (3), 0, 0, 0, 0),
  (877, 1, .iconst (1), 0, 0, 1, 0),
  (878, 1, .iadd, 0, 0, 0, 0),
  (879, 1, .iaload, 0, 0, 0, 0),
  (880, 3, .invokevirtual (106), 0, 0, 0, 0),
  (883, 1, .aload_n (2), 0, 0, 0, 0),
  (884, 1, .aload_n (0), 0, 0, 0, 0),
  (885, 1, .iload_n (3), 0, 0, 0, 0),
  (886, 1, .iconst (1), 0, 0, 1, 0),
  (887, 1, .iadd, 0, 0, 0, 0),
  (888, 1, .iaload, 0, 0, 0, 0),
  (889, 3, .invokevirtual (109), 0, 0, 0, 0),
  (892, 3, .if_icmp .eq (609), 1501, 0, 0, 0),
  (895, 1, .iconst (0), 0, 0, 0, 0),
  (896, 1, .ireturn, 0, 0, 0, 0)]
def mdZ_22 : Md := (x, code, 4, none, pmZ_22)
theorem tkZ_22 : Tm mdZ_22 := tab_of (o := 7) (by decide +kernel)
theorem dw_874 : decode code 874 = .ok (.aload_n (1), 1) := (dec_at tkZ_22 (pc1 := 874) rfl rfl).1
theorem dw_875 : decode code 875 = .ok (.aload_n (0), 1) := (dec_at tkZ_22 (pc1 := 875) rfl rfl).1
theorem dw_876 : decode code 876 = .ok (.iload_n (3), 1) := (dec_at tkZ_22 (pc1 := 876) rfl rfl).1
theorem dw_877 : decode code 877 = .ok (.iconst (1), 1) := (dec_at tkZ_22 (pc1 := 877) rfl rfl).1
theorem dw_878 : decode code 878 = .ok (.iadd, 1) := (dec_at tkZ_22 (pc1 := 878) rfl rfl).1
theorem dw_879 : decode code 879 = .ok (.iaload, 1) := (dec_at tkZ_22 (pc1 := 879) rfl rfl).1
theorem dw_880 : decode code 880 = .ok (.invokevirtual (106), 3) := (dec_at tkZ_22 (pc1 := 880) rfl rfl).1
theorem dw_883 : decode code 883 = .ok (.aload_n (2), 1) := (dec_at tkZ_22 (pc1 := 883) rfl rfl).1
theorem dw_884 : decode code 884 = .ok (.aload_n (0), 1) := (dec_at tkZ_22 (pc1 := 884) rfl rfl).1
theorem dw_885 : decode code 885 = .ok (.iload_n (3), 1) := (dec_at tkZ_22 (pc1 := 885) rfl rfl).1
theorem dw_886 : decode code 886 = .ok (.iconst (1), 1) := (dec_at tkZ_22 (pc1 := 886) rfl rfl).1
theorem dw_887 : decode code 887 = .ok (.iadd, 1) := (dec_at tkZ_22 (pc1 := 887) rfl rfl).1
theorem dw_888 : decode code 888 = .ok (.iaload, 1) := (dec_at tkZ_22 (pc1 := 888) rfl rfl).1
theorem dw_889 : decode code 889 = .ok (.invokevirtual (109), 3) := (dec_at tkZ_22 (pc1 := 889) rfl rfl).1
theorem dw_892 : decode code 892 = .ok (.if_icmp .eq (609), 3) := (dec_at tkZ_22 (pc1 := 892) rfl rfl).1
theorem dw_895 : decode code 895 = .ok (.iconst (0), 1) := (dec_at tkZ_22 (pc1 := 895) rfl rfl).1
theorem dw_896 : decode code 896 = .ok (.ireturn, 1) := (dec_at tkZ_22 (pc1 := 896) rfl rfl).1
def pmZ_23 : List PE := [(897, 1, .aload_n (1), 0, 0, 0, 0),
  (898, 1, .aload_n (0), 0, 0, 0, 0),
  (899, 1, .iload_n (3), 0, 0, 0, 0),
  (900, 1, .iconst (1), 0, 0, 1, 0),
  (901, 1, .iadd, 0, 0, 0, 0),
  (902, 1, .iaload, 0, 0, 0, 0),
  (903, 3, .invokevirtual (110), 0, 0, 0, 0),
  (906, 1, .aload_n (2), 0, 0, 0, 0),
  (907, 1, .aload_n (0), 0, 0, 0, 0),
  (908, 1, .iload_n (3), 0, 0, 0, 0),
  (909, 1, .iconst (1), 0, 0, 1, 0),
  (910, 1, .iadd, 0, 0, 0, 0),
  (911, 1, .iaload, 0, 0, 0, 0),
  (912, 3, .invokevirtual (113), 0, 0, 0, 0),
  (915, 3, .if_icmp .eq (586), 1501, 0, 0, 0),
  (918, 1, .iconst (0), 0, 0, 0, 0),
  (919, 1, .ireturn, 0, 0, 0, 0)]
def mdZ_23 : Md := (x, code, 4, none, pmZ_23)
theorem tkZ_23 : Tm mdZ_23 := tab_of (o := 7) (by decide +kernel)
theorem dw_897 : decode code 897 = .ok (.aload_n (1), 1) := (dec_at tkZ_23 (pc1 := 897) rfl rfl).1
theorem dw_898 : decode code 898 = .ok (.aload_n (0), 1) := (dec_at tkZ_23 (pc1 := 898) rfl rfl).1
theorem dw_899 : decode code 899 = .ok (.iload_n (3), 1) := (dec_at tkZ_23 (pc1 := 899) rfl rfl).1
theorem dw_900 : decode code 900 = .ok (.iconst (1), 1) := (dec_at tkZ_23 (pc1 := 900) rfl rfl).1
theorem dw_901 : decode code 901 = .ok (.iadd, 1) := (dec_at tkZ_23 (pc1 := 901) rfl rfl).1
theorem dw_902 : decode code 902 = .ok (.iaload, 1) := (dec_at tkZ_23 (pc1 := 902) rfl rfl).1
theorem dw_903 : decode code 903 = .ok (.invokevirtual (110), 3) := (dec_at tkZ_23 (pc1 := 903) rfl rfl).1
theorem dw_906 : decode code 906 = .ok (.aload_n (2), 1) := (dec_at tkZ_23 (pc1 := 906) rfl rfl).1
theorem dw_907 : decode code 907 = .ok (.aload_n (0), 1) := (dec_at tkZ_23 (pc1 := 907) rfl rfl).1
theorem dw_908 : decode code 908 = .ok (.iload_n (3), 1) := (dec_at tkZ_23 (pc1 := 908) rfl rfl).1
theorem dw_909 : decode code 909 = .ok (.iconst (1), 1) := (dec_at tkZ_23 (pc1 := 909) rfl rfl).1
theorem dw_910 : decode code 910 = .ok (.iadd, 1) := (dec_at tkZ_23 (pc1 := 910) rfl rfl).1
theorem dw_911 : decode code 911 = .ok (.iaload, 1) := (dec_at tkZ_23 (pc1 := 911) rfl rfl).1
theorem dw_912 : decode code 912 = .ok (.invokevirtual (113), 3) := (dec_at tkZ_23 (pc1 := 912) rfl rfl).1
theorem dw_915 : decode code 915 = .ok (.if_icmp .eq (586), 3) := (dec_at tkZ_23 (pc1 := 915) rfl rfl).1
theorem dw_918 : decode code 918 = .ok (.iconst (0), 1) := (dec_at tkZ_23 (pc1 := 918) rfl rfl).1
theorem dw_919 : decode code 919 = .ok (.ireturn, 1) := (dec_at tkZ_23 (pc1 := 919) rfl rfl).1
def pmZ_24 : List PE := [(920, 1, .aload_n (1), 0, 0, 0, 0),
  (921, 1, .aload_n (0), 0, 0, 0, 0),
  (922, 1, .iload_n (3), 0, 0, 0, 0),
  (923, 1, .iconst (1), 0, 0, 1, 0),
  (924, 1, .iadd, 0, 0, 0, 0),
  (925, 1, .iaload, 0, 0, 0, 0),
  (926, 1, .aload_n (0), 0, 0, 0, 0),
  (927, 1, .iload_n (3), 0, 0, 0, 0),
  (928, 1, .iconst (2), 0, 0, 2, 0),
  (929, 1, .iadd, 0, 0, 0, 0),
  (930, 1, .iaload, 0, 0, 0, 0),
  (931, 3, .invokevirtual (114), 0, 0, 0, 0),
  (934, 1, .aload_n (2), 0, 0, 0, 0),
  (935, 1, .aload_n (0), 0, 0, 0, 0),
  (936, 1, .iload_n (3), 0, 0, 0, 0),
  (937, 1, .iconst (1), 0, 0, 1, 0),
  (938, 1, .iadd, 0, 0, 0, 0),
  (939, 1, .iaload, 0, 0, 0, 0),
  (940, 1, .aload_n (0), 0, 0, 0, 0),
  (941, 1, .iload_n (3), 0, 0, 0, 0),
  (942, 1, .iconst (2), 0, 0, 2, 0),
  (943, 1, .iadd, 0, 0, 0, 0),
  (944, 1, .iaload, 0, 0, 0, 0),
  (945, 3, .invokevirtual (117), 0, 0, 0, 0),
  (948, 3, .if_icmp .eq (553), 1501, 0, 0, 0),
  (951, 1, .iconst (0), 0, 0, 0, 0),
  (952, 1, .ireturn, 0, 0, 0, 0)]
def mdZ_24 : Md := (x, code, 4, none, pmZ_24)
theorem tkZ_24 : Tm mdZ_24 := tab_of (o := 7) (by decide +kernel)
theorem dw_920 : decode code 920 = .ok (.aload_n (1), 1) := (dec_at tkZ_24 (pc1 := 920) rfl rfl).1
theorem dw_921 : decode code 921 = .ok (.aload_n (0), 1) := (dec_at tkZ_24 (pc1 := 921) rfl rfl).1
theorem dw_922 : decode code 922 = .ok (.iload_n (3), 1) := (dec_at tkZ_24 (pc1 := 922) rfl rfl).1
theorem dw_923 : decode code 923 = .ok (.iconst (1), 1) := (dec_at tkZ_24 (pc1 := 923) rfl rfl).1
theorem dw_924 : decode code 924 = .ok (.iadd, 1) := (dec_at tkZ_24 (pc1 := 924) rfl rfl).1
theorem dw_925 : decode code 925 = .ok (.iaload, 1) := (dec_at tkZ_24 (pc1 := 925) rfl rfl).1
theorem dw_926 : decode code 926 = .ok (.aload_n (0), 1) := (dec_at tkZ_24 (pc1 := 926) rfl rfl).1
theorem dw_927 : decode code 927 = .ok (.iload_n (3), 1) := (dec_at tkZ_24 (pc1 := 927) rfl rfl).1
theorem dw_928 : decode code 928 = .ok (.iconst (2), 1) := (dec_at tkZ_24 (pc1 := 928) rfl rfl).1
theorem dw_929 : decode code 929 = .ok (.iadd, 1) := (dec_at tkZ_24 (pc1 := 929) rfl rfl).1
theorem dw_930 : decode code 930 = .ok (.iaload, 1) := (dec_at tkZ_24 (pc1 := 930) rfl rfl).1
theorem dw_931 : decode code 931 = .ok (.invokevirtual (114), 3) := (dec_at tkZ_24 (pc1 := 931) rfl rfl).1
theorem dw_934 : decode code 934 = .ok (.aload_n (2), 1) := (dec_at tkZ_24 (pc1 := 934) rfl rfl).1
theorem dw_935 : decode code 935 = .ok (.aload_n (0), 1) := (dec_at tkZ_24 (pc1 := 935) rfl rfl).1
theorem dw_936 : decode code 936 = .ok (.iload_n (3), 1) := (dec_at tkZ_24 (pc1 := 936) rfl rfl).1
theorem dw_937 : decode code 937 = .ok (.iconst (1), 1) := (dec_at tkZ_24 (pc1 := 937) rfl rfl).1
theorem dw_938 : decode code 938 = .ok (.iadd, 1) := (dec_at tkZ_24 (pc1 := 938) rfl rfl).1
theorem dw_939 : decode code 939 = .ok (.iaload, 1) := (dec_at tkZ_24 (pc1 := 939) rfl rfl).1
theorem dw_940 : decode code 940 = .ok (.aload_n (0), 1) := (dec_at tkZ_24 (pc1 := 940) rfl rfl).1
theorem dw_941 : decode code 941 = .ok (.iload_n (3), 1) := (dec_at tkZ_24 (pc1 := 941) rfl rfl).1
theorem dw_942 : decode code 942 = .ok (.iconst (2), 1) := (dec_at tkZ_24 (pc1 := 942) rfl rfl).1
theorem dw_943 : decode code 943 = .ok (.iadd, 1) := (dec_at tkZ_24 (pc1 := 943) rfl rfl).1
theorem dw_944 : decode code 944 = .ok (.iaload, 1) := (dec_at tkZ_24 (pc1 := 944) rfl rfl).1
theorem dw_945 : decode code 945 = .ok (.invokevirtual (117), 3) := (dec_at tkZ_24 (pc1 := 945) rfl rfl).1
theorem dw_948 : decode code 948 = .ok (.if_icmp .eq (553), 3) := (dec_at tkZ_24 (pc1 := 948) rfl rfl).1
theorem dw_951 : decode code 951 = .ok (.iconst (0), 1) := (dec_at tkZ_24 (pc1 := 951) rfl rfl).1
theorem dw_952 : decode code 952 = .ok (.ireturn, 1) := (dec_at tkZ_24 (pc1 := 952) rfl rfl).1
def pmZ_25 : List PE := [(953, 1, .aload_n (1), 0, 0, 0, 0),
  (954, 1, .aload_n (0), 0, 0, 0, 0),
  (955, 1, .iload_n (3), 0, 0, 0, 0),
  (956, 1, .iconst (1), 0, 0, 1, 0),
  (957, 1, .iadd, 0, 0, 0, 0),
  (958, 1, .iaload, 0, 0, 0, 0),
  (959, 1, .aload_n (0), 0, 0, 0, 0),
  (960, 1, .iload_n (3), 0, 0, 0, 0),
  (961, 1, .iconst (2), 0, 0, 2, 0),
  (962, 1, .iadd, 0, 0, 0, 0),
  (963, 1, .iaload, 0, 0, 0, 0),
  (964, 3, .invokevirtual (118), 0, 0, 0, 0),
  (967, 1, .aload_n (2), 0, 0, 0, 0),
  (968, 1, .aload_n (0), 0, 0, 0, 0),
  (969, 1, .iload_n (3), 0, 0, 0, 0),
  (970, 1, .iconst (1), 0, 0, 1, 0),
  (971, 1, .iadd, 0, 0, 0, 0),
  (972, 1, .iaload, 0, 0, 0, 0),
  (973, 1, .aload_n (0), 0, 0, 0, 0),
  (974, 1, .iload_n (3), 0, 0, 0, 0),
  (975, 1, .iconst (2), 0, 0, 2, 0),
  (976, 1, .iadd, 0, 0, 0, 0),
  (977, 1, .iaload, 0, 0, 0, 0),
  (978, 3, .invokevirtual (121), 0, 0, 0, 0),
  (981, 3, .if_icmp .eq (520), 1501, 0, 0, 0),
  (984, 1, .iconst (0), 0, 0, 0, 0),
  (985, 1, .ireturn, 0, 0, 0, 0)]
def mdZ_25 : Md := (x, code, 4, none, pmZ_25)
theorem tkZ_25 : Tm mdZ_25 := tab_of (o := 7) (by decide +kernel)
theorem dw_953 : decode code 953 = .ok (.aload_n (1), 1) := (dec_at tkZ_25 (pc1 := 953) rfl rfl).1
theorem dw_954 : decode code 954 = .ok (.aload_n (0), 1) := (dec_at tkZ_25 (pc1 := 954) rfl rfl).1
theorem dw_955 : decode code 955 = .ok (.iload_n (3), 1) := (dec_at tkZ_25 (pc1 := 955) rfl rfl).1
theorem dw_956 : decode code 956 = .ok (.iconst (1), 1) := (dec_at tkZ_25 (pc1 := 956) rfl rfl).1
theorem dw_957 : decode code 957 = .ok (.iadd, 1) := (dec_at tkZ_25 (pc1 := 957) rfl rfl).1
theorem dw_958 : decode code 958 = .ok (.iaload, 1) := (dec_at tkZ_25 (pc1 := 958) rfl rfl).1
theorem dw_959 : decode code 959 = .ok (.aload_n (0), 1) := (dec_at tkZ_25 (pc1 := 959) rfl rfl).1
theorem dw_960 : decode code 960 = .ok (.iload_n (3), 1) := (dec_at tkZ_25 (pc1 := 960) rfl rfl).1
theorem dw_961 : decode code 961 = .ok (.iconst (2), 1) := (dec_at tkZ_25 (pc1 := 961) rfl rfl).1
theorem dw_962 : decode code 962 = .ok (.iadd, 1) := (dec_at tkZ_25 (pc1 := 962) rfl rfl).1
theorem dw_963 : decode code 963 = .ok (.iaload, 1) := (dec_at tkZ_25 (pc1 := 963) rfl rfl).1
theorem dw_964 : decode code 964 = .ok (.invokevirtual (118), 3) := (dec_at tkZ_25 (pc1 := 964) rfl rfl).1
theorem dw_967 : decode code 967 = .ok (.aload_n (2), 1) := (dec_at tkZ_25 (pc1 := 967) rfl rfl).1
theorem dw_968 : decode code 968 = .ok (.aload_n (0), 1) := (dec_at tkZ_25 (pc1 := 968) rfl rfl).1
theorem dw_969 : decode code 969 = .ok (.iload_n (3), 1) := (dec_at tkZ_25 (pc1 := 969) rfl rfl).1
theorem dw_970 : decode code 970 = .ok (.iconst (1), 1) := (dec_at tkZ_25 (pc1 := 970) rfl rfl).1
theorem dw_971 : decode code 971 = .ok (.iadd, 1) := (dec_at tkZ_25 (pc1 := 971) rfl rfl).1
theorem dw_972 : decode code 972 = .ok (.iaload, 1) := (dec_at tkZ_25 (pc1 := 972) rfl rfl).1
theorem dw_973 : decode code 973 = .ok (.aload_n (0), 1) := (dec_at tkZ_25 (pc1 := 973) rfl rfl).1
theorem dw_974 : decode code 974 = .ok (.iload_n (3), 1) := (dec_at tkZ_25 (pc1 := 974) rfl rfl).1
theorem dw_975 : decode code 975 = .ok (.iconst (2), 1) := (dec_at tkZ_25 (pc1 := 975) rfl rfl).1
theorem dw_976 : decode code 976 = .ok (.iadd, 1) := (dec_at tkZ_25 (pc1 := 976) rfl rfl).1
theorem dw_977 : decode code 977 = .ok (.iaload, 1) := (dec_at tkZ_25 (pc1 := 977) rfl rfl).1
theorem dw_978 : decode code 978 = .ok (.invokevirtual (121), 3) := (dec_at tkZ_25 (pc1 := 978) rfl rfl).1
theorem dw_981 : decode code 981 = .ok (.if_icmp .eq (520), 3) := (dec_at tkZ_25 (pc1 := 981) rfl rfl).1
theorem dw_984 : decode code 984 = .ok (.iconst (0), 1) := (dec_at tkZ_25 (pc1 := 984) rfl rfl).1
theorem dw_985 : decode code 985 = .ok (.ireturn, 1) := (dec_at tkZ_25 (pc1 := 985) rfl rfl).1
def pmZ_26 : List PE := [(986, 1, .aload_n (1), 0, 0, 0, 0),
  (987, 1, .aload_n (0), 0, 0, 0, 0),
  (988, 1, .iload_n (3), 0, 0, 0, 0),
  (989, 1, .iconst (1), 0, 0, 1, 0),
  (990, 1, .iadd, 0, 0, 0, 0),
  (991, 1, .iaload, 0, 0, 0, 0),
  (992, 3, .invokevirtual (122), 0, 0, 0, 0),
  (995, 1, .aload_n (2), 0, 0, 0, 0),
  (996, 1, .aload_n (0), 0, 0, 0, 0),
  (997, 1, .iload_n (3), 0, 0, 0, 0),
  (998, 1, .iconst (1), 0, 0, 1, 0),
  (999, 1, .iadd, 0, 0, 0, 0),
  (1000, 1, .iaload, 0, 0, 0, 0),
  (1001, 3, .invokevirtual (125), 0, 0, 0, 0),
  (1004, 3, .if_icmp .eq (497), 1501, 0, 0, 0),
  (1007, 1, .iconst (0), 0, 0, 0, 0),
  (1008, 1, .ireturn, 0, 0, 0, 0)]
def mdZ_26 : Md := (x, code, 4, none, pmZ_26)
theorem tkZ_26 : Tm mdZ_26 := tab_of (o := 7) (by decide +kernel)
theorem dw_986 : decode code 986 = .ok (.aload_n (1), 1) := (dec_at tkZ_26 (pc1 := 986) rfl rfl).1
theorem dw_987 : decode code 987 = .ok (.aload_n (0), 1) := (dec_at tkZ_26 (pc1 := 987) rfl rfl).1
theorem dw_988 : decode code 988 = .ok (.iload_n (3), 1) := (dec_at tkZ_26 (pc1 := 988) rfl rfl).1
theorem dw_989 : decode code 989 = .ok (.iconst (1), 1) := (dec_at tkZ_26 (pc1 := 989) rfl rfl).1
theorem dw_990 : decode code 990 = .ok (.iadd, 1) := (dec_at tkZ_26 (pc1 := 990) rfl rfl).1
theorem dw_991 : decode code 991 = .ok (.iaload, 1) := (dec_at tkZ_26 (pc1 := 991) rfl rfl).1
theorem dw_992 : decode code 992 = .ok (.invokevirtual (122), 3) := (dec_at tkZ_26 (pc1 := 992) rfl rfl).1
theorem dw_995 : decode code 995 = .ok (.aload_n (2), 1) := (dec_at tkZ_26 (pc1 := 995) rfl rfl).1
theorem dw_996 : decode code 996 = .ok (.aload_n (0), 1) := (dec_at tkZ_26 (pc1 := 996) rfl rfl).1
theorem dw_997 : decode code 997 = .ok (.iload_n (3), 1) := (dec_at tkZ_26 (pc1 := 997) rfl rfl).1
theorem dw_998 : decode code 998 = .ok (.iconst (1), 1) := (dec_at tkZ_26 (pc1 := 998) rfl rfl).1
theorem dw_999 : decode code 999 = .ok (.iadd, 1) := (dec_at tkZ_26 (pc1 := 999) rfl rfl).1
theorem dw_1000 : decode code 1000 = .ok (.iaload, 1) := (dec_at tkZ_26 (pc1 := 1000) rfl rfl).1
theorem dw_1001 : decode code 1001 = .ok (.invokevirtual (125), 3) := (dec_at tkZ_26 (pc1 := 1001) rfl rfl).1
theorem dw_1004 : decode code 1004 = .ok (.if_icmp .eq (497), 3) := (dec_at tkZ_26 (pc1 := 1004) rfl rfl).1
theorem dw_1007 : decode code 1007 = .ok (.iconst (0), 1) := (dec_at tkZ_26 (pc1 := 1007) rfl rfl).1
theorem dw_1008 : decode code 1008 = .ok (.ireturn, 1) := (dec_at tkZ_26 (pc1 := 1008) rfl rfl).1
def pmZ_27 : List PE := [(1009, 1, .aload_n (1), 0, 0, 0, 0),
  (1010, 1, .aload_n (0), 0, 0, 0, 0),
  (1011, 1, .iload_n (3), 0, 0, 0, 0),
  (1012, 1, .iconst (1), 0, 0, 1, 0),
  (1013, 1, .iadd, 0, 0, 0, 0),
  (1014, 1, .iaload, 0, 0, 0, 0),
  (1015, 3, .invokevirtual (126), 0, 0, 0, 0),
  (1018, 1, .aload_n (2), 0, 0, 0, 0),
  (1019, 1, .aload_n (0), 0, 0, 0, 0),
  (1020, 1, .iload_n (3), 0, 0, 0, 0),
  (1021, 1, .iconst (1), 0, 0, 1, 0),
  (1022, 1, .iadd, 0, 0, 0, 0),
  (1023, 1, .iaload, 0, 0, 0, 0),
  (1024, 3, .invokevirtual (129), 0, 0, 0, 0),
  (1027, 3, .if_icmp .eq (474), 1501, 0, 0, 0),
  (1030, 1, .iconst (0), 0, 0, 0, 0),
  (1031, 1, .ireturn, 0, 0, 0, 0)]
def mdZ_27 : Md := (x, code, 4, none, pmZ_27)
theorem tkZ_27 : Tm mdZ_27 := tab_of (o := 7) (by decide +kernel)
theorem dw_1009 : decode code 1009 = .ok (.aload_n (1), 1) := (dec_at tkZ_27 (pc1 := 1009) rfl rfl).1
theorem dw_1010 : decode code 1010 = .ok (.aload_n (0), 1) := (dec_at tkZ_27 (pc1 := 1010) rfl rfl).1
theorem dw_1011 : decode code 1011 = .ok (.iload_n (3), 1) := (dec_at tkZ_27 (pc1 := 1011) rfl rfl).1
theorem dw_1012 : decode code 1012 = .ok (.iconst (1), 1) := (dec_at tkZ_27 (pc1 := 1012) rfl rfl).1
theorem dw_1013 : decode code 1013 = .ok (.iadd, 1) := (dec_at tkZ_27 (pc1 := 1013) rfl rfl).1
theorem dw_1014 : decode code 1014 = .ok (.iaload, 1) := (dec_at tkZ_27 (pc1 := 1014) rfl rfl).1
theorem dw_1015 : decode code 1015 = .ok (.invokevirtual (126), 3) := (dec_at tkZ_27 (pc1 := 1015) rfl rfl).1
theorem dw_1018 : decode code 1018 = .ok (.aload_n (2), 1) := (dec_at tkZ_27 (pc1 := 1018) rfl rfl).1
theorem dw_1019 : decode code 1019 = .ok (.aload_n (0), 1) := (dec_at tkZ_27 (pc1 := 1019) rfl rfl).1
theorem dw_1020 : decode code 1020 = .ok (.iload_n (3), 1) := (dec_at tkZ_27 (pc1 := 1020) rfl rfl).1
theorem dw_1021 : decode code 1021 = .ok (.iconst (1), 1) := (dec_at tkZ_27 (pc1 := 1021) rfl rfl).1
theorem dw_1022 : decode code 1022 = .ok (.iadd, 1) := (dec_at tkZ_27 (pc1 := 1022) rfl rfl).1
theorem dw_1023 : decode code 1023 = .ok (.iaload, 1) := (dec_at tkZ_27 (pc1 := 1023) rfl rfl).1
theorem dw_1024 : decode code 1024 = .ok (.invokevirtual (129), 3) := (dec_at tkZ_27 (pc1 := 1024) rfl rfl).1
theorem dw_1027 : decode code 1027 = .ok (.if_icmp .eq (474), 3) := (dec_at tkZ_27 (pc1 := 1027) rfl rfl).1
theorem dw_1030 : decode code 1030 = .ok (.iconst (0), 1) := (dec_at tkZ_27 (pc1 := 1030) rfl rfl).1
theorem dw_1031 : decode code 1031 = .ok (.ireturn, 1) := (dec_at tkZ_27 (pc1 := 1031) rfl rfl).1
def pmZ_28 : List PE := [(1032, 1, .aload_n (1), 0, 0, 0, 0),
  (1033, 3, .invokevirtual (130), 0, 0, 0, 0),
  (1036, 1, .aload_n (2), 0, 0, 0, 0),
  (1037, 3, .invokevirtual (133), 0, 0, 0, 0),
  (1040, 3, .if_icmp .eq (461), 1501, 0, 0, 0),
  (1043, 1, .iconst (0), 0, 0, 0, 0),
  (1044, 1, .ireturn, 0, 0, 0, 0)]
def mdZ_28 : Md := (x, code, 4, none, pmZ_28)
theorem tkZ_28 : Tm mdZ_28 := tab_of (o := 7) (by decide +kernel)
theorem dw_1032 : decode code 1032 = .ok (.aload_n (1), 1) := (dec_at tkZ_28 (pc1 := 1032) rfl rfl).1
theorem dw_1033 : decode code 1033 = .ok (.invokevirtual (130), 3) := (dec_at tkZ_28 (pc1 := 1033) rfl rfl).1
theorem dw_1036 : decode code 1036 = .ok (.aload_n (2), 1) := (dec_at tkZ_28 (pc1 := 1036) rfl rfl).1
theorem dw_1037 : decode code 1037 = .ok (.invokevirtual (133), 3) := (dec_at tkZ_28 (pc1 := 1037) rfl rfl).1
theorem dw_1040 : decode code 1040 = .ok (.if_icmp .eq (461), 3) := (dec_at tkZ_28 (pc1 := 1040) rfl rfl).1
theorem dw_1043 : decode code 1043 = .ok (.iconst (0), 1) := (dec_at tkZ_28 (pc1 := 1043) rfl rfl).1
theorem dw_1044 : decode code 1044 = .ok (.ireturn, 1) := (dec_at tkZ_28 (pc1 := 1044) rfl rfl).1
def pmZ_29 : List PE := [(1045, 1, .aload_n (1), 0, 0, 0, 0),
  (1046, 1, .aload_n (0), 0, 0, 0, 0),
  (1047, 1, .iload_n (3), 0, 0, 0, 0),
  (1048, 1, .iconst (1), 0, 0, 1, 0),
  (1049, 1, .iadd, 0, 0, 0, 0),
  (1050, 1, .iaload, 0, 0, 0, 0),
  (1051, 3, .invokevirtual (134), 0, 0, 0, 0),
  (1054, 1, .aload_n (2), 0, 0, 0, 0),
  (1055, 1, .aload_n (0), 0, 0, 0, 0),
  (1056, 1, .iload_n (3), 0, 0, 0, 0),
  (1057, 1, .iconst (1), 0, 0, 1, 0),
  (1058, 1, .iadd, 0, 0, 0, 0),
  (1059, 1, .iaload, 0, 0, 0, 0),
  (1060, 3, .invokevirtual (137), 0, 0, 0, 0),
  (1063, 3, .if_icmp .eq (438), 1501, 0, 0, 0),
  (1066, 1, .iconst (0), 0, 0, 0, 0),
  (1067, 1, .ireturn, 0, 0, 0, 0)]
def mdZ_29 : Md := (x, code, 4, none, pmZ_29)
theorem tkZ_29 : Tm mdZ_29 := tab_of (o := 7) (by decide +kernel)
theorem dw_1045 : decode code 1045 = .ok (.aload_n (1), 1) := (dec_at tkZ_29 (pc1 := 1045) rfl rfl).1
theorem dw_1046 : decode code 1046 = .ok (.aload_n (0), 1) := (dec_at tkZ_29 (pc1 := 1046) rfl rfl).1
theorem dw_1047 : decode code 1047 = .ok (.iload_n (3), 1) := (dec_at tkZ_29 (pc1 := 1047) rfl rfl).1
theorem dw_1048 : decode code 1048 = .ok (.iconst (1), 1) := (dec_at tkZ_29 (pc1 := 1048) rfl rfl).1
theorem dw_1049 : decode code 1049 = .ok (.iadd, 1) := (dec_at tkZ_29 (pc1 := 1049) rfl rfl).1
theorem dw_1050 : decode code 1050 = .ok (.iaload, 1) := (dec_at tkZ_29 (pc1 := 1050) rfl rfl).1
theorem dw_1051 : decode code 1051 = .ok (.invokevirtual (134), 3) := (dec_at tkZ_29 (pc1 := 1051) rfl rfl).1
theorem dw_1054 : decode code 1054 = .ok (.aload_n (2), 1) := (dec_at tkZ_29 (pc1 := 1054) rfl rfl).1
theorem dw_1055 : decode code 1055 = .ok (.aload_n (0), 1) := (dec_at tkZ_29 (pc1 := 1055) rfl rfl).1
theorem dw_1056 : decode code 1056 = .ok (.iload_n (3), 1) := (dec_at tkZ_29 (pc1 := 1056) rfl rfl).1
theorem dw_1057 : decode code 1057 = .ok (.iconst (1), 1) := (dec_at tkZ_29 (pc1 := 1057) rfl rfl).1
theorem dw_1058 : decode code 1058 = .ok (.iadd, 1) := (dec_at tkZ_29 (pc1 := 1058) rfl rfl).1
theorem dw_1059 : decode code 1059 = .ok (.iaload, 1) := (dec_at tkZ_29 (pc1 := 1059) rfl rfl).1
theorem dw_1060 : decode code 1060 = .ok (.invokevirtual (137), 3) := (dec_at tkZ_29 (pc1 := 1060) rfl rfl).1
theorem dw_1063 : decode code 1063 = .ok (.if_icmp .eq (438), 3) := (dec_at tkZ_29 (pc1 := 1063) rfl rfl).1
theorem dw_1066 : decode code 1066 = .ok (.iconst (0), 1) := (dec_at tkZ_29 (pc1 := 1066) rfl rfl).1
theorem dw_1067 : decode code 1067 = .ok (.ireturn, 1) := (dec_at tkZ_29 (pc1 := 1067) rfl rfl).1
def pmZ_30 : List PE := [(1068, 1, .aload_n (1), 0, 0, 0, 0),
  (1069, 3, .invokevirtual (138), 0, 0, 0, 0),
  (1072, 1, .aload_n (2), 0, 0, 0, 0),
  (1073, 3, .invokevirtual (141), 0, 0, 0, 0),
  (1076, 3, .if_icmp .eq (425), 1501, 0, 0, 0),
  (1079, 1, .iconst (0), 0, 0, 0, 0),
  (1080, 1, .ireturn, 0, 0, 0, 0)]
def mdZ_30 : Md := (x, code, 4, none, pmZ_30)
theorem tkZ_30 : Tm mdZ_30 := tab_of (o := 7) (by decide +kernel)
theorem dw_1068 : decode code 1068 = .ok (.aload_n (1), 1) := (dec_at tkZ_30 (pc1 := 1068) rfl rfl).1
theorem dw_1069 : decode code 1069 = .ok (.invokevirtual (138), 3) := (dec_at tkZ_30 (pc1 := 1069) rfl rfl).1
theorem dw_1072 : decode code 1072 = .ok (.aload_n (2), 1) := (dec_at tkZ_30 (pc1 := 1072) rfl rfl).1
theorem dw_1073 : decode code 1073 = .ok (.invokevirtual (141), 3) := (dec_at tkZ_30 (pc1 := 1073) rfl rfl).1
theorem dw_1076 : decode code 1076 = .ok (.if_icmp .eq (425), 3) := (dec_at tkZ_30 (pc1 := 1076) rfl rfl).1
theorem dw_1079 : decode code 1079 = .ok (.iconst (0), 1) := (dec_at tkZ_30 (pc1 := 1079) rfl rfl).1
theorem dw_1080 : decode code 1080 = .ok (.ireturn, 1) := (dec_at tkZ_30 (pc1 := 1080) rfl rfl).1
def pmZ_31 : List PE := [(1081, 1, .aload_n (1), 0, 0, 0, 0),
  (1082, 1, .aload_n (0), 0, 0, 0, 0),
  (1083, 1, .iload_n (3), 0, 0, 0, 0),
  (1084, 1, .iconst (1), 0, 0, 1, 0),
  (1085, 1, .iadd, 0, 0, 0, 0),
  (1086, 1, .iaload, 0, 0, 0, 0),
  (1087, 3, .invokevirtual (142), 0, 0, 0, 0),
  (1090, 1, .aload_n (2), 0, 0, 0, 0),
  (1091, 1, .aload_n (0), 0, 0, 0, 0),
  (1092, 1, .iload_n (3), 0, 0, 0, 0),
  (1093, 1, .iconst (1), 0, 0, 1, 0),
  (1094, 1, .iadd, 0, 0, 0, 0),
  (1095, 1, .iaload, 0, 0, 0, 0),
  (1096, 3, .invokevirtual (145), 0, 0, 0, 0),
  (1099, 3, .if_icmp .eq (402), 1501, 0, 0, 0),
  (1102, 1, .iconst (0), 0, 0, 0, 0),
  (1103, 1, .ireturn, 0, 0, 0, 0)]
def mdZ_31 : Md := (x, code, 4, none, pmZ_31)
theorem tkZ_31 : Tm mdZ_31 := tab_of (o := 7) (by decide +kernel)
theorem dw_1081 : decode code 1081 = .ok (.aload_n (1), 1) := (dec_at tkZ_31 (pc1 := 1081) rfl rfl).1
theorem dw_1082 : decode code 1082 = .ok (.aload_n (0), 1) := (dec_at tkZ_31 (pc1 := 1082) rfl rfl).1
theorem dw_1083 : decode code 1083 = .ok (.iload_n (3), 1) := (dec_at tkZ_31 (pc1 := 1083) rfl rfl).1
theorem dw_1084 : decode code 1084 = .ok (.iconst (1), 1) := (dec_at tkZ_31 (pc1 := 1084) rfl rfl).1
theorem dw_1085 : decode code 1085 = .ok (.iadd, 1) := (dec_at tkZ_31 (pc1 := 1085) rfl rfl).1
theorem dw_1086 : decode code 1086 = .ok (.iaload, 1) := (dec_at tkZ_31 (pc1 := 1086) rfl rfl).1
theorem dw_1087 : decode code 1087 = .ok (.invokevirtual (142), 3) := (dec_at tkZ_31 (pc1 := 1087) rfl rfl).1
theorem dw_1090 : decode code 1090 = .ok (.aload_n (2), 1) := (dec_at tkZ_31 (pc1 := 1090) rfl rfl).1
theorem dw_1091 : decode code 1091 = .ok (.aload_n (0), 1) := (dec_at tkZ_31 (pc1 := 1091) rfl rfl).1
theorem dw_1092 : decode code 1092 = .ok (.iload_n (3), 1) := (dec_at tkZ_31 (pc1 := 1092) rfl rfl).1
theorem dw_1093 : decode code 1093 = .ok (.iconst (1), 1) := (dec_at tkZ_31 (pc1 := 1093) rfl rfl).1
theorem dw_1094 : decode code 1094 = .ok (.iadd, 1) := (dec_at tkZ_31 (pc1 := 1094) rfl rfl).1
theorem dw_1095 : decode code 1095 = .ok (.iaload, 1) := (dec_at tkZ_31 (pc1 := 1095) rfl rfl).1
theorem dw_1096 : decode code 1096 = .ok (.invokevirtual (145), 3) := (dec_at tkZ_31 (pc1 := 1096) rfl rfl).1
theorem dw_1099 : decode code 1099 = .ok (.if_icmp .eq (402), 3) := (dec_at tkZ_31 (pc1 := 1099) rfl rfl).1
theorem dw_1102 : decode code 1102 = .ok (.iconst (0), 1) := (dec_at tkZ_31 (pc1 := 1102) rfl rfl).1
theorem dw_1103 : decode code 1103 = .ok (.ireturn, 1) := (dec_at tkZ_31 (pc1 := 1103) rfl rfl).1
def pmZ_32 : List PE := [(1104, 1, .aload_n (1), 0, 0, 0, 0),
  (1105, 1, .aload_n (0), 0, 0, 0, 0),
  (1106, 1, .iload_n (3), 0, 0, 0, 0),
  (1107, 1, .iconst (1), 0, 0, 1, 0),
  (1108, 1, .iadd, 0, 0, 0, 0),
  (1109, 1, .iaload, 0, 0, 0, 0),
  (1110, 3, .invokevirtual (146), 0, 0, 0, 0),
  (1113, 1, .aload_n (2), 0, 0, 0, 0),
  (1114, 1, .aload_n (0), 0, 0, 0, 0),
  (1115, 1, .iload_n (3), 0, 0, 0, 0),
  (1116, 1, .iconst (1), 0, 0, 1, 0),
  (1117, 1, .iadd, 0, 0, 0, 0),
  (1118, 1, .iaload, 0, 0, 0, 0),
  (1119, 3, .invokevirtual (149), 0, 0, 0, 0),
  (1122, 3, .if_icmp .eq (379), 1501, 0, 0, 0),
  (1125, 1, .iconst (0), 0, 0, 0, 0),
  (1126, 1, .ireturn, 0, 0, 0, 0)]
def mdZ_32 : Md := (x, code, 4, none, pmZ_32)
theorem tkZ_32 : Tm mdZ_32 := tab_of (o := 7) (by decide +kernel)
theorem dw_1104 : decode code 1104 = .ok (.aload_n (1), 1) := (dec_at tkZ_32 (pc1 := 1104) rfl rfl).1
theorem dw_1105 : decode code 1105 = .ok (.aload_n (0), 1) := (dec_at tkZ_32 (pc1 := 1105) rfl rfl).1
theorem dw_1106 : decode code 1106 = .ok (.iload_n (3), 1) := (dec_at tkZ_32 (pc1 := 1106) rfl rfl).1
theorem dw_1107 : decode code 1107 = .ok (.iconst (1), 1) := (dec_at tkZ_32 (pc1 := 1107) rfl rfl).1
theorem dw_1108 : decode code 1108 = .ok (.iadd, 1) := (dec_at tkZ_32 (pc1 := 1108) rfl rfl).1
theorem dw_1109 : decode code 1109 = .ok (.iaload, 1) := (dec_at tkZ_32 (pc1 := 1109) rfl rfl).1
theorem dw_1110 : decode code 1110 = .ok (.invokevirtual (146), 3) := (dec_at tkZ_32 (pc1 := 1110) rfl rfl).1
theorem dw_1113 : decode code 1113 = .ok (.aload_n (2), 1) := (dec_at tkZ_32 (pc1 := 1113) rfl rfl).1
theorem dw_1114 : decode code 1114 = .ok (.aload_n (0), 1) := (dec_at tkZ_32 (pc1 := 1114) rfl rfl).1
theorem dw_1115 : decode code 1115 = .ok (.iload_n (3), 1) := (dec_at tkZ_32 (pc1 := 1115) rfl rfl).1
theorem dw_1116 : decode code 1116 = .ok (.iconst (1), 1) := (dec_at tkZ_32 (pc1 := 1116) rfl rfl).1
theorem dw_1117 : decode code 1117 = .ok (.iadd, 1) := (dec_at tkZ_32 (pc1 := 1117) rfl rfl).1
theorem dw_1118 : decode code 1118 = .ok (.iaload, 1) := (dec_at tkZ_32 (pc1 := 1118) rfl rfl).1
theorem dw_1119 : decode code 1119 = .ok (.invokevirtual (149), 3) := (dec_at tkZ_32 (pc1 := 1119) rfl rfl).1
theorem dw_1122 : decode code 1122 = .ok (.if_icmp .eq (379), 3) := (dec_at tkZ_32 (pc1 := 1122) rfl rfl).1
theorem dw_1125 : decode code 1125 = .ok (.iconst (0), 1) := (dec_at tkZ_32 (pc1 := 1125) rfl rfl).1
theorem dw_1126 : decode code 1126 = .ok (.ireturn, 1) := (dec_at tkZ_32 (pc1 := 1126) rfl rfl).1
def pmZ_33 : List PE := [(1127, 1, .aload_n (1), 0, 0, 0, 0),
  (1128, 3, .invokevirtual (150), 0, 0, 0, 0),
  (1131, 1, .aload_n (2), 0, 0, 0, 0),
  (1132, 3, .invokevirtual (153), 0, 0, 0, 0),
  (1135, 3, .if_icmp .eq (366), 1501, 0, 0, 0),
  (1138, 1, .iconst (0), 0, 0, 0, 0),
  (1139, 1, .ireturn, 0, 0, 0, 0)]
def mdZ_33 : Md := (x, code, 4, none, pmZ_33)
theorem tkZ_33 : Tm mdZ_33 := tab_of (o := 7) (by decide +kernel)
theorem dw_1127 : decode code 1127 = .ok (.aload_n (1), 1) := (dec_at tkZ_33 (pc1 := 1127) rfl rfl).1
theorem dw_1128 : decode code 1128 = .ok (.invokevirtual (150), 3) := (dec_at tkZ_33 (pc1 := 1128) rfl rfl).1
theorem dw_1131 : decode code 1131 = .ok (.aload_n (2), 1) := (dec_at tkZ_33 (pc1 := 1131) rfl rfl).1
theorem dw_1132 : decode code 1132 = .ok (.invokevirtual (153), 3) := (dec_at tkZ_33 (pc1 := 1132) rfl rfl).1
theorem dw_1135 : decode code 1135 = .ok (.if_icmp .eq (366), 3) := (dec_at tkZ_33 (pc1 := 1135) rfl rfl).1
theorem dw_1138 : decode code 1138 = .ok (.iconst (0), 1) := (dec_at tkZ_33 (pc1 := 1138) rfl rfl).1
theorem dw_1139 : decode code 1139 = .ok (.ireturn, 1) := (dec_at tkZ_33 (pc1 := 1139) rfl rfl).1
def pmZ_34 : List PE := [(1140, 1, .aload_n (1), 0, 0, 0, 0),
  (1141, 3, .invokevirtual (154), 0, 0, 0, 0),
  (1144, 1, .aload_n (2), 0, 0, 0, 0),
  (1145, 3, .invokevirtual (157), 0, 0, 0, 0),
  (1148, 3, .if_icmp .eq (353), 1501, 0, 0, 0),
  (1151, 1, .iconst (0), 0, 0, 0, 0),
  (1152, 1, .ireturn, 0, 0, 0, 0)]
def mdZ_34 : Md := (x, code, 4, none, pmZ_34)
theorem tkZ_34 : Tm mdZ_34 := tab_of (o := 7) (by decide +kernel)
theorem dw_1140 : decode code 1140 = .ok (.aload_n (1), 1) := (dec_at tkZ_34 (pc1 := 1140) rfl rfl).1
theorem dw_1141 : decode code 1141 = .ok (.invokevirtual (154), 3) := (dec_at tkZ_34 (pc1 := 1141) rfl rfl).1
theorem dw_1144 : decode code 1144 = .ok (.aload_n (2), 1) := (dec_at tkZ_34 (pc1 := 1144) rfl rfl).1
theorem dw_1145 : decode code 1145 = .ok (.invokevirtual (157), 3) := (dec_at tkZ_34 (pc1 := 1145) rfl rfl).1
theorem dw_1148 : decode code 1148 = .ok (.if_icmp .eq (353), 3) := (dec_at tkZ_34 (pc1 := 1148) rfl rfl).1
theorem dw_1151 : decode code 1151 = .ok (.iconst (0), 1) := (dec_at tkZ_34 (pc1 := 1151) rfl rfl).1
theorem dw_1152 : decode code 1152 = .ok (.ireturn, 1) := (dec_at tkZ_34 (pc1 := 1152) rfl rfl).1
def pmZ_35 : List PE := [(1153, 1, .aload_n (1), 0, 0, 0, 0),
  (1154, 1, .aload_n (0), 0, 0, 0, 0),
  (1155, 1, .iload_n (3), 0, 0, 0, 0),
  (1156, 1, .iconst (1), 0, 0, 1, 0),
  (1157, 1, .iadd, 0, 0, 0, 0),
  (1158, 1, .iaload, 0, 0, 0, 0),
  (1159, 3, .invokevirtual (158), 0, 0, 0, 0),
  (1162, 1, .aload_n (2), 0, 0, 0, 0),
  (1163, 1, .aload_n (0), 0, 0, 0, 0),
  (1164, 1, .iload_n (3), 0, 0, 0, 0),
  (1165, 1, .iconst (1), 0, 0, 1, 0),
  (1166, 1, .iadd, 0, 0, 0, 0),
  (1167, 1, .iaload, 0, 0, 0, 0),
  (1168, 3, .invokevirtual (161), 0, 0, 0, 0),
  (1171, 3, .if_icmp .eq (330), 1501, 0, 0, 0),
  (1174, 1, .iconst (0), 0, 0, 0, 0),
  (1175, 1, .ireturn, 0, 0, 0, 0)]
def mdZ_35 : Md := (x, code, 4, none, pmZ_35)
theorem tkZ_35 : Tm mdZ_35 := tab_of (o := 7) (by decide +kernel)
theorem dw_1153 : decode code 1153 = .ok (.aload_n (1), 1) := (dec_at tkZ_35 (pc1 := 1153) rfl rfl).1
theorem dw_1154 : decode code 1154 = .ok (.aload_n (0), 1) := (dec_at tkZ_35 (pc1 := 1154) rfl rfl).1
theorem dw_1155 : decode code 1155 = .ok (.iload_n (3), 1) := (dec_at tkZ_35 (pc1 := 1155) rfl rfl).1
theorem dw_1156 : decode code 1156 = .ok (.iconst (1), 1) := (dec_at tkZ_35 (pc1 := 1156) rfl rfl).1
theorem dw_1157 : decode code 1157 = .ok (.iadd, 1) := (dec_at tkZ_35 (pc1 := 1157) rfl rfl).1
theorem dw_1158 : decode code 1158 = .ok (.iaload, 1) := (dec_at tkZ_35 (pc1 := 1158) rfl rfl).1
theorem dw_1159 : decode code 1159 = .ok (.invokevirtual (158), 3) := (dec_at tkZ_35 (pc1 := 1159) rfl rfl).1
theorem dw_1162 : decode code 1162 = .ok (.aload_n (2), 1) := (dec_at tkZ_35 (pc1 := 1162) rfl rfl).1
theorem dw_1163 : decode code 1163 = .ok (.aload_n (0), 1) := (dec_at tkZ_35 (pc1 := 1163) rfl rfl).1
theorem dw_1164 : decode code 1164 = .ok (.iload_n (3), 1) := (dec_at tkZ_35 (pc1 := 1164) rfl rfl).1
theorem dw_1165 : decode code 1165 = .ok (.iconst (1), 1) := (dec_at tkZ_35 (pc1 := 1165) rfl rfl).1
theorem dw_1166 : decode code 1166 = .ok (.iadd, 1) := (dec_at tkZ_35 (pc1 := 1166) rfl rfl).1
theorem dw_1167 : decode code 1167 = .ok (.iaload, 1) := (dec_at tkZ_35 (pc1 := 1167) rfl rfl).1
theorem dw_1168 : decode code 1168 = .ok (.invokevirtual (161), 3) := (dec_at tkZ_35 (pc1 := 1168) rfl rfl).1
theorem dw_1171 : decode code 1171 = .ok (.if_icmp .eq (330), 3) := (dec_at tkZ_35 (pc1 := 1171) rfl rfl).1
theorem dw_1174 : decode code 1174 = .ok (.iconst (0), 1) := (dec_at tkZ_35 (pc1 := 1174) rfl rfl).1
theorem dw_1175 : decode code 1175 = .ok (.ireturn, 1) := (dec_at tkZ_35 (pc1 := 1175) rfl rfl).1
def pmZ_36 : List PE := [(1176, 1, .aload_n (1), 0, 0, 0, 0),
  (1177, 1, .aload_n (0), 0, 0, 0, 0),
  (1178, 1, .iload_n (3), 0, 0, 0, 0),
  (1179, 1, .iconst (1), 0, 0, 1, 0),
  (1180, 1, .iadd, 0, 0, 0, 0),
  (1181, 1, .iaload, 0, 0, 0, 0),
  (1182, 1, .aload_n (0), 0, 0, 0, 0),
  (1183, 1, .iload_n (3), 0, 0, 0, 0),
  (1184, 1, .iconst (2), 0, 0, 2, 0),
  (1185, 1, .iadd, 0, 0, 0, 0),
  (1186, 1, .iaload, 0, 0, 0, 0),
  (1187, 3, .invokevirtual (162), 0, 0, 0, 0),
  (1190, 1, .aload_n (2), 0, 0, 0, 0),
  (1191, 1, .aload_n (0), 0, 0, 0, 0),
  (1192, 1, .iload_n (3), 0, 0, 0, 0),
  (1193, 1, .iconst (1), 0, 0, 1, 0),
  (1194, 1, .iadd, 0, 0, 0, 0),
  (1195, 1, .iaload, 0, 0, 0, 0),
  (1196, 1, .aload_n (0), 0, 0, 0, 0),
  (1197, 1, .iload_n (3), 0, 0, 0, 0),
  (1198, 1, .iconst (2), 0, 0, 2, 0),
  (1199, 1, .iadd, 0, 0, 0, 0),
  (1200, 1, .iaload, 0, 0, 0, 0),
  (1201, 3, .invokevirtual (165), 0, 0, 0, 0),
  (1204, 3, .if_icmp .eq (297), 1501, 0, 0, 0),
  (1207, 1, .iconst (0), 0, 0, 0, 0),
  (1208, 1, .ireturn, 0, 0, 0, 0)]
def mdZ_36 : Md := (x, code, 4, none, pmZ_36)
theorem tkZ_36 : Tm mdZ_36 := tab_of (o := 7) (by decide +kernel)
theorem dw_1176 : decode code 1176 = .ok (.aload_n (1), 1) := (dec_at tkZ_36 (pc1 := 1176) rfl rfl).1
theorem dw_1177 : decode code 1177 = .ok (.aload_n (0), 1) := (dec_at tkZ_36 (pc1 := 1177) rfl rfl).1
theorem dw_1178 : decode code 1178 = .ok (.iload_n (3), 1) := (dec_at tkZ_36 (pc1 := 1178) rfl rfl).1
theorem dw_1179 : decode code 1179 = .ok (.iconst (1), 1) := (dec_at tkZ_36 (pc1 := 1179) rfl rfl).1
theorem dw_1180 : decode code 1180 = .ok (.iadd, 1) := (dec_at tkZ_36 (pc1 := 1180) rfl rfl).1
theorem dw_1181 : decode code 1181 = .ok (.iaload, 1) := (dec_at tkZ_36 (pc1 := 1181) rfl rfl).1
theorem dw_1182 : decode code 1182 = .ok (.aload_n (0), 1) := (dec_at tkZ_36 (pc1 := 1182) rfl rfl).1
theorem dw_1183 : decode code 1183 = .ok (.iload_n (3), 1) := (dec_at tkZ_36 (pc1 := 1183) rfl rfl).1
theorem dw_1184 : decode code 1184 = .ok (.iconst (2), 1) := (dec_at tkZ_36 (pc1 := 1184) rfl rfl).1
theorem dw_1185 : decode code 1185 = .ok (.iadd, 1) := (dec_at tkZ_36 (pc1 := 1185) rfl rfl).1
theorem dw_1186 : decode code 1186 = .ok (.iaload, 1) := (dec_at tkZ_36 (pc1 := 1186) rfl rfl).1
theorem dw_1187 : decode code 1187 = .ok (.invokevirtual (162), 3) := (dec_at tkZ_36 (pc1 := 1187) rfl rfl).1
theorem dw_1190 : decode code 1190 = .ok (.aload_n (2), 1) := (dec_at tkZ_36 (pc1 := 1190) rfl rfl).1
theorem dw_1191 : decode code 1191 = .ok (.aload_n (0), 1) := (dec_at tkZ_36 (pc1 := 1191) rfl rfl).1
theorem dw_1192 : decode code 1192 = .ok (.iload_n (3), 1) := (dec_at tkZ_36 (pc1 := 1192) rfl rfl).1
theorem dw_1193 : decode code 1193 = .ok (.iconst (1), 1) := (dec_at tkZ_36 (pc1 := 1193) rfl rfl).1
theorem dw_1194 : decode code 1194 = .ok (.iadd, 1) := (dec_at tkZ_36 (pc1 := 1194) rfl rfl).1
theorem dw_1195 : decode code 1195 = .ok (.iaload, 1) := (dec_at tkZ_36 (pc1 := 1195) rfl rfl).1
theorem dw_1196 : decode code 1196 = .ok (.aload_n (0), 1) := (dec_at tkZ_36 (pc1 := 1196) rfl rfl).1
theorem dw_1197 : decode code 1197 = .ok (.iload_n (3), 1) := (dec_at tkZ_36 (pc1 := 1197) rfl rfl).1
theorem dw_1198 : decode code 1198 = .ok (.iconst (2), 1) := (dec_at tkZ_36 (pc1 := 1198) rfl rfl).1
theorem dw_1199 : decode code 1199 = .ok (.iadd, 1) := (dec_at tkZ_36 (pc1 := 1199) rfl rfl).1
theorem dw_1200 : decode code 1200 = .ok (.iaload, 1) := (dec_at tkZ_36 (pc1 := 1200) rfl rfl).1
theorem dw_1201 : decode code 1201 = .ok (.invokevirtual (165), 3) := (dec_at tkZ_36 (pc1 := 1201) rfl rfl).1
theorem dw_1204 : decode code 1204 = .ok (.if_icmp .eq (297), 3) := (dec_at tkZ_36 (pc1 := 1204) rfl rfl).1
theorem dw_1207 : decode code 1207 = .ok (.iconst (0), 1) := (dec_at tkZ_36 (pc1 := 1207) rfl rfl).1
theorem dw_1208 : decode code 1208 = .ok (.ireturn, 1) := (dec_at tkZ_36 (pc1 := 1208) rfl rfl).1
def pmZ_37 : List PE := [(1209, 1, .aload_n (1), 0, 0, 0, 0),
  (1210, 1, .aload_n (0), 0, 0, 0, 0),
  (1211, 1, .iload_n (3), 0, 0, 0, 0),
  (1212, 1, .iconst (1), 0, 0, 1, 0),
  (1213, 1, .iadd, 0, 0, 0, 0),
  (1214, 1, .iaload, 0, 0, 0, 0),
  (1215, 1, .aload_n (0), 0, 0, 0, 0),
  (1216, 1, .iload_n (3), 0, 0, 0, 0),
  (1217, 1, .iconst (2), 0, 0, 2, 0),
  (1218, 1, .iadd, 0, 0, 0, 0),
  (1219, 1, .iaload, 0, 0, 0, 0),
  (1220, 3, .invokevirtual (166), 0, 0, 0, 0),
  (1223, 1, .aload_n (2), 0, 0, 0, 0),
  (1224, 1, .aload_n (0), 0, 0, 0, 0),
  (1225, 1, .iload_n (3), 0, 0, 0, 0),
  (1226, 1, .iconst (1), 0, 0, 1, 0),
  (1227, 1, .iadd, 0, 0, 0, 0),
  (1228, 1, .iaload, 0, 0, 0, 0),
  (1229, 1, .aload_n (0), 0, 0, 0, 0),
  (1230, 1, .iload_n (3), 0, 0, 0, 0),
  (1231, 1, .iconst (2), 0, 0, 2, 0),
  (1232, 1, .iadd, 0, 0, 0, 0),
  (1233, 1, .iaload, 0, 0, 0, 0),
  (1234, 3, .invokevirtual (169), 0, 0, 0, 0),
  (1237, 3, .if_icmp .eq (264), 1501, 0, 0, 0),
  (1240, 1, .iconst (0), 0, 0, 0, 0),
  (1241, 1, .ireturn, 0, 0, 0, 0)]
def mdZ_37 : Md := (x, code, 4, none, pmZ_37)
theorem tkZ_37 : Tm mdZ_37 := tab_of (o := 7) (by decide +kernel)
theorem dw_1209 : decode code 1209 = .ok (.aload_n (1), 1) := (dec_at tkZ_37 (pc1 := 1209) rfl rfl).1
theorem dw_1210 : decode code 1210 = .ok (.aload_n (0), 1) := (dec_at tkZ_37 (pc1 := 1210) rfl rfl).1
theorem dw_1211 : decode code 1211 = .ok (.iload_n (3), 1) := (dec_at tkZ_37 (pc1 := 1211) rfl rfl).1
theorem dw_1212 : decode code 1212 = .ok (.iconst (1), 1) := (dec_at tkZ_37 (pc1 := 1212) rfl rfl).1
theorem dw_1213 : decode code 1213 = .ok (.iadd, 1) := (dec_at tkZ_37 (pc1 := 1213) rfl rfl).1
theorem dw_1214 : decode code 1214 = .ok (.iaload, 1) := (dec_at tkZ_37 (pc1 := 1214) rfl rfl).1
theorem dw_1215 : decode code 1215 = .ok (.aload_n (0), 1) := (dec_at tkZ_37 (pc1 := 1215) rfl rfl).1
theorem dw_1216 : decode code 1216 = .ok (.iload_n (3), 1) := (dec_at tkZ_37 (pc1 := 1216) rfl rfl).1
theorem dw_1217 : decode code 1217 = .ok (.iconst (2), 1) := (dec_at tkZ_37 (pc1 := 1217) rfl rfl).1
theorem dw_1218 : decode code 1218 = .ok (.iadd, 1) := (dec_at tkZ_37 (pc1 := 1218) rfl rfl).1
theorem dw_1219 : decode code 1219 = .ok (.iaload, 1) := (dec_at tkZ_37 (pc1 := 1219) rfl rfl).1
theorem dw_1220 : decode code 1220 = .ok (.invokevirtual (166), 3) := (dec_at tkZ_37 (pc1 := 1220) rfl rfl).1
theorem dw_1223 : decode code 1223 = .ok (.aload_n (2), 1) := (dec_at tkZ_37 (pc1 := 1223) rfl rfl).1
theorem dw_1224 : decode code 1224 = .ok (.aload_n (0), 1) := (dec_at tkZ_37 (pc1 := 1224) rfl rfl).1
theorem dw_1225 : decode code 1225 = .ok (.iload_n (3), 1) := (dec_at tkZ_37 (pc1 := 1225) rfl rfl).1
theorem dw_1226 : decode code 1226 = .ok (.iconst (1), 1) := (dec_at tkZ_37 (pc1 := 1226) rfl rfl).1
theorem dw_1227 : decode code 1227 = .ok (.iadd, 1) := (dec_at tkZ_37 (pc1 := 1227) rfl rfl).1
theorem dw_1228 : decode code 1228 = .ok (.iaload, 1) := (dec_at tkZ_37 (pc1 := 1228) rfl rfl).1
theorem dw_1229 : decode code 1229 = .ok (.aload_n (0), 1) := (dec_at tkZ_37 (pc1 := 1229) rfl rfl).1
theorem dw_1230 : decode code 1230 = .ok (.iload_n (3), 1) := (dec_at tkZ_37 (pc1 := 1230) rfl rfl).1
theorem dw_1231 : decode code 1231 = .ok (.iconst (2), 1) := (dec_at tkZ_37 (pc1 := 1231) rfl rfl).1
theorem dw_1232 : decode code 1232 = .ok (.iadd, 1) := (dec_at tkZ_37 (pc1 := 1232) rfl rfl).1
theorem dw_1233 : decode code 1233 = .ok (.iaload, 1) := (dec_at tkZ_37 (pc1 := 1233) rfl rfl).1
theorem dw_1234 : decode code 1234 = .ok (.invokevirtual (169), 3) := (dec_at tkZ_37 (pc1 := 1234) rfl rfl).1
theorem dw_1237 : decode code 1237 = .ok (.if_icmp .eq (264), 3) := (dec_at tkZ_37 (pc1 := 1237) rfl rfl).1
theorem dw_1240 : decode code 1240 = .ok (.iconst (0), 1) := (dec_at tkZ_37 (pc1 := 1240) rfl rfl).1
theorem dw_1241 : decode code 1241 = .ok (.ireturn, 1) := (dec_at tkZ_37 (pc1 := 1241) rfl rfl).1
def pmZ_38 : List PE := [(1242, 1, .aload_n (1), 0, 0, 0, 0),
  (1243, 1, .aload_n (0), 0, 0, 0, 0),
  (1244, 1, .iload_n (3), 0, 0, 0, 0),
  (1245, 1, .iconst (1), 0, 0, 1, 0),
  (1246, 1, .iadd, 0, 0, 0, 0),
  (1247, 1, .iaload, 0, 0, 0, 0),
  (1248, 3, .invokevirtual (170), 0, 0, 0, 0),
  (1251, 1, .aload_n (2), 0, 0, 0, 0),
  (1252, 1, .aload_n (0), 0, 0, 0, 0),
  (1253, 1, .iload_n (3), 0, 0, 0, 0),
  (1254, 1, .iconst (1), 0, 0, 1, 0),
  (1255, 1, .iadd, 0, 0, 0, 0),
  (1256, 1, .iaload, 0, 0, 0, 0),
  (1257, 3, .invokevirtual (173), 0, 0, 0, 0),
  (1260, 3, .if_icmp .eq (241), 1501, 0, 0, 0),
  (1263, 1, .iconst (0), 0, 0, 0, 0),
  (1264, 1, .ireturn, 0, 0, 0, 0)]
def mdZ_38 : Md := (x, code, 4, none, pmZ_38)
theorem tkZ_38 : Tm mdZ_38 := tab_of (o := 7) (by decide +kernel)
theorem dw_1242 : decode code 1242 = .ok (.aload_n (1), 1) := (dec_at tkZ_38 (pc1 := 1242) rfl rfl).1
theorem dw_1243 : decode code 1243 = .ok (.aload_n (0), 1) := (dec_at tkZ_38 (pc1 := 1243) rfl rfl).1
theorem dw_1244 : decode code 1244 = .ok (.iload_n (3), 1) := (dec_at tkZ_38 (pc1 := 1244) rfl rfl).1
theorem dw_1245 : decode code 1245 = .ok (.iconst (1), 1) := (dec_at tkZ_38 (pc1 := 1245) rfl rfl).1
theorem dw_1246 : decode code 1246 = .ok (.iadd, 1) := (dec_at tkZ_38 (pc1 := 1246) rfl rfl).1
theorem dw_1247 : decode code 1247 = .ok (.iaload, 1) := (dec_at tkZ_38 (pc1 := 1247) rfl rfl).1
theorem dw_1248 : decode code 1248 = .ok (.invokevirtual (170), 3) := (dec_at tkZ_38 (pc1 := 1248) rfl rfl).1
theorem dw_1251 : decode code 1251 = .ok (.aload_n (2), 1) := (dec_at tkZ_38 (pc1 := 1251) rfl rfl).1
theorem dw_1252 : decode code 1252 = .ok (.aload_n (0), 1) := (dec_at tkZ_38 (pc1 := 1252) rfl rfl).1
theorem dw_1253 : decode code 1253 = .ok (.iload_n (3), 1) := (dec_at tkZ_38 (pc1 := 1253) rfl rfl).1
theorem dw_1254 : decode code 1254 = .ok (.iconst (1), 1) := (dec_at tkZ_38 (pc1 := 1254) rfl rfl).1
theorem dw_1255 : decode code 1255 = .ok (.iadd, 1) := (dec_at tkZ_38 (pc1 := 1255) rfl rfl).1
theorem dw_1256 : decode code 1256 = .ok (.iaload, 1) := (dec_at tkZ_38 (pc1 := 1256) rfl rfl).1
theorem dw_1257 : decode code 1257 = .ok (.invokevirtual (173), 3) := (dec_at tkZ_38 (pc1 := 1257) rfl rfl).1
theorem dw_1260 : decode code 1260 = .ok (.if_icmp .eq (241), 3) := (dec_at tkZ_38 (pc1 := 1260) rfl rfl).1
theorem dw_1263 : decode code 1263 = .ok (.iconst (0), 1) := (dec_at tkZ_38 (pc1 := 1263) rfl rfl).1
theorem dw_1264 : decode code 1264 = .ok (.ireturn, 1) := (dec_at tkZ_38 (pc1 := 1264) rfl rfl).1
def pmZ_39 : List PE := [(1265, 1, .aload_n (1), 0, 0, 0, 0),
  (1266, 1, .aload_n (0), 0, 0, 0, 0),
  (1267, 1, .iload_n (3), 0, 0, 0, 0),
  (1268, 1, .iconst (1), 0, 0, 1, 0),
  (1269, 1, .iadd, 0, 0, 0, 0),
  (1270, 1, .iaload, 0, 0, 0, 0),
  (1271, 3, .invokevirtual (174), 0, 0, 0, 0),
  (1274, 1, .aload_n (2), 0, 0, 0, 0),
  (1275, 1, .aload_n (0), 0, 0, 0, 0),
  (1276, 1, .iload_n (3), 0, 0, 0, 0),
  (1277, 1, .iconst (1), 0, 0, 1, 0),
  (1278, 1, .iadd, 0, 0, 0, 0),
  (1279, 1, .iaload, 0, 0, 0, 0),
  (1280, 3, .invokevirtual (177), 0, 0, 0, 0),
  (1283, 3, .if_icmp .eq (218), 1501, 0, 0, 0),
  (1286, 1, .iconst (0), 0, 0, 0, 0),
  (1287, 1, .ireturn, 0, 0, 0, 0)]
def mdZ_39 : Md := (x, code, 4, none, pmZ_39)
theorem tkZ_39 : Tm mdZ_39 := tab_of (o := 7) (by decide +kernel)
theorem dw_1265 : decode code 1265 = .ok (.aload_n (1), 1) := (dec_at tkZ_39 (pc1 := 1265) rfl rfl).1
theorem dw_1266 : decode code 1266 = .ok (.aload_n (0), 1) := (dec_at tkZ_39 (pc1 := 1266) rfl rfl).1
theorem dw_1267 : decode code 1267 = .ok (.iload_n (3), 1) := (dec_at tkZ_39 (pc1 := 1267) rfl rfl).1
theorem dw_1268 : decode code 1268 = .ok (.iconst (1), 1) := (dec_at tkZ_39 (pc1 := 1268) rfl rfl).1
theorem dw_1269 : decode code 1269 = .ok (.iadd, 1) := (dec_at tkZ_39 (pc1 := 1269) rfl rfl).1
theorem dw_1270 : decode code 1270 = .ok (.iaload, 1) := (dec_at tkZ_39 (pc1 := 1270) rfl rfl).1
theorem dw_1271 : decode code 1271 = .ok (.invokevirtual (174), 3) := (dec_at tkZ_39 (pc1 := 1271) rfl rfl).1
theorem dw_1274 : decode code 1274 = .ok (.aload_n (2), 1) := (dec_at tkZ_39 (pc1 := 1274) rfl rfl).1
theorem dw_1275 : decode code 1275 = .ok (.aload_n (0), 1) := (dec_at tkZ_39 (pc1 := 1275) rfl rfl).1
theorem dw_1276 : decode code 1276 = .ok (.iload_n (3), 1) := (dec_at tkZ_39 (pc1 := 1276) rfl rfl).1
theorem dw_1277 : decode code 1277 = .ok (.iconst (1), 1) := (dec_at tkZ_39 (pc1 := 1277) rfl rfl).1
theorem dw_1278 : decode code 1278 = .ok (.iadd, 1) := (dec_at tkZ_39 (pc1 := 1278) rfl rfl).1
theorem dw_1279 : decode code 1279 = .ok (.iaload, 1) := (dec_at tkZ_39 (pc1 := 1279) rfl rfl).1
theorem dw_1280 : decode code 1280 = .ok (.invokevirtual (177), 3) := (dec_at tkZ_39 (pc1 := 1280) rfl rfl).1
theorem dw_1283 : decode code 1283 = .ok (.if_icmp .eq (218), 3) := (dec_at tkZ_39 (pc1 := 1283) rfl rfl).1
theorem dw_1286 : decode code 1286 = .ok (.iconst (0), 1) := (dec_at tkZ_39 (pc1 := 1286) rfl rfl).1
theorem dw_1287 : decode code 1287 = .ok (.ireturn, 1) := (dec_at tkZ_39 (pc1 := 1287) rfl rfl).1
def pmZ_40 : List PE := [(1288, 1, .aload_n (1), 0, 0, 0, 0),
  (1289, 1, .aload_n (0), 0, 0, 0, 0),
  (1290, 1, .iload_n (3), 0, 0, 0, 0),
  (1291, 1, .iconst (1), 0, 0, 1, 0),
  (1292, 1, .iadd, 0, 0, 0, 0),
  (1293, 1, .iaload, 0, 0, 0, 0),
  (1294, 1, .aload_n (0), 0, 0, 0, 0),
  (1295, 1, .iload_n (3), 0, 0, 0, 0),
  (1296, 1, .iconst (2), 0, 0, 2, 0),
  (1297, 1, .iadd, 0, 0, 0, 0),
  (1298, 1, .iaload, 0, 0, 0, 0),
  (1299, 3, .invokevirtual (178), 0, 0, 0, 0),
  (1302, 1, .aload_n (2), 0, 0, 0, 0),
  (1303, 1, .aload_n (0), 0, 0, 0, 0),
  (1304, 1, .iload_n (3), 0, 0, 0, 0),
  (1305, 1, .iconst (1), 0, 0, 1, 0),
  (1306, 1, .iadd, 0, 0, 0, 0),
  (1307, 1, .iaload, 0, 0, 0, 0),
  (1308, 1, .aload_n (0), 0, 0, 0, 0),
  (1309, 1, .iload_n (3), 0, 0, 0, 0),
  (1310, 1, .iconst (2), 0, 0, 2, 0),
  (1311, 1, .iadd, 0, 0, 0, 0),
  (1312, 1, .iaload, 0, 0, 0, 0),
  (1313, 3, .invokevirtual (181), 0, 0, 0, 0),
  (1316, 3, .if_icmp .eq (185), 1501, 0, 0, 0),
  (1319, 1, .iconst (0), 0, 0, 0, 0),
  (1320, 1, .ireturn, 0, 0, 0, 0)]
def mdZ_40 : Md := (x, code, 4, none, pmZ_40)
theorem tkZ_40 : Tm mdZ_40 := tab_of (o := 7) (by decide +kernel)
theorem dw_1288 : decode code 1288 = .ok (.aload_n (1), 1) := (dec_at tkZ_40 (pc1 := 1288) rfl rfl).1
theorem dw_1289 : decode code 1289 = .ok (.aload_n (0), 1) := (dec_at tkZ_40 (pc1 := 1289) rfl rfl).1
theorem dw_1290 : decode code 1290 = .ok (.iload_n (3), 1) := (dec_at tkZ_40 (pc1 := 1290) rfl rfl).1
theorem dw_1291 : decode code 1291 = .ok (.iconst (1), 1) := (dec_at tkZ_40 (pc1 := 1291) rfl rfl).1
theorem dw_1292 : decode code 1292 = .ok (.iadd, 1) := (dec_at tkZ_40 (pc1 := 1292) rfl rfl).1
theorem dw_1293 : decode code 1293 = .ok (.iaload, 1) := (dec_at tkZ_40 (pc1 := 1293) rfl rfl).1
theorem dw_1294 : decode code 1294 = .ok (.aload_n (0), 1) := (dec_at tkZ_40 (pc1 := 1294) rfl rfl).1
theorem dw_1295 : decode code 1295 = .ok (.iload_n (3), 1) := (dec_at tkZ_40 (pc1 := 1295) rfl rfl).1
theorem dw_1296 : decode code 1296 = .ok (.iconst (2), 1) := (dec_at tkZ_40 (pc1 := 1296) rfl rfl).1
theorem dw_1297 : decode code 1297 = .ok (.iadd, 1) := (dec_at tkZ_40 (pc1 := 1297) rfl rfl).1
theorem dw_1298 : decode code 1298 = .ok (.iaload, 1) := (dec_at tkZ_40 (pc1 := 1298) rfl rfl).1
theorem dw_1299 : decode code 1299 = .ok (.invokevirtual (178), 3) := (dec_at tkZ_40 (pc1 := 1299) rfl rfl).1
theorem dw_1302 : decode code 1302 = .ok (.aload_n (2), 1) := (dec_at tkZ_40 (pc1 := 1302) rfl rfl).1
theorem dw_1303 : decode code 1303 = .ok (.aload_n (0), 1) := (dec_at tkZ_40 (pc1 := 1303) rfl rfl).1
theorem dw_1304 : decode code 1304 = .ok (.iload_n (3), 1) := (dec_at tkZ_40 (pc1 := 1304) rfl rfl).1
theorem dw_1305 : decode code 1305 = .ok (.iconst (1), 1) := (dec_at tkZ_40 (pc1 := 1305) rfl rfl).1
theorem dw_1306 : decode code 1306 = .ok (.iadd, 1) := (dec_at tkZ_40 (pc1 := 1306) rfl rfl).1
theorem dw_1307 : decode code 1307 = .ok (.iaload, 1) := (dec_at tkZ_40 (pc1 := 1307) rfl rfl).1
theorem dw_1308 : decode code 1308 = .ok (.aload_n (0), 1) := (dec_at tkZ_40 (pc1 := 1308) rfl rfl).1
theorem dw_1309 : decode code 1309 = .ok (.iload_n (3), 1) := (dec_at tkZ_40 (pc1 := 1309) rfl rfl).1
theorem dw_1310 : decode code 1310 = .ok (.iconst (2), 1) := (dec_at tkZ_40 (pc1 := 1310) rfl rfl).1
theorem dw_1311 : decode code 1311 = .ok (.iadd, 1) := (dec_at tkZ_40 (pc1 := 1311) rfl rfl).1
theorem dw_1312 : decode code 1312 = .ok (.iaload, 1) := (dec_at tkZ_40 (pc1 := 1312) rfl rfl).1
theorem dw_1313 : decode code 1313 = .ok (.invokevirtual (181), 3) := (dec_at tkZ_40 (pc1 := 1313) rfl rfl).1
theorem dw_1316 : decode code 1316 = .ok (.if_icmp .eq (185), 3) := (dec_at tkZ_40 (pc1 := 1316) rfl rfl).1
theorem dw_1319 : decode code 1319 = .ok (.iconst (0), 1) := (dec_at tkZ_40 (pc1 := 1319) rfl rfl).1
theorem dw_1320 : decode code 1320 = .ok (.ireturn, 1) := (dec_at tkZ_40 (pc1 := 1320) rfl rfl).1
def pmZ_41 : List PE := [(1321, 1, .aload_n (1), 0, 0, 0, 0),
  (1322, 1, .aload_n (0), 0, 0, 0, 0),
  (1323, 1, .iload_n (3), 0, 0, 0, 0),
  (1324, 1, .iconst (1), 0, 0, 1, 0),
  (1325, 1, .iadd, 0, 0, 0, 0),
  (1326, 1, .iaload, 0, 0, 0, 0),
  (1327, 1, .aload_n (0), 0, 0, 0, 0),
  (1328, 1, .iload_n (3), 0, 0, 0, 0),
  (1329, 1, .iconst (2), 0, 0, 2, 0),
  (1330, 1, .iadd, 0, 0, 0, 0),
  (1331, 1, .iaload, 0, 0, 0, 0),
  (1332, 1, .aload_n (0), 0, 0, 0, 0),
  (1333, 1, .iload_n (3), 0, 0, 0, 0),
  (1334, 1, .iconst (3), 0, 0, 3, 0),
  (1335, 1, .iadd, 0, 0, 0, 0),
  (1336, 1, .iaload, 0, 0, 0, 0),
  (1337, 3, .invokevirtual (182), 0, 0, 0, 0),
  (1340, 1, .aload_n (2), 0, 0, 0, 0),
  (1341, 1, .aload_n (0), 0, 0, 0, 0),
  (1342, 1, .iload_n (3), 0, 0, 0, 0),
  (1343, 1, .iconst (1), 0, 0, 1, 0),
  (1344, 1, .iadd, 0, 0, 0, 0),
  (1345, 1, .iaload, 0, 0, 0, 0),
  (1346, 1, .aload_n (0), 0, 0, 0, 0),
  (1347, 1, .iload_n (3), 0, 0, 0, 0),
  (1348, 1, .iconst (2), 0, 0, 2, 0),
  (1349, 1, .iadd, 0, 0, 0, 0),
  (1350, 1, .iaload, 0, 0, 0, 0),
  (1351, 1, .aload_n (0), 0, 0, 0, 0),
  (1352, 1, .iload_n (3), 0, 0, 0, 0),
  (1353, 1, .iconst (3), 0, 0, 3, 0),
  (1354, 1, .iadd, 0, 0, 0, 0),
  (1355, 1, .iaload, 0, 0, 0, 0),
  (1356, 3, .invokevirtual (185), 0, 0, 0, 0),
  (1359, 3, .if_icmp .eq (142), 1501, 0, 0, 0),
  (1362, 1, .iconst (0), 0, 0, 0, 0),
  (1363, 1, .ireturn, 0, 0, 0, 0)]
def mdZ_41 : Md := (x, code, 4, none, pmZ_41)
theorem tkZ_41 : Tm mdZ_41 := tab_of (o := 7) (by decide +kernel)
theorem dw_1321 : decode code 1321 = .ok (.aload_n (1), 1) := (dec_at tkZ_41 (pc1 := 1321) rfl rfl).1
theorem dw_1322 : decode code 1322 = .ok (.aload_n (0), 1) := (dec_at tkZ_41 (pc1 := 1322) rfl rfl).1
theorem dw_1323 : decode code 1323 = .ok (.iload_n (3), 1) := (dec_at tkZ_41 (pc1 := 1323) rfl rfl).1
theorem dw_1324 : decode code 1324 = .ok (.iconst (1), 1) := (dec_at tkZ_41 (pc1 := 1324) rfl rfl).1
theorem dw_1325 : decode code 1325 = .ok (.iadd, 1) := (dec_at tkZ_41 (pc1 := 1325) rfl rfl).1
theorem dw_1326 : decode code 1326 = .ok (.iaload, 1) := (dec_at tkZ_41 (pc1 := 1326) rfl rfl).1
theorem dw_1327 : decode code 1327 = .ok (.aload_n (0), 1) := (dec_at tkZ_41 (pc1 := 1327) rfl rfl).1
theorem dw_1328 : decode code 1328 = .ok (.iload_n (3), 1) := (dec_at tkZ_41 (pc1 := 1328) rfl rfl).1
theorem dw_1329 : decode code 1329 = .ok (.iconst (2), 1) := (dec_at tkZ_41 (pc1 := 1329) rfl rfl).1
theorem dw_1330 : decode code 1330 = .ok (.iadd, 1) := (dec_at tkZ_41 (pc1 := 1330) rfl rfl).1
theorem dw_1331 : decode code 1331 = .ok (.iaload, 1) := (dec_at tkZ_41 (pc1 := 1331) rfl rfl).1
theorem dw_1332 : decode code 1332 = .ok (.aload_n (0), 1) := (dec_at tkZ_41 (pc1 := 1332) rfl rfl).1
theorem dw_1333 : decode code 1333 = .ok (.iload_n (3), 1) := (dec_at tkZ_41 (pc1 := 1333) rfl rfl).1
theorem dw_1334 : decode code 1334 = .ok (.iconst (3), 1) := (dec_at tkZ_41 (pc1 := 1334) rfl rfl).1
theorem dw_1335 : decode code 1335 = .ok (.iadd, 1) := (dec_at tkZ_41 (pc1 := 1335) rfl rfl).1
theorem dw_1336 : decode code 1336 = .ok (.iaload, 1) := (dec_at tkZ_41 (pc1 := 1336) rfl rfl).1
theorem dw_1337 : decode code 1337 = .ok (.invokevirtual (182), 3) := (dec_at tkZ_41 (pc1 := 1337) rfl rfl).1
theorem dw_1340 : decode code 1340 = .ok (.aload_n (2), 1) := (dec_at tkZ_41 (pc1 := 1340) rfl rfl).1
theorem dw_1341 : decode code 1341 = .ok (.aload_n (0), 1) := (dec_at tkZ_41 (pc1 := 1341) rfl rfl).1
theorem dw_1342 : decode code 1342 = .ok (.iload_n (3), 1) := (dec_at tkZ_41 (pc1 := 1342) rfl rfl).1
theorem dw_1343 : decode code 1343 = .ok (.iconst (1), 1) := (dec_at tkZ_41 (pc1 := 1343) rfl rfl).1
theorem dw_1344 : decode code 1344 = .ok (.iadd, 1) := (dec_at tkZ_41 (pc1 := 1344) rfl rfl).1
theorem dw_1345 : decode code 1345 = .ok (.iaload, 1) := (dec_at tkZ_41 (pc1 := 1345) rfl rfl).1
theorem dw_1346 : decode code 1346 = .ok (.aload_n (0), 1) := (dec_at tkZ_41 (pc1 := 1346) rfl rfl).1
theorem dw_1347 : decode code 1347 = .ok (.iload_n (3), 1) := (dec_at tkZ_41 (pc1 := 1347) rfl rfl).1
theorem dw_1348 : decode code 1348 = .ok (.iconst (2), 1) := (dec_at tkZ_41 (pc1 := 1348) rfl rfl).1
theorem dw_1349 : decode code 1349 = .ok (.iadd, 1) := (dec_at tkZ_41 (pc1 := 1349) rfl rfl).1
theorem dw_1350 : decode code 1350 = .ok (.iaload, 1) := (dec_at tkZ_41 (pc1 := 1350) rfl rfl).1
theorem dw_1351 : decode code 1351 = .ok (.aload_n (0), 1) := (dec_at tkZ_41 (pc1 := 1351) rfl rfl).1
theorem dw_1352 : decode code 1352 = .ok (.iload_n (3), 1) := (dec_at tkZ_41 (pc1 := 1352) rfl rfl).1
theorem dw_1353 : decode code 1353 = .ok (.iconst (3), 1) := (dec_at tkZ_41 (pc1 := 1353) rfl rfl).1
theorem dw_1354 : decode code 1354 = .ok (.iadd, 1) := (dec_at tkZ_41 (pc1 := 1354) rfl rfl).1
theorem dw_1355 : decode code 1355 = .ok (.iaload, 1) := (dec_at tkZ_41 (pc1 := 1355) rfl rfl).1
theorem dw_1356 : decode code 1356 = .ok (.invokevirtual (185), 3) := (dec_at tkZ_41 (pc1 := 1356) rfl rfl).1
theorem dw_1359 : decode code 1359 = .ok (.if_icmp .eq (142), 3) := (dec_at tkZ_41 (pc1 := 1359) rfl rfl).1
theorem dw_1362 : decode code 1362 = .ok (.iconst (0), 1) := (dec_at tkZ_41 (pc1 := 1362) rfl rfl).1
theorem dw_1363 : decode code 1363 = .ok (.ireturn, 1) := (dec_at tkZ_41 (pc1 := 1363) rfl rfl).1
def pmZ_42 : List PE := [(1364, 1, .aload_n (1), 0, 0, 0, 0),
  (1365, 1, .aload_n (0), 0, 0, 0, 0),
  (1366, 1, .iload_n (3), 0, 0, 0, 0),
  (1367, 1, .iconst (1), 0, 0, 1, 0),
  (1368, 1, .iadd, 0, 0, 0, 0),
  (1369, 1, .iaload, 0, 0, 0, 0),
  (1370, 3, .invokevirtual (186), 0, 0, 0, 0),
  (1373, 1, .aload_n (2), 0, 0, 0, 0),
  (1374, 1, .aload_n (0), 0, 0, 0, 0),
  (1375, 1, .iload_n (3), 0, 0, 0, 0),
  (1376, 1, .iconst (1), 0, 0, 1, 0),
  (1377, 1, .iadd, 0, 0, 0, 0),
  (1378, 1, .iaload, 0, 0, 0, 0),
  (1379, 3, .invokevirtual (189), 0, 0, 0, 0),
  (1382, 3, .if_icmp .eq (119), 1501, 0, 0, 0),
  (1385, 1, .iconst (0), 0, 0, 0, 0),
  (1386, 1, .ireturn, 0, 0, 0, 0)]
def mdZ_42 : Md := (x, code, 4, none, pmZ_42)
theorem tkZ_42 : Tm mdZ_42 := tab_of (o := 7) (by decide +kernel)
theorem dw_1364 : decode code 1364 = .ok (.aload_n (1), 1) := (dec_at tkZ_42 (pc1 := 1364) rfl rfl).1
theorem dw_1365 : decode code 1365 = .ok (.aload_n (0), 1) := (dec_at tkZ_42 (pc1 := 1365) rfl rfl).1
theorem dw_1366 : decode code 1366 = .ok (.iload_n (3), 1) := (dec_at tkZ_42 (pc1 := 1366) rfl rfl).1
theorem dw_1367 : decode code 1367 = .ok (.iconst (1), 1) := (dec_at tkZ_42 (pc1 := 1367) rfl rfl).1
theorem dw_1368 : decode code 1368 = .ok (.iadd, 1) := (dec_at tkZ_42 (pc1 := 1368) rfl rfl).1
theorem dw_1369 : decode code 1369 = .ok (.iaload, 1) := (dec_at tkZ_42 (pc1 := 1369) rfl rfl).1
theorem dw_1370 : decode code 1370 = .ok (.invokevirtual (186), 3) := (dec_at tkZ_42 (pc1 := 1370) rfl rfl).1
theorem dw_1373 : decode code 1373 = .ok (.aload_n (2), 1) := (dec_at tkZ_42 (pc1 := 1373) rfl rfl).1
theorem dw_1374 : decode code 1374 = .ok (.aload_n (0), 1) := (dec_at tkZ_42 (pc1 := 1374) rfl rfl).1
theorem dw_1375 : decode code 1375 = .ok (.iload_n (3), 1) := (dec_at tkZ_42 (pc1 := 1375) rfl rfl).1
theorem dw_1376 : decode code 1376 = .ok (.iconst (1), 1) := (dec_at tkZ_42 (pc1 := 1376) rfl rfl).1
theorem dw_1377 : decode code 1377 = .ok (.iadd, 1) := (dec_at tkZ_42 (pc1 := 1377) rfl rfl).1
theorem dw_1378 : decode code 1378 = .ok (.iaload, 1) := (dec_at tkZ_42 (pc1 := 1378) rfl rfl).1
theorem dw_1379 : decode code 1379 = .ok (.invokevirtual (189), 3) := (dec_at tkZ_42 (pc1 := 1379) rfl rfl).1
theorem dw_1382 : decode code 1382 = .ok (.if_icmp .eq (119), 3) := (dec_at tkZ_42 (pc1 := 1382) rfl rfl).1
theorem dw_1385 : decode code 1385 = .ok (.iconst (0), 1) := (dec_at tkZ_42 (pc1 := 1385) rfl rfl).1
theorem dw_1386 : decode code 1386 = .ok (.ireturn, 1) := (dec_at tkZ_42 (pc1 := 1386) rfl rfl).1
def pmZ_43 : List PE := [(1387, 1, .aload_n (1), 0, 0, 0, 0),
  (1388, 3, .invokevirtual (190), 0, 0, 0, 0),
  (1391, 1, .aload_n (2), 0, 0, 0, 0),
  (1392, 3, .invokevirtual (193), 0, 0, 0, 0),
  (1395, 3, .if_icmp .eq (106), 1501, 0, 0, 0),
  (1398, 1, .iconst (0), 0, 0, 0, 0),
  (1399, 1, .ireturn, 0, 0, 0, 0)]
def mdZ_43 : Md := (x, code, 4, none, pmZ_43)
theorem tkZ_43 : Tm mdZ_43 := tab_of (o := 7) (by decide +kernel)
theorem dw_1387 : decode code 1387 = .ok (.aload_n (1), 1) := (dec_at tkZ_43 (pc1 := 1387) rfl rfl).1
theorem dw_1388 : decode code 1388 = .ok (.invokevirtual (190), 3) := (dec_at tkZ_43 (pc1 := 1388) rfl rfl).1
theorem dw_1391 : decode code 1391 = .ok (.aload_n (2), 1) := (dec_at tkZ_43 (pc1 := 1391) rfl rfl).1
theorem dw_1392 : decode code 1392 = .ok (.invokevirtual (193), 3) := (dec_at tkZ_43 (pc1 := 1392) rfl rfl).1
theorem dw_1395 : decode code 1395 = .ok (.if_icmp .eq (106), 3) := (dec_at tkZ_43 (pc1 := 1395) rfl rfl).1
theorem dw_1398 : decode code 1398 = .ok (.iconst (0), 1) := (dec_at tkZ_43 (pc1 := 1398) rfl rfl).1
theorem dw_1399 : decode code 1399 = .ok (.ireturn, 1) := (dec_at tkZ_43 (pc1 := 1399) rfl rfl).1
def pmZ_44 : List PE := [(1400, 1, .aload_n (1), 0, 0, 0, 0),
  (1401, 3, .invokevirtual (194), 0, 0, 0, 0),
  (1404, 1, .aload_n (2), 0, 0, 0, 0),
  (1405, 3, .invokevirtual (198), 0, 0, 0, 0),
  (1408, 1, .lcmp, 0, 0, 0, 0),
  (1409, 3, .ifCond .eq (92), 1501, 0, 0, 0),
  (1412, 1, .iconst (0), 0, 0, 0, 0),
  (1413, 1, .ireturn, 0, 0, 0, 0)]
def mdZ_44 : Md := (x, code, 4, none, pmZ_44)
theorem tkZ_44 : Tm mdZ_44 := tab_of (o := 7) (by decide +kernel)
theorem dw_1400 : decode code 1400 = .ok (.aload_n (1), 1) := (dec_at tkZ_44 (pc1 := 1400) rfl rfl).1
theorem dw_1401 : decode code 1401 = .ok (.invokevirtual (194), 3) := (dec_at tkZ_44 (pc1 := 1401) rfl rfl).1
theorem dw_1404 : decode code 1404 = .ok (.aload_n (2), 1) := (dec_at tkZ_44 (pc1 := 1404) rfl rfl).1
theorem dw_1405 : decode code 1405 = .ok (.invokevirtual (198), 3) := (dec_at tkZ_44 (pc1 := 1405) rfl rfl).1
theorem dw_1408 : decode code 1408 = .ok (.lcmp, 1) := (dec_at tkZ_44 (pc1 := 1408) rfl rfl).1
theorem dw_1409 : decode code 1409 = .ok (.ifCond .eq (92), 3) := (dec_at tkZ_44 (pc1 := 1409) rfl rfl).1
theorem dw_1412 : decode code 1412 = .ok (.iconst (0), 1) := (dec_at tkZ_44 (pc1 := 1412) rfl rfl).1
theorem dw_1413 : decode code 1413 = .ok (.ireturn, 1) := (dec_at tkZ_44 (pc1 := 1413) rfl rfl).1
def pmZ_45 : List PE := [(1414, 1, .aload_n (1), 0, 0, 0, 0),
  (1415, 3, .invokevirtual (199), 0, 0, 0, 0),
  (1418, 1, .aload_n (2), 0, 0, 0, 0),
  (1419, 3, .invokevirtual (202), 0, 0, 0, 0),
  (1422, 1, .lcmp, 0, 0, 0, 0),
  (1423, 3, .ifCond .eq (78), 1501, 0, 0, 0),
  (1426, 1, .iconst (0), 0, 0, 0, 0),
  (1427, 1, .ireturn, 0, 0, 0, 0)]
def mdZ_45 : Md := (x, code, 4, none, pmZ_45)
theorem tkZ_45 : Tm mdZ_45 := tab_of (o := 7) (by decide +kernel)
theorem dw_1414 : decode code 1414 = .ok (.aload_n (1), 1) := (dec_at tkZ_45 (pc1 := 1414) rfl rfl).1
theorem dw_1415 : decode code 1415 = .ok (.invokevirtual (199), 3) := (dec_at tkZ_45 (pc1 := 1415) rfl rfl).1
theorem dw_1418 : decode code 1418 = .ok (.aload_n (2), 1) := (dec_at tkZ_45 (pc1 := 1418) rfl rfl).1
theorem dw_1419 : decode code 1419 = .ok (.invokevirtual (202), 3) := (dec_at tkZ_45 (pc1 := 1419) rfl rfl).1
theorem dw_1422 : decode code 1422 = .ok (.lcmp, 1) := (dec_at tkZ_45 (pc1 := 1422) rfl rfl).1
theorem dw_1423 : decode code 1423 = .ok (.ifCond .eq (78), 3) := (dec_at tkZ_45 (pc1 := 1423) rfl rfl).1
theorem dw_1426 : decode code 1426 = .ok (.iconst (0), 1) := (dec_at tkZ_45 (pc1 := 1426) rfl rfl).1
theorem dw_1427 : decode code 1427 = .ok (.ireturn, 1) := (dec_at tkZ_45 (pc1 := 1427) rfl rfl).1
def pmZ_46 : List PE := [(1428, 1, .aload_n (1), 0, 0, 0, 0),
  (1429, 1, .aload_n (0), 0, 0, 0, 0),
  (1430, 1, .iload_n (3), 0, 0, 0, 0),
  (1431, 1, .iconst (1), 0, 0, 1, 0),
  (1432, 1, .iadd, 0, 0, 0, 0),
  (1433, 1, .iaload, 0, 0, 0, 0),
  (1434, 3, .invokevirtual (203), 0, 0, 0, 0),
  (1437, 1, .aload_n (2), 0, 0, 0, 0),
  (1438, 1, .aload_n (0), 0, 0, 0, 0),
  (1439, 1, .iload_n (3), 0, 0, 0, 0),
  (1440, 1, .iconst (1), 0, 0, 1, 0),
  (1441, 1, .iadd, 0, 0, 0, 0),
  (1442, 1, .iaload, 0, 0, 0, 0),
  (1443, 3, .invokevirtual (206), 0, 0, 0, 0),
  (1446, 3, .if_icmp .eq (55), 1501, 0, 0, 0),
  (1449, 1, .iconst (0), 0, 0, 0, 0),
  (1450, 1, .ireturn, 0, 0, 0, 0)]
def mdZ_46 : Md := (x, code, 4, none, pmZ_46)
theorem tkZ_46 : Tm mdZ_46 := tab_of (o := 7) (by decide +kernel)
theorem dw_1428 : decode code 1428 = .ok (.aload_n (1), 1) := (dec_at tkZ_46 (pc1 := 1428) rfl rfl).1
theorem dw_1429 : decode code 1429 = .ok (.aload_n (0), 1) := (dec_at tkZ_46 (pc1 := 1429) rfl rfl).1
theorem dw_1430 : decode code 1430 = .ok (.iload_n (3), 1) := (dec_at tkZ_46 (pc1 := 1430) rfl rfl).1
theorem dw_1431 : decode code 1431 = .ok (.iconst (1), 1) := (dec_at tkZ_46 (pc1 := 1431) rfl rfl).1
theorem dw_1432 : decode code 1432 = .ok (.iadd, 1) := (dec_at tkZ_46 (pc1 := 1432) rfl rfl).1
theorem dw_1433 : decode code 1433 = .ok (.iaload, 1) := (dec_at tkZ_46 (pc1 := 1433) rfl rfl).1
theorem dw_1434 : decode code 1434 = .ok (.invokevirtual (203), 3) := (dec_at tkZ_46 (pc1 := 1434) rfl rfl).1
theorem dw_1437 : decode code 1437 = .ok (.aload_n (2), 1) := (dec_at tkZ_46 (pc1 := 1437) rfl rfl).1
theorem dw_1438 : decode code 1438 = .ok (.aload_n (0), 1) := (dec_at tkZ_46 (pc1 := 1438) rfl rfl).1
theorem dw_1439 : decode code 1439 = .ok (.iload_n (3), 1) := (dec_at tkZ_46 (pc1 := 1439) rfl rfl).1
theorem dw_1440 : decode code 1440 = .ok (.iconst (1), 1) := (dec_at tkZ_46 (pc1 := 1440) rfl rfl).1
theorem dw_1441 : decode code 1441 = .ok (.iadd, 1) := (dec_at tkZ_46 (pc1 := 1441) rfl rfl).1
theorem dw_1442 : decode code 1442 = .ok (.iaload, 1) := (dec_at tkZ_46 (pc1 := 1442) rfl rfl).1
theorem dw_1443 : decode code 1443 = .ok (.invokevirtual (206), 3) := (dec_at tkZ_46 (pc1 := 1443) rfl rfl).1
theorem dw_1446 : decode code 1446 = .ok (.if_icmp .eq (55), 3) := (dec_at tkZ_46 (pc1 := 1446) rfl rfl).1
theorem dw_1449 : decode code 1449 = .ok (.iconst (0), 1) := (dec_at tkZ_46 (pc1 := 1449) rfl rfl).1
theorem dw_1450 : decode code 1450 = .ok (.ireturn, 1) := (dec_at tkZ_46 (pc1 := 1450) rfl rfl).1
def pmZ_47 : List PE := [(1451, 1, .aload_n (1), 0, 0, 0, 0),
  (1452, 3, .invokevirtual (207), 0, 0, 0, 0),
  (1455, 1, .aload_n (2), 0, 0, 0, 0),
  (1456, 3, .invokevirtual (210), 0, 0, 0, 0),
  (1459, 3, .if_icmp .eq (42), 1501, 0, 0, 0),
  (1462, 1, .iconst (0), 0, 0, 0, 0),
  (1463, 1, .ireturn, 0, 0, 0, 0)]
def mdZ_47 : Md := (x, code, 4, none, pmZ_47)
theorem tkZ_47 : Tm mdZ_47 := tab_of (o := 7) (by decide +kernel)
theorem dw_1451 : decode code 1451 = .ok (.aload_n (1), 1) := (dec_at tkZ_47 (pc1 := 1451) rfl rfl).1
theorem dw_1452 : decode code 1452 = .ok (.invokevirtual (207), 3) := (dec_at tkZ_47 (pc1 := 1452) rfl rfl).1
theorem dw_1455 : decode code 1455 = .ok (.aload_n (2), 1) := (dec_at tkZ_47 (pc1 := 1455) rfl rfl).1
theorem dw_1456 : decode code 1456 = .ok (.invokevirtual (210), 3) := (dec_at tkZ_47 (pc1 := 1456) rfl rfl).1
theorem dw_1459 : decode code 1459 = .ok (.if_icmp .eq (42), 3) := (dec_at tkZ_47 (pc1 := 1459) rfl rfl).1
theorem dw_1462 : decode code 1462 = .ok (.iconst (0), 1) := (dec_at tkZ_47 (pc1 := 1462) rfl rfl).1
theorem dw_1463 : decode code 1463 = .ok (.ireturn, 1) := (dec_at tkZ_47 (pc1 := 1463) rfl rfl).1
def pmZ_48 : List PE := [(1464, 1, .aload_n (1), 0, 0, 0, 0),
  (1465, 1, .aload_n (0), 0, 0, 0, 0),
  (1466, 1, .iload_n (3), 0, 0, 0, 0),
  (1467, 1, .iconst (1), 0, 0, 1, 0),
  (1468, 1, .iadd, 0, 0, 0, 0),
  (1469, 1, .iaload, 0, 0, 0, 0),
  (1470, 3, .invokevirtual (211), 0, 0, 0, 0),
  (1473, 1, .aload_n (2), 0, 0, 0, 0),
  (1474, 1, .aload_n (0), 0, 0, 0, 0),
  (1475, 1, .iload_n (3), 0, 0, 0, 0),
  (1476, 1, .iconst (1), 0, 0, 1, 0),
  (1477, 1, .iadd, 0, 0, 0, 0),
  (1478, 1, .iaload, 0, 0, 0, 0),
  (1479, 3, .invokevirtual (214), 0, 0, 0, 0),
  (1482, 3, .if_icmp .eq (19), 1501, 0, 0, 0),
  (1485, 1, .iconst (0), 0, 0, 0, 0),
  (1486, 1, .ireturn, 0, 0, 0, 0)]
def mdZ_48 : Md := (x, code, 4, none, pmZ_48)
theorem tkZ_48 : Tm mdZ_48 := tab_of (o := 7) (by decide +kernel)
theorem dw_1464 : decode code 1464 = .ok (.aload_n (1), 1) := (dec_at tkZ_48 (pc1 := 1464) rfl rfl).1
theorem dw_1465 : decode code 1465 = .ok (.aload_n (0), 1) := (dec_at tkZ_48 (pc1 := 1465) rfl rfl).1
theorem dw_1466 : decode code 1466 = .ok (.iload_n (3), 1) := (dec_at tkZ_48 (pc1 := 1466) rfl rfl).1
theorem dw_1467 : decode code 1467 = .ok (.iconst (1), 1) := (dec_at tkZ_48 (pc1 := 1467) rfl rfl).1
theorem dw_1468 : decode code 1468 = .ok (.iadd, 1) := (dec_at tkZ_48 (pc1 := 1468) rfl rfl).1
theorem dw_1469 : decode code 1469 = .ok (.iaload, 1) := (dec_at tkZ_48 (pc1 := 1469) rfl rfl).1
theorem dw_1470 : decode code 1470 = .ok (.invokevirtual (211), 3) := (dec_at tkZ_48 (pc1 := 1470) rfl rfl).1
theorem dw_1473 : decode code 1473 = .ok (.aload_n (2), 1) := (dec_at tkZ_48 (pc1 := 1473) rfl rfl).1
theorem dw_1474 : decode code 1474 = .ok (.aload_n (0), 1) := (dec_at tkZ_48 (pc1 := 1474) rfl rfl).1
theorem dw_1475 : decode code 1475 = .ok (.iload_n (3), 1) := (dec_at tkZ_48 (pc1 := 1475) rfl rfl).1
theorem dw_1476 : decode code 1476 = .ok (.iconst (1), 1) := (dec_at tkZ_48 (pc1 := 1476) rfl rfl).1
theorem dw_1477 : decode code 1477 = .ok (.iadd, 1) := (dec_at tkZ_48 (pc1 := 1477) rfl rfl).1
theorem dw_1478 : decode code 1478 = .ok (.iaload, 1) := (dec_at tkZ_48 (pc1 := 1478) rfl rfl).1
theorem dw_1479 : decode code 1479 = .ok (.invokevirtual (214), 3) := (dec_at tkZ_48 (pc1 := 1479) rfl rfl).1
theorem dw_1482 : decode code 1482 = .ok (.if_icmp .eq (19), 3) := (dec_at tkZ_48 (pc1 := 1482) rfl rfl).1
theorem dw_1485 : decode code 1485 = .ok (.iconst (0), 1) := (dec_at tkZ_48 (pc1 := 1485) rfl rfl).1
theorem dw_1486 : decode code 1486 = .ok (.ireturn, 1) := (dec_at tkZ_48 (pc1 := 1486) rfl rfl).1
def pmZ_49 : List PE := [(1487, 1, .aload_n (1), 0, 0, 0, 0),
  (1488, 3, .invokevirtual (215), 0, 0, 0, 0),
  (1491, 1, .aload_n (2), 0, 0, 0, 0),
  (1492, 3, .invokevirtual (218), 0, 0, 0, 0),
  (1495, 1, .lcmp, 0, 0, 0, 0),
  (1496, 3, .ifCond .eq (5), 1501, 0, 0, 0),
  (1499, 1, .iconst (0), 0, 0, 0, 0),
  (1500, 1, .ireturn, 0, 0, 0, 0)]
def mdZ_49 : Md := (x, code, 4, none, pmZ_49)
theorem tkZ_49 : Tm mdZ_49 := tab_of (o := 7) (by decide +kernel)
theorem dw_1487 : decode code 1487 = .ok (.aload_n (1), 1) := (dec_at tkZ_49 (pc1 := 1487) rfl rfl).1
theorem dw_1488 : decode code 1488 = .ok (.invokevirtual (215), 3) := (dec_at tkZ_49 (pc1 := 1488) rfl rfl).1
theorem dw_1491 : decode code 1491 = .ok (.aload_n (2), 1) := (dec_at tkZ_49 (pc1 := 1491) rfl rfl).1
theorem dw_1492 : decode code 1492 = .ok (.invokevirtual (218), 3) := (dec_at tkZ_49 (pc1 := 1492) rfl rfl).1
theorem dw_1495 : decode code 1495 = .ok (.lcmp, 1) := (dec_at tkZ_49 (pc1 := 1495) rfl rfl).1
theorem dw_1496 : decode code 1496 = .ok (.ifCond .eq (5), 3) := (dec_at tkZ_49 (pc1 := 1496) rfl rfl).1
theorem dw_1499 : decode code 1499 = .ok (.iconst (0), 1) := (dec_at tkZ_49 (pc1 := 1499) rfl rfl).1
theorem dw_1500 : decode code 1500 = .ok (.ireturn, 1) := (dec_at tkZ_49 (pc1 := 1500) rfl rfl).1
def pmZ_e : List PE := [(1501, 3, .iinc (3) (6), 0, 0, 6, 0),
  (1504, 3, .goto (-1486), 18, 0, 0, 0),
  (1507, 1, .iconst (1), 0, 0, 1, 0),
  (1508, 1, .ireturn, 0, 0, 0, 0)]
def mdZ_e : Md := (x, code, 4, none, pmZ_e)
theorem tkZ_e : Tm mdZ_e := tab_of (o := 7) (by decide +kernel)
theorem dw_1501 : decode code 1501 = .ok (.iinc (3) (6), 3) := (dec_at tkZ_e (pc1 := 1501) rfl rfl).1
theorem dw_1504 : decode code 1504 = .ok (.goto (-1486), 3) := (dec_at tkZ_e (pc1 := 1504) rfl rfl).1
theorem dw_1507 : decode code 1507 = .ok (.iconst (1), 1) := (dec_at tkZ_e (pc1 := 1507) rfl rfl).1
theorem dw_1508 : decode code 1508 = .ok (.ireturn, 1) := (dec_at tkZ_e (pc1 := 1508) rfl rfl).1
set_option maxRecDepth 100000 in
theorem dw_33 : decode code 33 = .ok (.tableswitch (1468) (0) (49) #[(215), (248), (291), (324), (347), (410), (433), (466), (509), (532), (555), (588), (621), (644), (667), (690), (723), (756), (779), (792), (805), (828), (841), (864), (887), (920), (953), (976), (999), (1012), (1035), (1048), (1071), (1094), (1107), (1120), (1143), (1176), (1209), (1232), (1255), (1288), (1331), (1354), (1367), (1381), (1395), (1418), (1431), (1454)], 215) := by decide +kernel
