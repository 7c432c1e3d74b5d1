theorem giX0 : ∀ w ∈ u_ws RX0 TX0 5, w ∈ gtw := fun w h => gtw_in (goodIn_r _ [237, 239, 241, 243, 245] (by decide +kernel) (by decide +kernel) w h).1 (List.all_eq_true.mp (by decide +kernel : (u_ws RX0 TX0 5).all goodWord = true) w h)
theorem giX1 : ∀ w ∈ u_ws RX1 TX1 5, w ∈ gtw := fun w h => gtw_in (goodIn_r _ [174, 176, 178, 180, 182] (by decide +kernel) (by decide +kernel) w h).1 (List.all_eq_true.mp (by decide +kernel : (u_ws RX1 TX1 5).all goodWord = true) w h)
theorem giX2 : ∀ w ∈ u_ws RX2 TX2 4, w ∈ gtw := fun w h => gtw_in (goodIn_r _ [370, 372, 374, 376] (by decide +kernel) (by decide +kernel) w h).1 (List.all_eq_true.mp (by decide +kernel : (u_ws RX2 TX2 4).all goodWord = true) w h)
theorem giX3 : ∀ w ∈ u_ws RX3 TX3 4, w ∈ gtw := fun w h => gtw_in (goodIn_r _ [148, 150, 152, 154] (by decide +kernel) (by decide +kernel) w h).1 (List.all_eq_true.mp (by decide +kernel : (u_ws RX3 TX3 4).all goodWord = true) w h)
theorem giX4 : ∀ w ∈ u_ws RX4 TX4 11, w ∈ gtw := fun w h => gtw_in (goodIn_r _ [286, 288, 290, 292, 294, 296, 298, 300, 302, 304, 306] (by decide +kernel) (by decide +kernel) w h).1 (List.all_eq_true.mp (by decide +kernel : (u_ws RX4 TX4 11).all goodWord = true) w h)
theorem giX5 : ∀ w ∈ u_ws RX5 TX5 2, w ∈ gtw := fun w h => gtw_in (goodIn_r _ [258, 260] (by decide +kernel) (by decide +kernel) w h).1 (List.all_eq_true.mp (by decide +kernel : (u_ws RX5 TX5 2).all goodWord = true) w h)
theorem giX6 : ∀ w ∈ u_ws RX6 TX6 2, w ∈ gtw := fun w h => gtw_in (goodIn_r _ [197, 199] (by decide +kernel) (by decide +kernel) w h).1 (List.all_eq_true.mp (by decide +kernel : (u_ws RX6 TX6 2).all goodWord = true) w h)
theorem giX7 : ∀ w ∈ u_ws RX7 TX7 5, w ∈ gtw := fun w h => gtw_in (goodIn_r _ [345, 347, 349, 351, 353] (by decide +kernel) (by decide +kernel) w h).1 (List.all_eq_true.mp (by decide +kernel : (u_ws RX7 TX7 5).all goodWord = true) w h)
theorem giX8 : ∀ w ∈ u_ws RX8 TX8 4, w ∈ gtw := fun w h => gtw_in (goodIn_r _ [323, 325, 327, 329] (by decide +kernel) (by decide +kernel) w h).1 (List.all_eq_true.mp (by decide +kernel : (u_ws RX8 TX8 4).all goodWord = true) w h)
theorem giX9 : ∀ w ∈ u_ws RX9 TX9 2, w ∈ gtw := fun w h => gtw_in (goodIn_r _ [213, 215] (by decide +kernel) (by decide +kernel) w h).1 (List.all_eq_true.mp (by decide +kernel : (u_ws RX9 TX9 2).all goodWord = true) w h)
theorem giX10 : ∀ w ∈ u_ws RX10 TX10 13, w ∈ gtw := fun w h => gtw_in (goodIn_r _ [392, 394, 396, 398, 400, 402, 404, 406, 408, 410, 412, 414, 416] (by decide +kernel) (by decide +kernel) w h).1 (List.all_eq_true.mp (by decide +kernel : (u_ws RX10 TX10 13).all goodWord = true) w h)
theorem giX11 : ∀ w ∈ u_ws RX11 TX11 32, w ∈ gtw := fun w h => gtw_in (goodIn_r _ [1135, 1137, 1139, 1141, 1143, 1145, 1147, 1149, 1151, 1153, 1155, 1157, 1159, 1161, 1163, 1165, 1167, 1169, 1171, 1173, 1175, 1177, 1179, 1181, 1183, 1185, 1187, 1189, 1191, 1193, 1195, 1197] (by decide +kernel) (by decide +kernel) w h).1 (List.all_eq_true.mp (by decide +kernel : (u_ws RX11 TX11 32).all goodWord = true) w h)
theorem kd_0 : kd 0 = (0, 10, [some 40, some 56, some 72, some 1, some 2, some 3, some 5, some 7, some 12, some 14, some 23, some 32, some 36]) := by decide +kernel
theorem kd_1 : kd 1 = (5, 2, [some 88, some 104]) := by decide +kernel
theorem kd_2 : kd 2 = (3, 2, []) := by decide +kernel
theorem kd_3 : kd 3 = (0, 6, [some 4, none]) := by decide +kernel
theorem kd_4 : kd 4 = (8, 8, []) := by decide +kernel
theorem kd_5 : kd 5 = (0, 9, [some 6, none]) := by decide +kernel
theorem kd_6 : kd 6 = (1, 80, []) := by decide +kernel
theorem kd_7 : kd 7 = (0, 0, [some 8, some 9, some 10, some 11, none]) := by decide +kernel
theorem kd_8 : kd 8 = (1, 80, []) := by decide +kernel
theorem kd_9 : kd 9 = (1, 80, []) := by decide +kernel
theorem kd_10 : kd 10 = (1, 80, []) := by decide +kernel
theorem kd_11 : kd 11 = (1, 80, []) := by decide +kernel
theorem kd_12 : kd 12 = (0, 5, [some 13, none]) := by decide +kernel
theorem kd_13 : kd 13 = (4, 512, []) := by decide +kernel
theorem kd_14 : kd 14 = (0, 4, [none, some 15, some 16, some 17, some 18, some 19, some 20, none, some 21, some 22, none]) := by decide +kernel
theorem kd_15 : kd 15 = (1, 64, []) := by decide +kernel
theorem kd_16 : kd 16 = (1, 64, []) := by decide +kernel
theorem kd_17 : kd 17 = (1, 64, []) := by decide +kernel
theorem kd_18 : kd 18 = (1, 8, []) := by decide +kernel
theorem kd_19 : kd 19 = (1, 8, []) := by decide +kernel
theorem kd_20 : kd 20 = (1, 8, []) := by decide +kernel
theorem kd_21 : kd 21 = (1, 256, []) := by decide +kernel
theorem kd_22 : kd 22 = (1, 256, []) := by decide +kernel
theorem kd_23 : kd 23 = (0, 8, [some 24, some 30, some 31, none]) := by decide +kernel
theorem kd_24 : kd 24 = (7, 5, [some 25, some 26, some 27, some 28, some 29]) := by decide +kernel
theorem kd_25 : kd 25 = (1, 64, []) := by decide +kernel
theorem kd_26 : kd 26 = (1, 64, []) := by decide +kernel
theorem kd_27 : kd 27 = (1, 64, []) := by decide +kernel
theorem kd_28 : kd 28 = (1, 64, []) := by decide +kernel
theorem kd_29 : kd 29 = (1, 64, []) := by decide +kernel
theorem kd_30 : kd 30 = (1, 5, []) := by decide +kernel
theorem kd_31 : kd 31 = (1, 5, []) := by decide +kernel
theorem kd_32 : kd 32 = (0, 7, [some 33, some 34, some 35, none, none]) := by decide +kernel
theorem kd_33 : kd 33 = (1, 8, []) := by decide +kernel
theorem kd_34 : kd 34 = (1, 8, []) := by decide +kernel
theorem kd_35 : kd 35 = (1, 8, []) := by decide +kernel
theorem kd_36 : kd 36 = (0, 2, [none, none, none, none]) := by decide +kernel
theorem kd_300 : kd 300 = (0, 11, [some 301, some 302, none, some 304, none, none, none, none, none, some 310, some 311, some 312, some 313, none, none, some 316, none, none, none, some 320, some 321, some 322, some 323, none, some 325, none, some 327, some 328, none, none, some 331, some 332]) := by decide +kernel
theorem kd_301 : kd 301 = (1, 405, []) := by decide +kernel
theorem kd_302 : kd 302 = (2, 80, []) := by decide +kernel
theorem kd_304 : kd 304 = (4, 2400, []) := by decide +kernel
theorem kd_310 : kd 310 = (1, 320, []) := by decide +kernel
theorem kd_311 : kd 311 = (1, 64, []) := by decide +kernel
theorem kd_312 : kd 312 = (1, 8, []) := by decide +kernel
theorem kd_313 : kd 313 = (1, 8, []) := by decide +kernel
theorem kd_316 : kd 316 = (1, 1620, []) := by decide +kernel
theorem kd_320 : kd 320 = (1, 8, []) := by decide +kernel
theorem kd_321 : kd 321 = (1, 5, []) := by decide +kernel
theorem kd_322 : kd 322 = (1, 5, []) := by decide +kernel
theorem kd_323 : kd 323 = (1, 2430, []) := by decide +kernel
theorem kd_325 : kd 325 = (1, 64, []) := by decide +kernel
theorem kd_327 : kd 327 = (1, 3240, []) := by decide +kernel
theorem kd_328 : kd 328 = (1, 405, []) := by decide +kernel
theorem kd_331 : kd 331 = (1, 810, []) := by decide +kernel
theorem kd_332 : kd 332 = (3, 2, []) := by decide +kernel
theorem kd_340 : kd 340 = (4, 1, []) := by decide +kernel
theorem q_mmax : Cond.code Lib.Math.max.name Lib.Math.max.code 2 (some .int) ∈ gtw := gtw_in (List.mem_of_getElem? (i := 520) (by decide +kernel)) (by decide +kernel)
theorem q_mmin : Cond.code Lib.Math.min.name Lib.Math.min.code 2 (some .int) ∈ gtw := gtw_in (List.mem_of_getElem? (i := 642) (by decide +kernel)) (by decide +kernel)
theorem q_256 : Cond.fieldLink RX5 15 "TrustClub$Numbers" "many" "I" ∈ gtw := gtw_in (List.mem_of_getElem? (i := 256) (by decide +kernel)) (by decide +kernel)
theorem q_254 : Cond.fieldLink RX5 9 "TrustClub$Numbers" "numbers" "[J" ∈ gtw := gtw_in (List.mem_of_getElem? (i := 254) (by decide +kernel)) (by decide +kernel)
theorem q_532 : Cond.code yX5_begin cX5_begin 1 none ∈ gtw := gtw_in (List.mem_of_getElem? (i := 532) (by decide +kernel)) (by decide +kernel)
theorem q_529 : Cond.methodLink RX5 19 yX5_begin ∈ gtw := gtw_in (List.mem_of_getElem? (i := 529) (by decide +kernel)) (by decide +kernel)
theorem q_530 : Cond.instanceMethod yX5_begin ∈ gtw := gtw_in (List.mem_of_getElem? (i := 530) (by decide +kernel)) (by decide +kernel)
theorem q_531 : Cond.selects RX5 yX5_begin yX5_begin ∈ gtw := gtw_in (List.mem_of_getElem? (i := 531) (by decide +kernel)) (by decide +kernel)
theorem q_100 : Cond.initialized RX5 ∈ gtw := gtw_in (List.mem_of_getElem? (i := 100) (by decide +kernel)) (by decide +kernel)
theorem q_536 : Cond.code yX5_add cX5_add 3 none ∈ gtw := gtw_in (List.mem_of_getElem? (i := 536) (by decide +kernel)) (by decide +kernel)
theorem q_533 : Cond.methodLink RX5 22 yX5_add ∈ gtw := gtw_in (List.mem_of_getElem? (i := 533) (by decide +kernel)) (by decide +kernel)
theorem q_534 : Cond.instanceMethod yX5_add ∈ gtw := gtw_in (List.mem_of_getElem? (i := 534) (by decide +kernel)) (by decide +kernel)
theorem q_535 : Cond.selects RX5 yX5_add yX5_add ∈ gtw := gtw_in (List.mem_of_getElem? (i := 535) (by decide +kernel)) (by decide +kernel)
theorem q_528 : Cond.code yX5_tellOne cX5_tellOne 3 none ∈ gtw := gtw_in (List.mem_of_getElem? (i := 528) (by decide +kernel)) (by decide +kernel)
theorem q_525 : Cond.methodLink RX5 26 yX5_tellOne ∈ gtw := gtw_in (List.mem_of_getElem? (i := 525) (by decide +kernel)) (by decide +kernel)
theorem q_526 : Cond.instanceMethod yX5_tellOne ∈ gtw := gtw_in (List.mem_of_getElem? (i := 526) (by decide +kernel)) (by decide +kernel)
theorem q_527 : Cond.selects RX5 yX5_tellOne yX5_tellOne ∈ gtw := gtw_in (List.mem_of_getElem? (i := 527) (by decide +kernel)) (by decide +kernel)
theorem q_524 : Cond.code yX5_tellTwo cX5_tellTwo 5 none ∈ gtw := gtw_in (List.mem_of_getElem? (i := 524) (by decide +kernel)) (by decide +kernel)
theorem q_560 : Cond.methodLink RX5 29 yX5_tellTwo ∈ gtw := gtw_in (List.mem_of_getElem? (i := 560) (by decide +kernel)) (by decide +kernel)
theorem q_522 : Cond.instanceMethod yX5_tellTwo ∈ gtw := gtw_in (List.mem_of_getElem? (i := 522) (by decide +kernel)) (by decide +kernel)
theorem q_523 : Cond.selects RX5 yX5_tellTwo yX5_tellTwo ∈ gtw := gtw_in (List.mem_of_getElem? (i := 523) (by decide +kernel)) (by decide +kernel)
theorem q_139 : Cond.fieldLink RX3 15 "TrustClub$Holding" "from" "I" ∈ gtw := gtw_in (List.mem_of_getElem? (i := 139) (by decide +kernel)) (by decide +kernel)
theorem q_141 : Cond.fieldLink RX3 19 "TrustClub$Holding" "to" "I" ∈ gtw := gtw_in (List.mem_of_getElem? (i := 141) (by decide +kernel)) (by decide +kernel)
theorem q_143 : Cond.fieldLink RX3 22 "TrustClub$Holding" "sum" "I" ∈ gtw := gtw_in (List.mem_of_getElem? (i := 143) (by decide +kernel)) (by decide +kernel)
theorem q_146 : Cond.fieldLink RX3 9 "TrustClub$Holding" "flow" "[I" ∈ gtw := gtw_in (List.mem_of_getElem? (i := 146) (by decide +kernel)) (by decide +kernel)
theorem q_485 : Cond.methodLink RX3 25 arraycopyName ∈ gtw := gtw_in (List.mem_of_getElem? (i := 485) (by decide +kernel)) (by decide +kernel)
theorem q_480 : Cond.native arraycopyName ∈ gtw := gtw_in (List.mem_of_getElem? (i := 480) (by decide +kernel)) (by decide +kernel)
theorem q_479 : Cond.static arraycopyName ∈ gtw := gtw_in (List.mem_of_getElem? (i := 479) (by decide +kernel)) (by decide +kernel)
theorem q_106 : Cond.initialized RJ10 ∈ gtw := gtw_in (List.mem_of_getElem? (i := 106) (by decide +kernel)) (by decide +kernel)
theorem q_273 : Cond.fieldLink RX4 15 "TrustClub$Network" "spaceAtFirst" "[I" ∈ gtw := gtw_in (List.mem_of_getElem? (i := 273) (by decide +kernel)) (by decide +kernel)
theorem q_461 : Cond.code yX10_at cX10_at 2 (some .int) ∈ gtw := gtw_in (List.mem_of_getElem? (i := 461) (by decide +kernel)) (by decide +kernel)
theorem q_460 : Cond.static yX10_at ∈ gtw := gtw_in (List.mem_of_getElem? (i := 460) (by decide +kernel)) (by decide +kernel)
theorem q_94 : Cond.initialized RX10 ∈ gtw := gtw_in (List.mem_of_getElem? (i := 94) (by decide +kernel)) (by decide +kernel)
theorem q_271 : Cond.fieldLink RX4 9 "TrustClub$Network" "space" "[I" ∈ gtw := gtw_in (List.mem_of_getElem? (i := 271) (by decide +kernel)) (by decide +kernel)
theorem q_717 : Cond.code yX4_gone cX4_gone 3 (some .int) ∈ gtw := gtw_in (List.mem_of_getElem? (i := 717) (by decide +kernel)) (by decide +kernel)
theorem q_753 : Cond.methodLink RX3 35 yX4_gone ∈ gtw := gtw_in (List.mem_of_getElem? (i := 753) (by decide +kernel)) (by decide +kernel)
theorem q_715 : Cond.instanceMethod yX4_gone ∈ gtw := gtw_in (List.mem_of_getElem? (i := 715) (by decide +kernel)) (by decide +kernel)
theorem q_716 : Cond.selects RX4 yX4_gone yX4_gone ∈ gtw := gtw_in (List.mem_of_getElem? (i := 716) (by decide +kernel)) (by decide +kernel)
theorem q_101 : Cond.initialized RX4 ∈ gtw := gtw_in (List.mem_of_getElem? (i := 101) (by decide +kernel)) (by decide +kernel)
theorem q_754 : Cond.methodLink RX3 40 Lib.Math.max.name ∈ gtw := gtw_in (List.mem_of_getElem? (i := 754) (by decide +kernel)) (by decide +kernel)
theorem q_519 : Cond.static Lib.Math.max.name ∈ gtw := gtw_in (List.mem_of_getElem? (i := 519) (by decide +kernel)) (by decide +kernel)
theorem q_107 : Cond.initialized RJ9 ∈ gtw := gtw_in (List.mem_of_getElem? (i := 107) (by decide +kernel)) (by decide +kernel)
theorem q_158 : Cond.fieldLink RX1 9 "TrustClub$Books" "members" "I" ∈ gtw := gtw_in (List.mem_of_getElem? (i := 158) (by decide +kernel)) (by decide +kernel)
theorem q_163 : Cond.fieldLink RX1 15 "TrustClub$Books" "limit" "[I" ∈ gtw := gtw_in (List.mem_of_getElem? (i := 163) (by decide +kernel)) (by decide +kernel)
theorem q_166 : Cond.fieldLink RX1 19 "TrustClub$Books" "debt" "[I" ∈ gtw := gtw_in (List.mem_of_getElem? (i := 166) (by decide +kernel)) (by decide +kernel)
theorem q_169 : Cond.fieldLink RX1 22 "TrustClub$Books" "stock" "[I" ∈ gtw := gtw_in (List.mem_of_getElem? (i := 169) (by decide +kernel)) (by decide +kernel)
theorem q_172 : Cond.fieldLink RX1 27 "TrustClub$Books" "holdings" "[LTrustClub$Holding;" ∈ gtw := gtw_in (List.mem_of_getElem? (i := 172) (by decide +kernel)) (by decide +kernel)
theorem q_144 : Cond.fieldLink RX1 32 "TrustClub$Holding" "sum" "I" ∈ gtw := gtw_in (List.mem_of_getElem? (i := 144) (by decide +kernel)) (by decide +kernel)
theorem q_478 : Cond.methodLink RX1 35 arraycopyName ∈ gtw := gtw_in (List.mem_of_getElem? (i := 478) (by decide +kernel)) (by decide +kernel)
theorem q_484 : Cond.code yX3_copyFrom cX3_copyFrom 2 none ∈ gtw := gtw_in (List.mem_of_getElem? (i := 484) (by decide +kernel)) (by decide +kernel)
theorem q_481 : Cond.methodLink RX1 41 yX3_copyFrom ∈ gtw := gtw_in (List.mem_of_getElem? (i := 481) (by decide +kernel)) (by decide +kernel)
theorem q_482 : Cond.instanceMethod yX3_copyFrom ∈ gtw := gtw_in (List.mem_of_getElem? (i := 482) (by decide +kernel)) (by decide +kernel)
theorem q_483 : Cond.selects RX3 yX3_copyFrom yX3_copyFrom ∈ gtw := gtw_in (List.mem_of_getElem? (i := 483) (by decide +kernel)) (by decide +kernel)
theorem q_96 : Cond.initialized RX3 ∈ gtw := gtw_in (List.mem_of_getElem? (i := 96) (by decide +kernel)) (by decide +kernel)
theorem q_494 : Cond.code yX1_has cX1_has 2 (some .boolean) ∈ gtw := gtw_in (List.mem_of_getElem? (i := 494) (by decide +kernel)) (by decide +kernel)
theorem q_546 : Cond.methodLink RX1 45 yX1_has ∈ gtw := gtw_in (List.mem_of_getElem? (i := 546) (by decide +kernel)) (by decide +kernel)
theorem q_492 : Cond.instanceMethod yX1_has ∈ gtw := gtw_in (List.mem_of_getElem? (i := 492) (by decide +kernel)) (by decide +kernel)
theorem q_493 : Cond.selects RX1 yX1_has yX1_has ∈ gtw := gtw_in (List.mem_of_getElem? (i := 493) (by decide +kernel)) (by decide +kernel)
theorem q_95 : Cond.initialized RX1 ∈ gtw := gtw_in (List.mem_of_getElem? (i := 95) (by decide +kernel)) (by decide +kernel)
theorem q_518 : Cond.methodLink RX1 53 Lib.Math.max.name ∈ gtw := gtw_in (List.mem_of_getElem? (i := 518) (by decide +kernel)) (by decide +kernel)
theorem q_147 : Cond.fieldLink RX1 58 "TrustClub$Holding" "flow" "[I" ∈ gtw := gtw_in (List.mem_of_getElem? (i := 147) (by decide +kernel)) (by decide +kernel)
theorem q_554 : Cond.code yX1_heldBetween cX1_heldBetween 6 (some .int) ∈ gtw := gtw_in (List.mem_of_getElem? (i := 554) (by decide +kernel)) (by decide +kernel)
theorem q_551 : Cond.methodLink RX1 61 yX1_heldBetween ∈ gtw := gtw_in (List.mem_of_getElem? (i := 551) (by decide +kernel)) (by decide +kernel)
theorem q_552 : Cond.instanceMethod yX1_heldBetween ∈ gtw := gtw_in (List.mem_of_getElem? (i := 552) (by decide +kernel)) (by decide +kernel)
theorem q_553 : Cond.selects RX1 yX1_heldBetween yX1_heldBetween ∈ gtw := gtw_in (List.mem_of_getElem? (i := 553) (by decide +kernel)) (by decide +kernel)
theorem q_930 : Cond.code yX1_closeLine cX1_closeLine 3 (some .int) ∈ gtw := gtw_in (List.mem_of_getElem? (i := 930) (by decide +kernel)) (by decide +kernel)
theorem q_927 : Cond.methodLink RX1 64 yX1_closeLine ∈ gtw := gtw_in (List.mem_of_getElem? (i := 927) (by decide +kernel)) (by decide +kernel)
theorem q_929 : Cond.instanceMethod yX1_closeLine ∈ gtw := gtw_in (List.mem_of_getElem? (i := 929) (by decide +kernel)) (by decide +kernel)
theorem q_25 : Cond.selects RX1 yX1_closeLine yX1_closeLine ∈ gtw := gtw_in (List.mem_of_getElem? (i := 25) (by decide +kernel)) (by decide +kernel)
theorem q_502 : Cond.code yX1_heldPlaces cX1_heldPlaces 3 (some .int) ∈ gtw := gtw_in (List.mem_of_getElem? (i := 502) (by decide +kernel)) (by decide +kernel)
theorem q_499 : Cond.methodLink RX1 68 yX1_heldPlaces ∈ gtw := gtw_in (List.mem_of_getElem? (i := 499) (by decide +kernel)) (by decide +kernel)
theorem q_500 : Cond.instanceMethod yX1_heldPlaces ∈ gtw := gtw_in (List.mem_of_getElem? (i := 500) (by decide +kernel)) (by decide +kernel)
theorem q_501 : Cond.selects RX1 yX1_heldPlaces yX1_heldPlaces ∈ gtw := gtw_in (List.mem_of_getElem? (i := 501) (by decide +kernel)) (by decide +kernel)
theorem q_766 : Cond.code yX1_isHeldAt cX1_isHeldAt 2 (some .boolean) ∈ gtw := gtw_in (List.mem_of_getElem? (i := 766) (by decide +kernel)) (by decide +kernel)
theorem q_771 : Cond.methodLink RX1 72 yX1_isHeldAt ∈ gtw := gtw_in (List.mem_of_getElem? (i := 771) (by decide +kernel)) (by decide +kernel)
theorem q_764 : Cond.instanceMethod yX1_isHeldAt ∈ gtw := gtw_in (List.mem_of_getElem? (i := 764) (by decide +kernel)) (by decide +kernel)
theorem q_765 : Cond.selects RX1 yX1_isHeldAt yX1_isHeldAt ∈ gtw := gtw_in (List.mem_of_getElem? (i := 765) (by decide +kernel)) (by decide +kernel)
theorem q_776 : Cond.code yX1_dropAt cX1_dropAt 3 (some .int) ∈ gtw := gtw_in (List.mem_of_getElem? (i := 776) (by decide +kernel)) (by decide +kernel)
theorem q_773 : Cond.methodLink RX1 79 yX1_dropAt ∈ gtw := gtw_in (List.mem_of_getElem? (i := 773) (by decide +kernel)) (by decide +kernel)
theorem q_774 : Cond.instanceMethod yX1_dropAt ∈ gtw := gtw_in (List.mem_of_getElem? (i := 774) (by decide +kernel)) (by decide +kernel)
theorem q_775 : Cond.selects RX1 yX1_dropAt yX1_dropAt ∈ gtw := gtw_in (List.mem_of_getElem? (i := 775) (by decide +kernel)) (by decide +kernel)
theorem q_701 : Cond.code yX1_payStraight cX1_payStraight 4 none ∈ gtw := gtw_in (List.mem_of_getElem? (i := 701) (by decide +kernel)) (by decide +kernel)
theorem q_772 : Cond.methodLink RX1 75 yX1_payStraight ∈ gtw := gtw_in (List.mem_of_getElem? (i := 772) (by decide +kernel)) (by decide +kernel)
theorem q_699 : Cond.instanceMethod yX1_payStraight ∈ gtw := gtw_in (List.mem_of_getElem? (i := 699) (by decide +kernel)) (by decide +kernel)
theorem q_700 : Cond.selects RX1 yX1_payStraight yX1_payStraight ∈ gtw := gtw_in (List.mem_of_getElem? (i := 700) (by decide +kernel)) (by decide +kernel)
theorem q_210 : Cond.fieldLink RX9 15 "TrustClub$Text" "length" "I" ∈ gtw := gtw_in (List.mem_of_getElem? (i := 210) (by decide +kernel)) (by decide +kernel)
theorem q_209 : Cond.fieldLink RX9 9 "TrustClub$Text" "signs" "[I" ∈ gtw := gtw_in (List.mem_of_getElem? (i := 209) (by decide +kernel)) (by decide +kernel)
theorem q_450 : Cond.code yX9_signAt cX9_signAt 2 (some .int) ∈ gtw := gtw_in (List.mem_of_getElem? (i := 450) (by decide +kernel)) (by decide +kernel)
theorem q_447 : Cond.methodLink RX9 19 yX9_signAt ∈ gtw := gtw_in (List.mem_of_getElem? (i := 447) (by decide +kernel)) (by decide +kernel)
theorem q_448 : Cond.instanceMethod yX9_signAt ∈ gtw := gtw_in (List.mem_of_getElem? (i := 448) (by decide +kernel)) (by decide +kernel)
theorem q_449 : Cond.selects RX9 yX9_signAt yX9_signAt ∈ gtw := gtw_in (List.mem_of_getElem? (i := 449) (by decide +kernel)) (by decide +kernel)
theorem q_98 : Cond.initialized RX9 ∈ gtw := gtw_in (List.mem_of_getElem? (i := 98) (by decide +kernel)) (by decide +kernel)
theorem q_446 : Cond.code yX9_digitAt cX9_digitAt 3 (some .int) ∈ gtw := gtw_in (List.mem_of_getElem? (i := 446) (by decide +kernel)) (by decide +kernel)
theorem q_443 : Cond.methodLink RX9 23 yX9_digitAt ∈ gtw := gtw_in (List.mem_of_getElem? (i := 443) (by decide +kernel)) (by decide +kernel)
theorem q_444 : Cond.instanceMethod yX9_digitAt ∈ gtw := gtw_in (List.mem_of_getElem? (i := 444) (by decide +kernel)) (by decide +kernel)
theorem q_445 : Cond.selects RX9 yX9_digitAt yX9_digitAt ∈ gtw := gtw_in (List.mem_of_getElem? (i := 445) (by decide +kernel)) (by decide +kernel)
theorem q_454 : Cond.code yX1_startAnew cX1_startAnew 3 none ∈ gtw := gtw_in (List.mem_of_getElem? (i := 454) (by decide +kernel)) (by decide +kernel)
theorem q_451 : Cond.methodLink RX9 26 yX1_startAnew ∈ gtw := gtw_in (List.mem_of_getElem? (i := 451) (by decide +kernel)) (by decide +kernel)
theorem q_452 : Cond.instanceMethod yX1_startAnew ∈ gtw := gtw_in (List.mem_of_getElem? (i := 452) (by decide +kernel)) (by decide +kernel)
theorem q_453 : Cond.selects RX1 yX1_startAnew yX1_startAnew ∈ gtw := gtw_in (List.mem_of_getElem? (i := 453) (by decide +kernel)) (by decide +kernel)
theorem q_458 : Cond.code yX9_letterAt cX9_letterAt 4 (some .int) ∈ gtw := gtw_in (List.mem_of_getElem? (i := 458) (by decide +kernel)) (by decide +kernel)
theorem q_455 : Cond.methodLink RX9 32 yX9_letterAt ∈ gtw := gtw_in (List.mem_of_getElem? (i := 455) (by decide +kernel)) (by decide +kernel)
theorem q_456 : Cond.instanceMethod yX9_letterAt ∈ gtw := gtw_in (List.mem_of_getElem? (i := 456) (by decide +kernel)) (by decide +kernel)
theorem q_457 : Cond.selects RX9 yX9_letterAt yX9_letterAt ∈ gtw := gtw_in (List.mem_of_getElem? (i := 457) (by decide +kernel)) (by decide +kernel)
theorem q_465 : Cond.code yX9_numberAt cX9_numberAt 6 (some .int) ∈ gtw := gtw_in (List.mem_of_getElem? (i := 465) (by decide +kernel)) (by decide +kernel)
theorem q_462 : Cond.methodLink RX9 39 yX9_numberAt ∈ gtw := gtw_in (List.mem_of_getElem? (i := 462) (by decide +kernel)) (by decide +kernel)
theorem q_463 : Cond.instanceMethod yX9_numberAt ∈ gtw := gtw_in (List.mem_of_getElem? (i := 463) (by decide +kernel)) (by decide +kernel)
theorem q_464 : Cond.selects RX9 yX9_numberAt yX9_numberAt ∈ gtw := gtw_in (List.mem_of_getElem? (i := 464) (by decide +kernel)) (by decide +kernel)
theorem q_165 : Cond.fieldLink RX9 42 "TrustClub$Books" "limit" "[I" ∈ gtw := gtw_in (List.mem_of_getElem? (i := 165) (by decide +kernel)) (by decide +kernel)
theorem q_235 : Cond.fieldLink RX0 24 "TrustClub$Acts" "many" "I" ∈ gtw := gtw_in (List.mem_of_getElem? (i := 235) (by decide +kernel)) (by decide +kernel)
theorem q_224 : Cond.fieldLink RX0 9 "TrustClub$Acts" "kind" "[I" ∈ gtw := gtw_in (List.mem_of_getElem? (i := 224) (by decide +kernel)) (by decide +kernel)
theorem q_226 : Cond.fieldLink RX0 15 "TrustClub$Acts" "first" "[I" ∈ gtw := gtw_in (List.mem_of_getElem? (i := 226) (by decide +kernel)) (by decide +kernel)
theorem q_229 : Cond.fieldLink RX0 18 "TrustClub$Acts" "second" "[I" ∈ gtw := gtw_in (List.mem_of_getElem? (i := 229) (by decide +kernel)) (by decide +kernel)
theorem q_232 : Cond.fieldLink RX0 21 "TrustClub$Acts" "number" "[I" ∈ gtw := gtw_in (List.mem_of_getElem? (i := 232) (by decide +kernel)) (by decide +kernel)
theorem q_211 : Cond.fieldLink RX0 28 "TrustClub$Text" "length" "I" ∈ gtw := gtw_in (List.mem_of_getElem? (i := 211) (by decide +kernel)) (by decide +kernel)
theorem q_798 : Cond.methodLink RX0 33 yX9_letterAt ∈ gtw := gtw_in (List.mem_of_getElem? (i := 798) (by decide +kernel)) (by decide +kernel)
theorem q_799 : Cond.methodLink RX0 37 yX9_numberAt ∈ gtw := gtw_in (List.mem_of_getElem? (i := 799) (by decide +kernel)) (by decide +kernel)
theorem q_803 : Cond.code yX0_add cX0_add 5 none ∈ gtw := gtw_in (List.mem_of_getElem? (i := 803) (by decide +kernel)) (by decide +kernel)
theorem q_800 : Cond.methodLink RX0 40 yX0_add ∈ gtw := gtw_in (List.mem_of_getElem? (i := 800) (by decide +kernel)) (by decide +kernel)
theorem q_802 : Cond.instanceMethod yX0_add ∈ gtw := gtw_in (List.mem_of_getElem? (i := 802) (by decide +kernel)) (by decide +kernel)
theorem q_17 : Cond.selects RX0 yX0_add yX0_add ∈ gtw := gtw_in (List.mem_of_getElem? (i := 17) (by decide +kernel)) (by decide +kernel)
theorem q_99 : Cond.initialized RX0 ∈ gtw := gtw_in (List.mem_of_getElem? (i := 99) (by decide +kernel)) (by decide +kernel)
theorem q_939 : Cond.methodLink RX0 44 yX9_signAt ∈ gtw := gtw_in (List.mem_of_getElem? (i := 939) (by decide +kernel)) (by decide +kernel)
theorem q_942 : Cond.code yX0_lettersOf cX0_lettersOf 1 (some .int) ∈ gtw := gtw_in (List.mem_of_getElem? (i := 942) (by decide +kernel)) (by decide +kernel)
theorem q_940 : Cond.methodLink RX0 48 yX0_lettersOf ∈ gtw := gtw_in (List.mem_of_getElem? (i := 940) (by decide +kernel)) (by decide +kernel)
theorem q_941 : Cond.static yX0_lettersOf ∈ gtw := gtw_in (List.mem_of_getElem? (i := 941) (by decide +kernel)) (by decide +kernel)
theorem q_945 : Cond.code yX0_digitsOf cX0_digitsOf 1 (some .int) ∈ gtw := gtw_in (List.mem_of_getElem? (i := 945) (by decide +kernel)) (by decide +kernel)
theorem q_943 : Cond.methodLink RX0 51 yX0_digitsOf ∈ gtw := gtw_in (List.mem_of_getElem? (i := 943) (by decide +kernel)) (by decide +kernel)
theorem q_944 : Cond.static yX0_digitsOf ∈ gtw := gtw_in (List.mem_of_getElem? (i := 944) (by decide +kernel)) (by decide +kernel)
theorem q_195 : Cond.fieldLink RX6 18 "TrustClub$Past" "many" "I" ∈ gtw := gtw_in (List.mem_of_getElem? (i := 195) (by decide +kernel)) (by decide +kernel)
theorem q_194 : Cond.fieldLink RX6 11 "TrustClub$Past" "stack" "[LTrustClub$Books;" ∈ gtw := gtw_in (List.mem_of_getElem? (i := 194) (by decide +kernel)) (by decide +kernel)
theorem q_477 : Cond.code yX1_copyFrom cX1_copyFrom 3 none ∈ gtw := gtw_in (List.mem_of_getElem? (i := 477) (by decide +kernel)) (by decide +kernel)
theorem q_474 : Cond.methodLink RX6 22 yX1_copyFrom ∈ gtw := gtw_in (List.mem_of_getElem? (i := 474) (by decide +kernel)) (by decide +kernel)
theorem q_475 : Cond.instanceMethod yX1_copyFrom ∈ gtw := gtw_in (List.mem_of_getElem? (i := 475) (by decide +kernel)) (by decide +kernel)
theorem q_476 : Cond.selects RX1 yX1_copyFrom yX1_copyFrom ∈ gtw := gtw_in (List.mem_of_getElem? (i := 476) (by decide +kernel)) (by decide +kernel)
theorem q_159 : Cond.fieldLink RX4 36 "TrustClub$Books" "members" "I" ∈ gtw := gtw_in (List.mem_of_getElem? (i := 159) (by decide +kernel)) (by decide +kernel)
theorem q_270 : Cond.fieldLink RX4 42 "TrustClub$Network" "members" "I" ∈ gtw := gtw_in (List.mem_of_getElem? (i := 270) (by decide +kernel)) (by decide +kernel)
theorem q_586 : Cond.methodLink RX4 50 arraycopyName ∈ gtw := gtw_in (List.mem_of_getElem? (i := 586) (by decide +kernel)) (by decide +kernel)
theorem q_550 : Cond.code yX1_room cX1_room 3 (some .int) ∈ gtw := gtw_in (List.mem_of_getElem? (i := 550) (by decide +kernel)) (by decide +kernel)
theorem q_585 : Cond.methodLink RX4 47 yX1_room ∈ gtw := gtw_in (List.mem_of_getElem? (i := 585) (by decide +kernel)) (by decide +kernel)
theorem q_548 : Cond.instanceMethod yX1_room ∈ gtw := gtw_in (List.mem_of_getElem? (i := 548) (by decide +kernel)) (by decide +kernel)
theorem q_549 : Cond.selects RX1 yX1_room yX1_room ∈ gtw := gtw_in (List.mem_of_getElem? (i := 549) (by decide +kernel)) (by decide +kernel)
theorem q_714 : Cond.methodLink RX4 56 yX4_gone ∈ gtw := gtw_in (List.mem_of_getElem? (i := 714) (by decide +kernel)) (by decide +kernel)
theorem q_718 : Cond.methodLink RX4 59 yX1_payStraight ∈ gtw := gtw_in (List.mem_of_getElem? (i := 718) (by decide +kernel)) (by decide +kernel)
theorem q_277 : Cond.fieldLink RX4 27 "TrustClub$Network" "path" "[I" ∈ gtw := gtw_in (List.mem_of_getElem? (i := 277) (by decide +kernel)) (by decide +kernel)
theorem q_275 : Cond.fieldLink RX4 21 "TrustClub$Network" "distance" "[I" ∈ gtw := gtw_in (List.mem_of_getElem? (i := 275) (by decide +kernel)) (by decide +kernel)
theorem q_276 : Cond.fieldLink RX4 24 "TrustClub$Network" "queue" "[I" ∈ gtw := gtw_in (List.mem_of_getElem? (i := 276) (by decide +kernel)) (by decide +kernel)
theorem q_594 : Cond.code yX4_measure cX4_measure 8 none ∈ gtw := gtw_in (List.mem_of_getElem? (i := 594) (by decide +kernel)) (by decide +kernel)
theorem q_591 : Cond.methodLink RX4 63 yX4_measure ∈ gtw := gtw_in (List.mem_of_getElem? (i := 591) (by decide +kernel)) (by decide +kernel)
theorem q_593 : Cond.instanceMethod yX4_measure ∈ gtw := gtw_in (List.mem_of_getElem? (i := 593) (by decide +kernel)) (by decide +kernel)
theorem q_2 : Cond.selects RX4 yX4_measure yX4_measure ∈ gtw := gtw_in (List.mem_of_getElem? (i := 2) (by decide +kernel)) (by decide +kernel)
theorem q_278 : Cond.fieldLink RX4 67 "TrustClub$Network" "wayLength" "I" ∈ gtw := gtw_in (List.mem_of_getElem? (i := 278) (by decide +kernel)) (by decide +kernel)
theorem q_598 : Cond.code yX4_nextTowards cX4_nextTowards 5 (some .int) ∈ gtw := gtw_in (List.mem_of_getElem? (i := 598) (by decide +kernel)) (by decide +kernel)
theorem q_595 : Cond.methodLink RX4 70 yX4_nextTowards ∈ gtw := gtw_in (List.mem_of_getElem? (i := 595) (by decide +kernel)) (by decide +kernel)
theorem q_597 : Cond.instanceMethod yX4_nextTowards ∈ gtw := gtw_in (List.mem_of_getElem? (i := 597) (by decide +kernel)) (by decide +kernel)
theorem q_3 : Cond.selects RX4 yX4_nextTowards yX4_nextTowards ∈ gtw := gtw_in (List.mem_of_getElem? (i := 3) (by decide +kernel)) (by decide +kernel)
theorem q_638 : Cond.constant RX4 74 (Int32.ofInt (1000000)) ∈ gtw := gtw_in (List.mem_of_getElem? (i := 638) (by decide +kernel)) (by decide +kernel)
theorem q_607 : Cond.code yX4_wayMember cX4_wayMember 2 (some .int) ∈ gtw := gtw_in (List.mem_of_getElem? (i := 607) (by decide +kernel)) (by decide +kernel)
theorem q_639 : Cond.methodLink RX4 75 yX4_wayMember ∈ gtw := gtw_in (List.mem_of_getElem? (i := 639) (by decide +kernel)) (by decide +kernel)
theorem q_605 : Cond.instanceMethod yX4_wayMember ∈ gtw := gtw_in (List.mem_of_getElem? (i := 605) (by decide +kernel)) (by decide +kernel)
theorem q_606 : Cond.selects RX4 yX4_wayMember yX4_wayMember ∈ gtw := gtw_in (List.mem_of_getElem? (i := 606) (by decide +kernel)) (by decide +kernel)
theorem q_640 : Cond.methodLink RX4 79 Lib.Math.min.name ∈ gtw := gtw_in (List.mem_of_getElem? (i := 640) (by decide +kernel)) (by decide +kernel)
theorem q_641 : Cond.static Lib.Math.min.name ∈ gtw := gtw_in (List.mem_of_getElem? (i := 641) (by decide +kernel)) (by decide +kernel)
theorem q_284 : Cond.fieldLink RX4 84 "TrustClub$Network" "parts" "I" ∈ gtw := gtw_in (List.mem_of_getElem? (i := 284) (by decide +kernel)) (by decide +kernel)
theorem q_590 : Cond.code yX4_findWay cX4_findWay 7 (some .boolean) ∈ gtw := gtw_in (List.mem_of_getElem? (i := 590) (by decide +kernel)) (by decide +kernel)
theorem q_633 : Cond.methodLink RX4 87 yX4_findWay ∈ gtw := gtw_in (List.mem_of_getElem? (i := 633) (by decide +kernel)) (by decide +kernel)
theorem q_588 : Cond.instanceMethod yX4_findWay ∈ gtw := gtw_in (List.mem_of_getElem? (i := 588) (by decide +kernel)) (by decide +kernel)
theorem q_589 : Cond.selects RX4 yX4_findWay yX4_findWay ∈ gtw := gtw_in (List.mem_of_getElem? (i := 589) (by decide +kernel)) (by decide +kernel)
theorem q_637 : Cond.code yX4_leastSpace cX4_leastSpace 3 (some .int) ∈ gtw := gtw_in (List.mem_of_getElem? (i := 637) (by decide +kernel)) (by decide +kernel)
theorem q_634 : Cond.methodLink RX4 91 yX4_leastSpace ∈ gtw := gtw_in (List.mem_of_getElem? (i := 634) (by decide +kernel)) (by decide +kernel)
theorem q_636 : Cond.instanceMethod yX4_leastSpace ∈ gtw := gtw_in (List.mem_of_getElem? (i := 636) (by decide +kernel)) (by decide +kernel)
theorem q_5 : Cond.selects RX4 yX4_leastSpace yX4_leastSpace ∈ gtw := gtw_in (List.mem_of_getElem? (i := 5) (by decide +kernel)) (by decide +kernel)
theorem q_646 : Cond.code yX4_pushAlong cX4_pushAlong 5 none ∈ gtw := gtw_in (List.mem_of_getElem? (i := 646) (by decide +kernel)) (by decide +kernel)
theorem q_643 : Cond.methodLink RX4 95 yX4_pushAlong ∈ gtw := gtw_in (List.mem_of_getElem? (i := 643) (by decide +kernel)) (by decide +kernel)
theorem q_644 : Cond.instanceMethod yX4_pushAlong ∈ gtw := gtw_in (List.mem_of_getElem? (i := 644) (by decide +kernel)) (by decide +kernel)
theorem q_645 : Cond.selects RX4 yX4_pushAlong yX4_pushAlong ∈ gtw := gtw_in (List.mem_of_getElem? (i := 645) (by decide +kernel)) (by decide +kernel)
theorem q_280 : Cond.fieldLink RX4 30 "TrustClub$Network" "partLengths" "[I" ∈ gtw := gtw_in (List.mem_of_getElem? (i := 280) (by decide +kernel)) (by decide +kernel)
theorem q_282 : Cond.fieldLink RX4 33 "TrustClub$Network" "partSums" "[I" ∈ gtw := gtw_in (List.mem_of_getElem? (i := 282) (by decide +kernel)) (by decide +kernel)
theorem q_274 : Cond.fieldLink RX4 18 "TrustClub$Network" "spaceSaved" "[I" ∈ gtw := gtw_in (List.mem_of_getElem? (i := 274) (by decide +kernel)) (by decide +kernel)
theorem q_632 : Cond.code yX4_send cX4_send 6 (some .int) ∈ gtw := gtw_in (List.mem_of_getElem? (i := 632) (by decide +kernel)) (by decide +kernel)
theorem q_973 : Cond.methodLink RX4 99 yX4_send ∈ gtw := gtw_in (List.mem_of_getElem? (i := 973) (by decide +kernel)) (by decide +kernel)
theorem q_630 : Cond.instanceMethod yX4_send ∈ gtw := gtw_in (List.mem_of_getElem? (i := 630) (by decide +kernel)) (by decide +kernel)
theorem q_631 : Cond.selects RX4 yX4_send yX4_send ∈ gtw := gtw_in (List.mem_of_getElem? (i := 631) (by decide +kernel)) (by decide +kernel)
theorem q_651 : Cond.methodLink RX4 102 Lib.Math.max.name ∈ gtw := gtw_in (List.mem_of_getElem? (i := 651) (by decide +kernel)) (by decide +kernel)
theorem q_340 : Cond.fieldLink RX7 18 "TrustClub$Rings" "path" "[I" ∈ gtw := gtw_in (List.mem_of_getElem? (i := 340) (by decide +kernel)) (by decide +kernel)
theorem q_338 : Cond.fieldLink RX7 9 "TrustClub$Rings" "distance" "[I" ∈ gtw := gtw_in (List.mem_of_getElem? (i := 338) (by decide +kernel)) (by decide +kernel)
theorem q_339 : Cond.fieldLink RX7 15 "TrustClub$Rings" "queue" "[I" ∈ gtw := gtw_in (List.mem_of_getElem? (i := 339) (by decide +kernel)) (by decide +kernel)
theorem q_161 : Cond.fieldLink RX7 25 "TrustClub$Books" "members" "I" ∈ gtw := gtw_in (List.mem_of_getElem? (i := 161) (by decide +kernel)) (by decide +kernel)
theorem q_167 : Cond.fieldLink RX7 53 "TrustClub$Books" "debt" "[I" ∈ gtw := gtw_in (List.mem_of_getElem? (i := 167) (by decide +kernel)) (by decide +kernel)
theorem q_667 : Cond.code yX7_measure cX7_measure 8 none ∈ gtw := gtw_in (List.mem_of_getElem? (i := 667) (by decide +kernel)) (by decide +kernel)
theorem q_664 : Cond.methodLink RX7 34 yX7_measure ∈ gtw := gtw_in (List.mem_of_getElem? (i := 664) (by decide +kernel)) (by decide +kernel)
theorem q_666 : Cond.instanceMethod yX7_measure ∈ gtw := gtw_in (List.mem_of_getElem? (i := 666) (by decide +kernel)) (by decide +kernel)
theorem q_7 : Cond.selects RX7 yX7_measure yX7_measure ∈ gtw := gtw_in (List.mem_of_getElem? (i := 7) (by decide +kernel)) (by decide +kernel)
theorem q_103 : Cond.initialized RX7 ∈ gtw := gtw_in (List.mem_of_getElem? (i := 103) (by decide +kernel)) (by decide +kernel)
theorem q_516 : Cond.code yX1_owed cX1_owed 3 (some .int) ∈ gtw := gtw_in (List.mem_of_getElem? (i := 516) (by decide +kernel)) (by decide +kernel)
theorem q_669 : Cond.methodLink RX7 49 yX1_owed ∈ gtw := gtw_in (List.mem_of_getElem? (i := 669) (by decide +kernel)) (by decide +kernel)
theorem q_514 : Cond.instanceMethod yX1_owed ∈ gtw := gtw_in (List.mem_of_getElem? (i := 514) (by decide +kernel)) (by decide +kernel)
theorem q_515 : Cond.selects RX1 yX1_owed yX1_owed ∈ gtw := gtw_in (List.mem_of_getElem? (i := 515) (by decide +kernel)) (by decide +kernel)
theorem q_341 : Cond.fieldLink RX7 21 "TrustClub$Rings" "many" "I" ∈ gtw := gtw_in (List.mem_of_getElem? (i := 341) (by decide +kernel)) (by decide +kernel)
theorem q_682 : Cond.code yX7_memberAt cX7_memberAt 2 (some .int) ∈ gtw := gtw_in (List.mem_of_getElem? (i := 682) (by decide +kernel)) (by decide +kernel)
theorem q_679 : Cond.methodLink RX7 60 yX7_memberAt ∈ gtw := gtw_in (List.mem_of_getElem? (i := 679) (by decide +kernel)) (by decide +kernel)
theorem q_680 : Cond.instanceMethod yX7_memberAt ∈ gtw := gtw_in (List.mem_of_getElem? (i := 680) (by decide +kernel)) (by decide +kernel)
theorem q_681 : Cond.selects RX7 yX7_memberAt yX7_memberAt ∈ gtw := gtw_in (List.mem_of_getElem? (i := 681) (by decide +kernel)) (by decide +kernel)
theorem q_678 : Cond.constant RX7 59 (Int32.ofInt (1000000)) ∈ gtw := gtw_in (List.mem_of_getElem? (i := 678) (by decide +kernel)) (by decide +kernel)
theorem q_686 : Cond.code yX7_nextOnRing cX7_nextOnRing 2 (some .int) ∈ gtw := gtw_in (List.mem_of_getElem? (i := 686) (by decide +kernel)) (by decide +kernel)
theorem q_683 : Cond.methodLink RX7 64 yX7_nextOnRing ∈ gtw := gtw_in (List.mem_of_getElem? (i := 683) (by decide +kernel)) (by decide +kernel)
theorem q_685 : Cond.instanceMethod yX7_nextOnRing ∈ gtw := gtw_in (List.mem_of_getElem? (i := 685) (by decide +kernel)) (by decide +kernel)
theorem q_10 : Cond.selects RX7 yX7_nextOnRing yX7_nextOnRing ∈ gtw := gtw_in (List.mem_of_getElem? (i := 10) (by decide +kernel)) (by decide +kernel)
theorem q_687 : Cond.methodLink RX7 67 Lib.Math.min.name ∈ gtw := gtw_in (List.mem_of_getElem? (i := 687) (by decide +kernel)) (by decide +kernel)
theorem q_663 : Cond.code yX7_lengthFrom cX7_lengthFrom 6 (some .int) ∈ gtw := gtw_in (List.mem_of_getElem? (i := 663) (by decide +kernel)) (by decide +kernel)
theorem q_660 : Cond.methodLink RX7 30 yX7_lengthFrom ∈ gtw := gtw_in (List.mem_of_getElem? (i := 660) (by decide +kernel)) (by decide +kernel)
theorem q_662 : Cond.instanceMethod yX7_lengthFrom ∈ gtw := gtw_in (List.mem_of_getElem? (i := 662) (by decide +kernel)) (by decide +kernel)
theorem q_6 : Cond.selects RX7 yX7_lengthFrom yX7_lengthFrom ∈ gtw := gtw_in (List.mem_of_getElem? (i := 6) (by decide +kernel)) (by decide +kernel)
theorem q_673 : Cond.code yX7_nextTowards cX7_nextTowards 6 (some .int) ∈ gtw := gtw_in (List.mem_of_getElem? (i := 673) (by decide +kernel)) (by decide +kernel)
theorem q_670 : Cond.methodLink RX7 38 yX7_nextTowards ∈ gtw := gtw_in (List.mem_of_getElem? (i := 670) (by decide +kernel)) (by decide +kernel)
theorem q_672 : Cond.instanceMethod yX7_nextTowards ∈ gtw := gtw_in (List.mem_of_getElem? (i := 672) (by decide +kernel)) (by decide +kernel)
theorem q_8 : Cond.selects RX7 yX7_nextTowards yX7_nextTowards ∈ gtw := gtw_in (List.mem_of_getElem? (i := 8) (by decide +kernel)) (by decide +kernel)
theorem q_677 : Cond.code yX7_leastOwed cX7_leastOwed 4 (some .int) ∈ gtw := gtw_in (List.mem_of_getElem? (i := 677) (by decide +kernel)) (by decide +kernel)
theorem q_674 : Cond.methodLink RX7 42 yX7_leastOwed ∈ gtw := gtw_in (List.mem_of_getElem? (i := 674) (by decide +kernel)) (by decide +kernel)
theorem q_676 : Cond.instanceMethod yX7_leastOwed ∈ gtw := gtw_in (List.mem_of_getElem? (i := 676) (by decide +kernel)) (by decide +kernel)
theorem q_9 : Cond.selects RX7 yX7_leastOwed yX7_leastOwed ∈ gtw := gtw_in (List.mem_of_getElem? (i := 9) (by decide +kernel)) (by decide +kernel)
theorem q_343 : Cond.fieldLink RX7 46 "TrustClub$Rings" "least" "I" ∈ gtw := gtw_in (List.mem_of_getElem? (i := 343) (by decide +kernel)) (by decide +kernel)
theorem q_659 : Cond.code yX7_find cX7_find 5 (some .boolean) ∈ gtw := gtw_in (List.mem_of_getElem? (i := 659) (by decide +kernel)) (by decide +kernel)
theorem q_697 : Cond.methodLink RX7 72 yX7_find ∈ gtw := gtw_in (List.mem_of_getElem? (i := 697) (by decide +kernel)) (by decide +kernel)
theorem q_657 : Cond.instanceMethod yX7_find ∈ gtw := gtw_in (List.mem_of_getElem? (i := 657) (by decide +kernel)) (by decide +kernel)
theorem q_658 : Cond.selects RX7 yX7_find yX7_find ∈ gtw := gtw_in (List.mem_of_getElem? (i := 658) (by decide +kernel)) (by decide +kernel)
theorem q_698 : Cond.methodLink RX7 76 yX1_payStraight ∈ gtw := gtw_in (List.mem_of_getElem? (i := 698) (by decide +kernel)) (by decide +kernel)
theorem q_160 : Cond.fieldLink RX2 28 "TrustClub$Books" "members" "I" ∈ gtw := gtw_in (List.mem_of_getElem? (i := 160) (by decide +kernel)) (by decide +kernel)
theorem q_852 : Cond.methodLink RX2 41 yX1_owed ∈ gtw := gtw_in (List.mem_of_getElem? (i := 852) (by decide +kernel)) (by decide +kernel)
theorem q_851 : Cond.code yX2_lossOf cX2_lossOf 5 (some .int) ∈ gtw := gtw_in (List.mem_of_getElem? (i := 851) (by decide +kernel)) (by decide +kernel)
theorem q_849 : Cond.methodLink RX2 33 yX2_lossOf ∈ gtw := gtw_in (List.mem_of_getElem? (i := 849) (by decide +kernel)) (by decide +kernel)
theorem q_850 : Cond.static yX2_lossOf ∈ gtw := gtw_in (List.mem_of_getElem? (i := 850) (by decide +kernel)) (by decide +kernel)
theorem q_104 : Cond.initialized RX2 ∈ gtw := gtw_in (List.mem_of_getElem? (i := 104) (by decide +kernel)) (by decide +kernel)
theorem q_170 : Cond.fieldLink RX2 37 "TrustClub$Books" "stock" "[I" ∈ gtw := gtw_in (List.mem_of_getElem? (i := 170) (by decide +kernel)) (by decide +kernel)
theorem q_362 : Cond.fieldLink RX2 9 "TrustClub$Failing" "failed" "I" ∈ gtw := gtw_in (List.mem_of_getElem? (i := 362) (by decide +kernel)) (by decide +kernel)
theorem q_364 : Cond.fieldLink RX2 15 "TrustClub$Failing" "rounds" "I" ∈ gtw := gtw_in (List.mem_of_getElem? (i := 364) (by decide +kernel)) (by decide +kernel)
theorem q_848 : Cond.code yX2_nextToFail cX2_nextToFail 4 (some .int) ∈ gtw := gtw_in (List.mem_of_getElem? (i := 848) (by decide +kernel)) (by decide +kernel)
theorem q_846 : Cond.methodLink RX2 18 yX2_nextToFail ∈ gtw := gtw_in (List.mem_of_getElem? (i := 846) (by decide +kernel)) (by decide +kernel)
theorem q_847 : Cond.static yX2_nextToFail ∈ gtw := gtw_in (List.mem_of_getElem? (i := 847) (by decide +kernel)) (by decide +kernel)
theorem q_366 : Cond.fieldLink RX2 22 "TrustClub$Failing" "lossOfAll" "I" ∈ gtw := gtw_in (List.mem_of_getElem? (i := 366) (by decide +kernel)) (by decide +kernel)
theorem q_368 : Cond.fieldLink RX2 25 "TrustClub$Failing" "lossOfRest" "I" ∈ gtw := gtw_in (List.mem_of_getElem? (i := 368) (by decide +kernel)) (by decide +kernel)
theorem q_236 : Cond.fieldLink RX8 31 "TrustClub$Acts" "many" "I" ∈ gtw := gtw_in (List.mem_of_getElem? (i := 236) (by decide +kernel)) (by decide +kernel)
theorem q_272 : Cond.fieldLink RX8 42 "TrustClub$Network" "space" "[I" ∈ gtw := gtw_in (List.mem_of_getElem? (i := 272) (by decide +kernel)) (by decide +kernel)
theorem q_317 : Cond.fieldLink RX8 11 "TrustClub$Sequences" "spaceAhead" "[[I" ∈ gtw := gtw_in (List.mem_of_getElem? (i := 317) (by decide +kernel)) (by decide +kernel)
theorem q_816 : Cond.methodLink RX8 36 arraycopyName ∈ gtw := gtw_in (List.mem_of_getElem? (i := 816) (by decide +kernel)) (by decide +kernel)
theorem q_321 : Cond.fieldLink RX8 23 "TrustClub$Sequences" "found" "I" ∈ gtw := gtw_in (List.mem_of_getElem? (i := 321) (by decide +kernel)) (by decide +kernel)
theorem q_318 : Cond.fieldLink RX8 16 "TrustClub$Sequences" "order" "[I" ∈ gtw := gtw_in (List.mem_of_getElem? (i := 318) (by decide +kernel)) (by decide +kernel)
theorem q_319 : Cond.fieldLink RX8 20 "TrustClub$Sequences" "firstFound" "[I" ∈ gtw := gtw_in (List.mem_of_getElem? (i := 319) (by decide +kernel)) (by decide +kernel)
theorem q_233 : Cond.fieldLink RX8 47 "TrustClub$Acts" "number" "[I" ∈ gtw := gtw_in (List.mem_of_getElem? (i := 233) (by decide +kernel)) (by decide +kernel)
theorem q_227 : Cond.fieldLink RX8 50 "TrustClub$Acts" "first" "[I" ∈ gtw := gtw_in (List.mem_of_getElem? (i := 227) (by decide +kernel)) (by decide +kernel)
theorem q_230 : Cond.fieldLink RX8 53 "TrustClub$Acts" "second" "[I" ∈ gtw := gtw_in (List.mem_of_getElem? (i := 230) (by decide +kernel)) (by decide +kernel)
theorem q_817 : Cond.methodLink RX8 56 yX4_send ∈ gtw := gtw_in (List.mem_of_getElem? (i := 817) (by decide +kernel)) (by decide +kernel)
theorem q_815 : Cond.code yX8_goOn cX8_goOn 7 none ∈ gtw := gtw_in (List.mem_of_getElem? (i := 815) (by decide +kernel)) (by decide +kernel)
theorem q_812 : Cond.methodLink RX8 27 yX8_goOn ∈ gtw := gtw_in (List.mem_of_getElem? (i := 812) (by decide +kernel)) (by decide +kernel)
theorem q_814 : Cond.instanceMethod yX8_goOn ∈ gtw := gtw_in (List.mem_of_getElem? (i := 814) (by decide +kernel)) (by decide +kernel)
theorem q_18 : Cond.selects RX8 yX8_goOn yX8_goOn ∈ gtw := gtw_in (List.mem_of_getElem? (i := 18) (by decide +kernel)) (by decide +kernel)
theorem q_102 : Cond.initialized RX8 ∈ gtw := gtw_in (List.mem_of_getElem? (i := 102) (by decide +kernel)) (by decide +kernel)
theorem q_385 : Cond.fieldLink RX10 40 "TrustClub" "text" "LTrustClub$Text;" ∈ gtw := gtw_in (List.mem_of_getElem? (i := 385) (by decide +kernel)) (by decide +kernel)
theorem q_426 : Cond.code yX9_append cX9_append 3 (some .boolean) ∈ gtw := gtw_in (List.mem_of_getElem? (i := 426) (by decide +kernel)) (by decide +kernel)
theorem q_423 : Cond.methodLink RX10 86 yX9_append ∈ gtw := gtw_in (List.mem_of_getElem? (i := 423) (by decide +kernel)) (by decide +kernel)
theorem q_424 : Cond.instanceMethod yX9_append ∈ gtw := gtw_in (List.mem_of_getElem? (i := 424) (by decide +kernel)) (by decide +kernel)
theorem q_425 : Cond.selects RX9 yX9_append yX9_append ∈ gtw := gtw_in (List.mem_of_getElem? (i := 425) (by decide +kernel)) (by decide +kernel)
theorem q_212 : Cond.fieldLink RX10 90 "TrustClub$Text" "length" "I" ∈ gtw := gtw_in (List.mem_of_getElem? (i := 212) (by decide +kernel)) (by decide +kernel)
theorem q_434 : Cond.code yX9_cutTo cX9_cutTo 2 (some .boolean) ∈ gtw := gtw_in (List.mem_of_getElem? (i := 434) (by decide +kernel)) (by decide +kernel)
theorem q_431 : Cond.methodLink RX10 94 yX9_cutTo ∈ gtw := gtw_in (List.mem_of_getElem? (i := 431) (by decide +kernel)) (by decide +kernel)
theorem q_432 : Cond.instanceMethod yX9_cutTo ∈ gtw := gtw_in (List.mem_of_getElem? (i := 432) (by decide +kernel)) (by decide +kernel)
theorem q_433 : Cond.selects RX9 yX9_cutTo yX9_cutTo ∈ gtw := gtw_in (List.mem_of_getElem? (i := 433) (by decide +kernel)) (by decide +kernel)
theorem q_381 : Cond.fieldLink RX10 19 "TrustClub" "trial" "LTrustClub$Books;" ∈ gtw := gtw_in (List.mem_of_getElem? (i := 381) (by decide +kernel)) (by decide +kernel)
theorem q_442 : Cond.code yX9_readClub cX9_readClub 10 (some .int) ∈ gtw := gtw_in (List.mem_of_getElem? (i := 442) (by decide +kernel)) (by decide +kernel)
theorem q_439 : Cond.methodLink RX10 97 yX9_readClub ∈ gtw := gtw_in (List.mem_of_getElem? (i := 439) (by decide +kernel)) (by decide +kernel)
theorem q_440 : Cond.instanceMethod yX9_readClub ∈ gtw := gtw_in (List.mem_of_getElem? (i := 440) (by decide +kernel)) (by decide +kernel)
theorem q_441 : Cond.selects RX9 yX9_readClub yX9_readClub ∈ gtw := gtw_in (List.mem_of_getElem? (i := 441) (by decide +kernel)) (by decide +kernel)
theorem q_469 : Cond.code yX9_empty cX9_empty 1 none ∈ gtw := gtw_in (List.mem_of_getElem? (i := 469) (by decide +kernel)) (by decide +kernel)
theorem q_466 : Cond.methodLink RX10 101 yX9_empty ∈ gtw := gtw_in (List.mem_of_getElem? (i := 466) (by decide +kernel)) (by decide +kernel)
theorem q_467 : Cond.instanceMethod yX9_empty ∈ gtw := gtw_in (List.mem_of_getElem? (i := 467) (by decide +kernel)) (by decide +kernel)
theorem q_468 : Cond.selects RX9 yX9_empty yX9_empty ∈ gtw := gtw_in (List.mem_of_getElem? (i := 468) (by decide +kernel)) (by decide +kernel)
theorem q_384 : Cond.fieldLink RX10 33 "TrustClub" "past" "LTrustClub$Past;" ∈ gtw := gtw_in (List.mem_of_getElem? (i := 384) (by decide +kernel)) (by decide +kernel)
theorem q_379 : Cond.fieldLink RX10 12 "TrustClub" "books" "LTrustClub$Books;" ∈ gtw := gtw_in (List.mem_of_getElem? (i := 379) (by decide +kernel)) (by decide +kernel)
theorem q_473 : Cond.code yX6_add cX6_add 4 none ∈ gtw := gtw_in (List.mem_of_getElem? (i := 473) (by decide +kernel)) (by decide +kernel)
theorem q_470 : Cond.methodLink RX10 104 yX6_add ∈ gtw := gtw_in (List.mem_of_getElem? (i := 470) (by decide +kernel)) (by decide +kernel)
theorem q_471 : Cond.instanceMethod yX6_add ∈ gtw := gtw_in (List.mem_of_getElem? (i := 471) (by decide +kernel)) (by decide +kernel)
theorem q_472 : Cond.selects RX6 yX6_add yX6_add ∈ gtw := gtw_in (List.mem_of_getElem? (i := 472) (by decide +kernel)) (by decide +kernel)
theorem q_97 : Cond.initialized RX6 ∈ gtw := gtw_in (List.mem_of_getElem? (i := 97) (by decide +kernel)) (by decide +kernel)
theorem q_486 : Cond.methodLink RX10 108 yX1_copyFrom ∈ gtw := gtw_in (List.mem_of_getElem? (i := 486) (by decide +kernel)) (by decide +kernel)
theorem q_512 : Cond.code yX10_memberOfEntry cX10_memberOfEntry 2 (some .int) ∈ gtw := gtw_in (List.mem_of_getElem? (i := 512) (by decide +kernel)) (by decide +kernel)
theorem q_510 : Cond.methodLink RX10 130 yX10_memberOfEntry ∈ gtw := gtw_in (List.mem_of_getElem? (i := 510) (by decide +kernel)) (by decide +kernel)
theorem q_511 : Cond.static yX10_memberOfEntry ∈ gtw := gtw_in (List.mem_of_getElem? (i := 511) (by decide +kernel)) (by decide +kernel)
theorem q_491 : Cond.methodLink RX10 111 yX1_has ∈ gtw := gtw_in (List.mem_of_getElem? (i := 491) (by decide +kernel)) (by decide +kernel)
theorem q_513 : Cond.methodLink RX10 140 yX1_owed ∈ gtw := gtw_in (List.mem_of_getElem? (i := 513) (by decide +kernel)) (by decide +kernel)
theorem q_498 : Cond.code yX1_holdsAny cX1_holdsAny 1 (some .boolean) ∈ gtw := gtw_in (List.mem_of_getElem? (i := 498) (by decide +kernel)) (by decide +kernel)
theorem q_495 : Cond.methodLink RX10 114 yX1_holdsAny ∈ gtw := gtw_in (List.mem_of_getElem? (i := 495) (by decide +kernel)) (by decide +kernel)
theorem q_496 : Cond.instanceMethod yX1_holdsAny ∈ gtw := gtw_in (List.mem_of_getElem? (i := 496) (by decide +kernel)) (by decide +kernel)
theorem q_497 : Cond.selects RX1 yX1_holdsAny yX1_holdsAny ∈ gtw := gtw_in (List.mem_of_getElem? (i := 497) (by decide +kernel)) (by decide +kernel)
theorem q_505 : Cond.code yX10_entryOf cX10_entryOf 2 (some .int) ∈ gtw := gtw_in (List.mem_of_getElem? (i := 505) (by decide +kernel)) (by decide +kernel)
theorem q_503 : Cond.methodLink RX10 118 yX10_entryOf ∈ gtw := gtw_in (List.mem_of_getElem? (i := 503) (by decide +kernel)) (by decide +kernel)
theorem q_504 : Cond.static yX10_entryOf ∈ gtw := gtw_in (List.mem_of_getElem? (i := 504) (by decide +kernel)) (by decide +kernel)
theorem q_509 : Cond.code yX10_entryFault cX10_entryFault 5 (some .int) ∈ gtw := gtw_in (List.mem_of_getElem? (i := 509) (by decide +kernel)) (by decide +kernel)
theorem q_506 : Cond.methodLink RX10 122 yX10_entryFault ∈ gtw := gtw_in (List.mem_of_getElem? (i := 506) (by decide +kernel)) (by decide +kernel)
theorem q_508 : Cond.instanceMethod yX10_entryFault ∈ gtw := gtw_in (List.mem_of_getElem? (i := 508) (by decide +kernel)) (by decide +kernel)
theorem q_0 : Cond.selects RX10 yX10_entryFault yX10_entryFault ∈ gtw := gtw_in (List.mem_of_getElem? (i := 0) (by decide +kernel)) (by decide +kernel)
theorem q_387 : Cond.fieldLink RX10 54 "TrustClub" "told" "LTrustClub$Numbers;" ∈ gtw := gtw_in (List.mem_of_getElem? (i := 387) (by decide +kernel)) (by decide +kernel)
theorem q_521 : Cond.methodLink RX10 126 yX5_tellTwo ∈ gtw := gtw_in (List.mem_of_getElem? (i := 521) (by decide +kernel)) (by decide +kernel)
theorem q_537 : Cond.methodLink RX10 133 yX10_at ∈ gtw := gtw_in (List.mem_of_getElem? (i := 537) (by decide +kernel)) (by decide +kernel)
theorem q_164 : Cond.fieldLink RX10 136 "TrustClub$Books" "limit" "[I" ∈ gtw := gtw_in (List.mem_of_getElem? (i := 164) (by decide +kernel)) (by decide +kernel)
theorem q_545 : Cond.code yX1_hasBoth cX1_hasBoth 3 (some .boolean) ∈ gtw := gtw_in (List.mem_of_getElem? (i := 545) (by decide +kernel)) (by decide +kernel)
theorem q_542 : Cond.methodLink RX10 143 yX1_hasBoth ∈ gtw := gtw_in (List.mem_of_getElem? (i := 542) (by decide +kernel)) (by decide +kernel)
theorem q_543 : Cond.instanceMethod yX1_hasBoth ∈ gtw := gtw_in (List.mem_of_getElem? (i := 543) (by decide +kernel)) (by decide +kernel)
theorem q_544 : Cond.selects RX1 yX1_hasBoth yX1_hasBoth ∈ gtw := gtw_in (List.mem_of_getElem? (i := 544) (by decide +kernel)) (by decide +kernel)
theorem q_547 : Cond.methodLink RX10 147 yX1_room ∈ gtw := gtw_in (List.mem_of_getElem? (i := 547) (by decide +kernel)) (by decide +kernel)
theorem q_555 : Cond.methodLink RX10 150 yX1_heldBetween ∈ gtw := gtw_in (List.mem_of_getElem? (i := 555) (by decide +kernel)) (by decide +kernel)
theorem q_559 : Cond.code yX5_tellThree cX5_tellThree 7 none ∈ gtw := gtw_in (List.mem_of_getElem? (i := 559) (by decide +kernel)) (by decide +kernel)
theorem q_556 : Cond.methodLink RX10 153 yX5_tellThree ∈ gtw := gtw_in (List.mem_of_getElem? (i := 556) (by decide +kernel)) (by decide +kernel)
theorem q_557 : Cond.instanceMethod yX5_tellThree ∈ gtw := gtw_in (List.mem_of_getElem? (i := 557) (by decide +kernel)) (by decide +kernel)
theorem q_558 : Cond.selects RX5 yX5_tellThree yX5_tellThree ∈ gtw := gtw_in (List.mem_of_getElem? (i := 558) (by decide +kernel)) (by decide +kernel)
theorem q_162 : Cond.fieldLink RX10 164 "TrustClub$Books" "members" "I" ∈ gtw := gtw_in (List.mem_of_getElem? (i := 162) (by decide +kernel)) (by decide +kernel)
theorem q_568 : Cond.code yX1_owedInAll cX1_owedInAll 3 (some .int) ∈ gtw := gtw_in (List.mem_of_getElem? (i := 568) (by decide +kernel)) (by decide +kernel)
theorem q_565 : Cond.methodLink RX10 170 yX1_owedInAll ∈ gtw := gtw_in (List.mem_of_getElem? (i := 565) (by decide +kernel)) (by decide +kernel)
theorem q_566 : Cond.instanceMethod yX1_owedInAll ∈ gtw := gtw_in (List.mem_of_getElem? (i := 566) (by decide +kernel)) (by decide +kernel)
theorem q_567 : Cond.selects RX1 yX1_owedInAll yX1_owedInAll ∈ gtw := gtw_in (List.mem_of_getElem? (i := 567) (by decide +kernel)) (by decide +kernel)
theorem q_579 : Cond.code yX10_isSum cX10_isSum 1 (some .boolean) ∈ gtw := gtw_in (List.mem_of_getElem? (i := 579) (by decide +kernel)) (by decide +kernel)
theorem q_577 : Cond.methodLink RX10 190 yX10_isSum ∈ gtw := gtw_in (List.mem_of_getElem? (i := 577) (by decide +kernel)) (by decide +kernel)
theorem q_578 : Cond.static yX10_isSum ∈ gtw := gtw_in (List.mem_of_getElem? (i := 578) (by decide +kernel)) (by decide +kernel)
theorem q_603 : Cond.methodLink RX10 220 yX5_begin ∈ gtw := gtw_in (List.mem_of_getElem? (i := 603) (by decide +kernel)) (by decide +kernel)
theorem q_388 : Cond.fieldLink RX10 61 "TrustClub" "network" "LTrustClub$Network;" ∈ gtw := gtw_in (List.mem_of_getElem? (i := 388) (by decide +kernel)) (by decide +kernel)
theorem q_279 : Cond.fieldLink RX10 187 "TrustClub$Network" "wayLength" "I" ∈ gtw := gtw_in (List.mem_of_getElem? (i := 279) (by decide +kernel)) (by decide +kernel)
theorem q_604 : Cond.methodLink RX10 441 yX4_wayMember ∈ gtw := gtw_in (List.mem_of_getElem? (i := 604) (by decide +kernel)) (by decide +kernel)
theorem q_608 : Cond.methodLink RX10 229 yX5_add ∈ gtw := gtw_in (List.mem_of_getElem? (i := 608) (by decide +kernel)) (by decide +kernel)
theorem q_576 : Cond.code yX10_isPayment cX10_isPayment 4 (some .boolean) ∈ gtw := gtw_in (List.mem_of_getElem? (i := 576) (by decide +kernel)) (by decide +kernel)
theorem q_573 : Cond.methodLink RX10 174 yX10_isPayment ∈ gtw := gtw_in (List.mem_of_getElem? (i := 573) (by decide +kernel)) (by decide +kernel)
theorem q_575 : Cond.instanceMethod yX10_isPayment ∈ gtw := gtw_in (List.mem_of_getElem? (i := 575) (by decide +kernel)) (by decide +kernel)
theorem q_1 : Cond.selects RX10 yX10_isPayment yX10_isPayment ∈ gtw := gtw_in (List.mem_of_getElem? (i := 1) (by decide +kernel)) (by decide +kernel)
theorem q_583 : Cond.code yX4_load cX4_load 5 none ∈ gtw := gtw_in (List.mem_of_getElem? (i := 583) (by decide +kernel)) (by decide +kernel)
theorem q_580 : Cond.methodLink RX10 178 yX4_load ∈ gtw := gtw_in (List.mem_of_getElem? (i := 580) (by decide +kernel)) (by decide +kernel)
theorem q_581 : Cond.instanceMethod yX4_load ∈ gtw := gtw_in (List.mem_of_getElem? (i := 581) (by decide +kernel)) (by decide +kernel)
theorem q_582 : Cond.selects RX4 yX4_load yX4_load ∈ gtw := gtw_in (List.mem_of_getElem? (i := 582) (by decide +kernel)) (by decide +kernel)
theorem q_587 : Cond.methodLink RX10 181 yX4_findWay ∈ gtw := gtw_in (List.mem_of_getElem? (i := 587) (by decide +kernel)) (by decide +kernel)
theorem q_602 : Cond.code yX10_tellWay cX10_tellWay 2 none ∈ gtw := gtw_in (List.mem_of_getElem? (i := 602) (by decide +kernel)) (by decide +kernel)
theorem q_599 : Cond.methodLink RX10 184 yX10_tellWay ∈ gtw := gtw_in (List.mem_of_getElem? (i := 599) (by decide +kernel)) (by decide +kernel)
theorem q_601 : Cond.instanceMethod yX10_tellWay ∈ gtw := gtw_in (List.mem_of_getElem? (i := 601) (by decide +kernel)) (by decide +kernel)
theorem q_4 : Cond.selects RX10 yX10_tellWay yX10_tellWay ∈ gtw := gtw_in (List.mem_of_getElem? (i := 4) (by decide +kernel)) (by decide +kernel)
theorem q_620 : Cond.constant RJ6 265 (Int32.ofInt (1431655765)) ∈ gtw := gtw_in (List.mem_of_getElem? (i := 620) (by decide +kernel)) (by decide +kernel)
theorem q_621 : Cond.constant RJ6 266 (Int32.ofInt (858993459)) ∈ gtw := gtw_in (List.mem_of_getElem? (i := 621) (by decide +kernel)) (by decide +kernel)
theorem q_622 : Cond.constant RJ6 267 (Int32.ofInt (252645135)) ∈ gtw := gtw_in (List.mem_of_getElem? (i := 622) (by decide +kernel)) (by decide +kernel)
theorem q_616 : Cond.code yX4_reached cX4_reached 8 (some .int) ∈ gtw := gtw_in (List.mem_of_getElem? (i := 616) (by decide +kernel)) (by decide +kernel)
theorem q_613 : Cond.methodLink RX10 193 yX4_reached ∈ gtw := gtw_in (List.mem_of_getElem? (i := 613) (by decide +kernel)) (by decide +kernel)
theorem q_614 : Cond.instanceMethod yX4_reached ∈ gtw := gtw_in (List.mem_of_getElem? (i := 614) (by decide +kernel)) (by decide +kernel)
theorem q_615 : Cond.selects RX4 yX4_reached yX4_reached ∈ gtw := gtw_in (List.mem_of_getElem? (i := 615) (by decide +kernel)) (by decide +kernel)
theorem q_619 : Cond.code yJ6_bitCount_0f7a4 cJ6_bitCount_0f7a4 1 (some .int) ∈ gtw := gtw_in (List.mem_of_getElem? (i := 619) (by decide +kernel)) (by decide +kernel)
theorem q_617 : Cond.methodLink RX10 196 yJ6_bitCount_0f7a4 ∈ gtw := gtw_in (List.mem_of_getElem? (i := 617) (by decide +kernel)) (by decide +kernel)
theorem q_618 : Cond.static yJ6_bitCount_0f7a4 ∈ gtw := gtw_in (List.mem_of_getElem? (i := 618) (by decide +kernel)) (by decide +kernel)
theorem q_112 : Cond.initialized RJ6 ∈ gtw := gtw_in (List.mem_of_getElem? (i := 112) (by decide +kernel)) (by decide +kernel)
theorem q_623 : Cond.methodLink RX10 202 yX5_tellOne ∈ gtw := gtw_in (List.mem_of_getElem? (i := 623) (by decide +kernel)) (by decide +kernel)
theorem q_628 : Cond.constant RX10 206 (Int32.ofInt (1000000)) ∈ gtw := gtw_in (List.mem_of_getElem? (i := 628) (by decide +kernel)) (by decide +kernel)
theorem q_629 : Cond.methodLink RX10 207 yX4_send ∈ gtw := gtw_in (List.mem_of_getElem? (i := 629) (by decide +kernel)) (by decide +kernel)
theorem q_285 : Cond.fieldLink RX10 210 "TrustClub$Network" "parts" "I" ∈ gtw := gtw_in (List.mem_of_getElem? (i := 285) (by decide +kernel)) (by decide +kernel)
theorem q_650 : Cond.code yX4_longestPart cX4_longestPart 3 (some .int) ∈ gtw := gtw_in (List.mem_of_getElem? (i := 650) (by decide +kernel)) (by decide +kernel)
theorem q_647 : Cond.methodLink RX10 213 yX4_longestPart ∈ gtw := gtw_in (List.mem_of_getElem? (i := 647) (by decide +kernel)) (by decide +kernel)
theorem q_648 : Cond.instanceMethod yX4_longestPart ∈ gtw := gtw_in (List.mem_of_getElem? (i := 648) (by decide +kernel)) (by decide +kernel)
theorem q_649 : Cond.selects RX4 yX4_longestPart yX4_longestPart ∈ gtw := gtw_in (List.mem_of_getElem? (i := 649) (by decide +kernel)) (by decide +kernel)
theorem q_390 : Cond.fieldLink RX10 75 "TrustClub" "ringSearch" "LTrustClub$Rings;" ∈ gtw := gtw_in (List.mem_of_getElem? (i := 390) (by decide +kernel)) (by decide +kernel)
theorem q_656 : Cond.methodLink RX10 216 yX7_find ∈ gtw := gtw_in (List.mem_of_getElem? (i := 656) (by decide +kernel)) (by decide +kernel)
theorem q_342 : Cond.fieldLink RX10 223 "TrustClub$Rings" "many" "I" ∈ gtw := gtw_in (List.mem_of_getElem? (i := 342) (by decide +kernel)) (by decide +kernel)
theorem q_344 : Cond.fieldLink RX10 231 "TrustClub$Rings" "least" "I" ∈ gtw := gtw_in (List.mem_of_getElem? (i := 344) (by decide +kernel)) (by decide +kernel)
theorem q_688 : Cond.methodLink RX10 226 yX7_memberAt ∈ gtw := gtw_in (List.mem_of_getElem? (i := 688) (by decide +kernel)) (by decide +kernel)
theorem q_696 : Cond.code yX7_settleAll cX7_settleAll 4 (some .int) ∈ gtw := gtw_in (List.mem_of_getElem? (i := 696) (by decide +kernel)) (by decide +kernel)
theorem q_693 : Cond.methodLink RX10 234 yX7_settleAll ∈ gtw := gtw_in (List.mem_of_getElem? (i := 693) (by decide +kernel)) (by decide +kernel)
theorem q_694 : Cond.instanceMethod yX7_settleAll ∈ gtw := gtw_in (List.mem_of_getElem? (i := 694) (by decide +kernel)) (by decide +kernel)
theorem q_695 : Cond.selects RX7 yX7_settleAll yX7_settleAll ∈ gtw := gtw_in (List.mem_of_getElem? (i := 695) (by decide +kernel)) (by decide +kernel)
theorem q_713 : Cond.code yX4_bookIn cX4_bookIn 4 none ∈ gtw := gtw_in (List.mem_of_getElem? (i := 713) (by decide +kernel)) (by decide +kernel)
theorem q_710 : Cond.methodLink RX10 297 yX4_bookIn ∈ gtw := gtw_in (List.mem_of_getElem? (i := 710) (by decide +kernel)) (by decide +kernel)
theorem q_711 : Cond.instanceMethod yX4_bookIn ∈ gtw := gtw_in (List.mem_of_getElem? (i := 711) (by decide +kernel)) (by decide +kernel)
theorem q_712 : Cond.selects RX4 yX4_bookIn yX4_bookIn ∈ gtw := gtw_in (List.mem_of_getElem? (i := 712) (by decide +kernel)) (by decide +kernel)
theorem q_281 : Cond.fieldLink RX10 419 "TrustClub$Network" "partLengths" "[I" ∈ gtw := gtw_in (List.mem_of_getElem? (i := 281) (by decide +kernel)) (by decide +kernel)
theorem q_283 : Cond.fieldLink RX10 422 "TrustClub$Network" "partSums" "[I" ∈ gtw := gtw_in (List.mem_of_getElem? (i := 283) (by decide +kernel)) (by decide +kernel)
theorem q_380 : Cond.fieldLink RX10 16 "TrustClub" "before" "LTrustClub$Books;" ∈ gtw := gtw_in (List.mem_of_getElem? (i := 380) (by decide +kernel)) (by decide +kernel)
theorem q_709 : Cond.code yX10_paySplit cX10_paySplit 6 (some .int) ∈ gtw := gtw_in (List.mem_of_getElem? (i := 709) (by decide +kernel)) (by decide +kernel)
theorem q_706 : Cond.methodLink RX10 237 yX10_paySplit ∈ gtw := gtw_in (List.mem_of_getElem? (i := 706) (by decide +kernel)) (by decide +kernel)
theorem q_708 : Cond.instanceMethod yX10_paySplit ∈ gtw := gtw_in (List.mem_of_getElem? (i := 708) (by decide +kernel)) (by decide +kernel)
theorem q_11 : Cond.selects RX10 yX10_paySplit yX10_paySplit ∈ gtw := gtw_in (List.mem_of_getElem? (i := 11) (by decide +kernel)) (by decide +kernel)
theorem q_722 : Cond.code yX10_remembered cX10_remembered 2 (some .int) ∈ gtw := gtw_in (List.mem_of_getElem? (i := 722) (by decide +kernel)) (by decide +kernel)
theorem q_719 : Cond.methodLink RX10 240 yX10_remembered ∈ gtw := gtw_in (List.mem_of_getElem? (i := 719) (by decide +kernel)) (by decide +kernel)
theorem q_721 : Cond.instanceMethod yX10_remembered ∈ gtw := gtw_in (List.mem_of_getElem? (i := 721) (by decide +kernel)) (by decide +kernel)
theorem q_12 : Cond.selects RX10 yX10_remembered yX10_remembered ∈ gtw := gtw_in (List.mem_of_getElem? (i := 12) (by decide +kernel)) (by decide +kernel)
theorem q_735 : Cond.methodLink RX10 428 yX4_pushAlong ∈ gtw := gtw_in (List.mem_of_getElem? (i := 735) (by decide +kernel)) (by decide +kernel)
theorem q_734 : Cond.code yX4_widest cX4_widest 7 (some .int) ∈ gtw := gtw_in (List.mem_of_getElem? (i := 734) (by decide +kernel)) (by decide +kernel)
theorem q_731 : Cond.methodLink RX10 425 yX4_widest ∈ gtw := gtw_in (List.mem_of_getElem? (i := 731) (by decide +kernel)) (by decide +kernel)
theorem q_732 : Cond.instanceMethod yX4_widest ∈ gtw := gtw_in (List.mem_of_getElem? (i := 732) (by decide +kernel)) (by decide +kernel)
theorem q_733 : Cond.selects RX4 yX4_widest yX4_widest ∈ gtw := gtw_in (List.mem_of_getElem? (i := 733) (by decide +kernel)) (by decide +kernel)
theorem q_730 : Cond.code yX10_payWhole cX10_payWhole 4 (some .int) ∈ gtw := gtw_in (List.mem_of_getElem? (i := 730) (by decide +kernel)) (by decide +kernel)
theorem q_727 : Cond.methodLink RX10 243 yX10_payWhole ∈ gtw := gtw_in (List.mem_of_getElem? (i := 727) (by decide +kernel)) (by decide +kernel)
theorem q_729 : Cond.instanceMethod yX10_payWhole ∈ gtw := gtw_in (List.mem_of_getElem? (i := 729) (by decide +kernel)) (by decide +kernel)
theorem q_13 : Cond.selects RX10 yX10_payWhole yX10_payWhole ∈ gtw := gtw_in (List.mem_of_getElem? (i := 13) (by decide +kernel)) (by decide +kernel)
theorem q_747 : Cond.code yX1_freePlace cX1_freePlace 2 (some .int) ∈ gtw := gtw_in (List.mem_of_getElem? (i := 747) (by decide +kernel)) (by decide +kernel)
theorem q_744 : Cond.methodLink RX10 431 yX1_freePlace ∈ gtw := gtw_in (List.mem_of_getElem? (i := 744) (by decide +kernel)) (by decide +kernel)
theorem q_745 : Cond.instanceMethod yX1_freePlace ∈ gtw := gtw_in (List.mem_of_getElem? (i := 745) (by decide +kernel)) (by decide +kernel)
theorem q_746 : Cond.selects RX1 yX1_freePlace yX1_freePlace ∈ gtw := gtw_in (List.mem_of_getElem? (i := 746) (by decide +kernel)) (by decide +kernel)
theorem q_173 : Cond.fieldLink RX10 260 "TrustClub$Books" "holdings" "[LTrustClub$Holding;" ∈ gtw := gtw_in (List.mem_of_getElem? (i := 173) (by decide +kernel)) (by decide +kernel)
theorem q_751 : Cond.code yX3_take cX3_take 7 none ∈ gtw := gtw_in (List.mem_of_getElem? (i := 751) (by decide +kernel)) (by decide +kernel)
theorem q_748 : Cond.methodLink RX10 434 yX3_take ∈ gtw := gtw_in (List.mem_of_getElem? (i := 748) (by decide +kernel)) (by decide +kernel)
theorem q_749 : Cond.instanceMethod yX3_take ∈ gtw := gtw_in (List.mem_of_getElem? (i := 749) (by decide +kernel)) (by decide +kernel)
theorem q_750 : Cond.selects RX3 yX3_take yX3_take ∈ gtw := gtw_in (List.mem_of_getElem? (i := 750) (by decide +kernel)) (by decide +kernel)
theorem q_743 : Cond.code yX10_holdPayment cX10_holdPayment 6 (some .int) ∈ gtw := gtw_in (List.mem_of_getElem? (i := 743) (by decide +kernel)) (by decide +kernel)
theorem q_740 : Cond.methodLink RX10 246 yX10_holdPayment ∈ gtw := gtw_in (List.mem_of_getElem? (i := 740) (by decide +kernel)) (by decide +kernel)
theorem q_742 : Cond.instanceMethod yX10_holdPayment ∈ gtw := gtw_in (List.mem_of_getElem? (i := 742) (by decide +kernel)) (by decide +kernel)
theorem q_14 : Cond.selects RX10 yX10_holdPayment yX10_holdPayment ∈ gtw := gtw_in (List.mem_of_getElem? (i := 14) (by decide +kernel)) (by decide +kernel)
theorem q_763 : Cond.methodLink RX10 255 yX1_isHeldAt ∈ gtw := gtw_in (List.mem_of_getElem? (i := 763) (by decide +kernel)) (by decide +kernel)
theorem q_770 : Cond.code yX1_makeAt cX1_makeAt 5 (some .int) ∈ gtw := gtw_in (List.mem_of_getElem? (i := 770) (by decide +kernel)) (by decide +kernel)
theorem q_767 : Cond.methodLink RX10 278 yX1_makeAt ∈ gtw := gtw_in (List.mem_of_getElem? (i := 767) (by decide +kernel)) (by decide +kernel)
theorem q_768 : Cond.instanceMethod yX1_makeAt ∈ gtw := gtw_in (List.mem_of_getElem? (i := 768) (by decide +kernel)) (by decide +kernel)
theorem q_769 : Cond.selects RX1 yX1_makeAt yX1_makeAt ∈ gtw := gtw_in (List.mem_of_getElem? (i := 769) (by decide +kernel)) (by decide +kernel)
theorem q_762 : Cond.code yX10_makeHeld cX10_makeHeld 2 (some .int) ∈ gtw := gtw_in (List.mem_of_getElem? (i := 762) (by decide +kernel)) (by decide +kernel)
theorem q_759 : Cond.methodLink RX10 249 yX10_makeHeld ∈ gtw := gtw_in (List.mem_of_getElem? (i := 759) (by decide +kernel)) (by decide +kernel)
theorem q_761 : Cond.instanceMethod yX10_makeHeld ∈ gtw := gtw_in (List.mem_of_getElem? (i := 761) (by decide +kernel)) (by decide +kernel)
theorem q_15 : Cond.selects RX10 yX10_makeHeld yX10_makeHeld ∈ gtw := gtw_in (List.mem_of_getElem? (i := 15) (by decide +kernel)) (by decide +kernel)
theorem q_785 : Cond.methodLink RX10 281 yX1_dropAt ∈ gtw := gtw_in (List.mem_of_getElem? (i := 785) (by decide +kernel)) (by decide +kernel)
theorem q_784 : Cond.code yX10_dropHeld cX10_dropHeld 2 (some .int) ∈ gtw := gtw_in (List.mem_of_getElem? (i := 784) (by decide +kernel)) (by decide +kernel)
theorem q_781 : Cond.methodLink RX10 252 yX10_dropHeld ∈ gtw := gtw_in (List.mem_of_getElem? (i := 781) (by decide +kernel)) (by decide +kernel)
theorem q_783 : Cond.instanceMethod yX10_dropHeld ∈ gtw := gtw_in (List.mem_of_getElem? (i := 783) (by decide +kernel)) (by decide +kernel)
theorem q_16 : Cond.selects RX10 yX10_dropHeld yX10_dropHeld ∈ gtw := gtw_in (List.mem_of_getElem? (i := 16) (by decide +kernel)) (by decide +kernel)
theorem q_386 : Cond.fieldLink RX10 47 "TrustClub" "acts" "LTrustClub$Acts;" ∈ gtw := gtw_in (List.mem_of_getElem? (i := 386) (by decide +kernel)) (by decide +kernel)
theorem q_797 : Cond.code yX0_readPayments cX0_readPayments 8 (some .int) ∈ gtw := gtw_in (List.mem_of_getElem? (i := 797) (by decide +kernel)) (by decide +kernel)
theorem q_794 : Cond.methodLink RX10 284 yX0_readPayments ∈ gtw := gtw_in (List.mem_of_getElem? (i := 794) (by decide +kernel)) (by decide +kernel)
theorem q_795 : Cond.instanceMethod yX0_readPayments ∈ gtw := gtw_in (List.mem_of_getElem? (i := 795) (by decide +kernel)) (by decide +kernel)
theorem q_796 : Cond.selects RX0 yX0_readPayments yX0_readPayments ∈ gtw := gtw_in (List.mem_of_getElem? (i := 796) (by decide +kernel)) (by decide +kernel)
theorem q_228 : Cond.fieldLink RX10 288 "TrustClub$Acts" "first" "[I" ∈ gtw := gtw_in (List.mem_of_getElem? (i := 228) (by decide +kernel)) (by decide +kernel)
theorem q_231 : Cond.fieldLink RX10 291 "TrustClub$Acts" "second" "[I" ∈ gtw := gtw_in (List.mem_of_getElem? (i := 231) (by decide +kernel)) (by decide +kernel)
theorem q_234 : Cond.fieldLink RX10 294 "TrustClub$Acts" "number" "[I" ∈ gtw := gtw_in (List.mem_of_getElem? (i := 234) (by decide +kernel)) (by decide +kernel)
theorem q_389 : Cond.fieldLink RX10 68 "TrustClub" "sequences" "LTrustClub$Sequences;" ∈ gtw := gtw_in (List.mem_of_getElem? (i := 389) (by decide +kernel)) (by decide +kernel)
theorem q_811 : Cond.code yX8_search cX8_search 3 none ∈ gtw := gtw_in (List.mem_of_getElem? (i := 811) (by decide +kernel)) (by decide +kernel)
theorem q_808 : Cond.methodLink RX10 300 yX8_search ∈ gtw := gtw_in (List.mem_of_getElem? (i := 808) (by decide +kernel)) (by decide +kernel)
theorem q_809 : Cond.instanceMethod yX8_search ∈ gtw := gtw_in (List.mem_of_getElem? (i := 809) (by decide +kernel)) (by decide +kernel)
theorem q_810 : Cond.selects RX8 yX8_search yX8_search ∈ gtw := gtw_in (List.mem_of_getElem? (i := 810) (by decide +kernel)) (by decide +kernel)
theorem q_322 : Cond.fieldLink RX10 304 "TrustClub$Sequences" "found" "I" ∈ gtw := gtw_in (List.mem_of_getElem? (i := 322) (by decide +kernel)) (by decide +kernel)
theorem q_320 : Cond.fieldLink RX10 307 "TrustClub$Sequences" "firstFound" "[I" ∈ gtw := gtw_in (List.mem_of_getElem? (i := 320) (by decide +kernel)) (by decide +kernel)
theorem q_825 : Cond.code yX10_settleRings cX10_settleRings 3 (some .int) ∈ gtw := gtw_in (List.mem_of_getElem? (i := 825) (by decide +kernel)) (by decide +kernel)
theorem q_822 : Cond.methodLink RX10 310 yX10_settleRings ∈ gtw := gtw_in (List.mem_of_getElem? (i := 822) (by decide +kernel)) (by decide +kernel)
theorem q_824 : Cond.instanceMethod yX10_settleRings ∈ gtw := gtw_in (List.mem_of_getElem? (i := 824) (by decide +kernel)) (by decide +kernel)
theorem q_19 : Cond.selects RX10 yX10_settleRings yX10_settleRings ∈ gtw := gtw_in (List.mem_of_getElem? (i := 19) (by decide +kernel)) (by decide +kernel)
theorem q_837 : Cond.code yX4_widen cX4_widen 4 none ∈ gtw := gtw_in (List.mem_of_getElem? (i := 837) (by decide +kernel)) (by decide +kernel)
theorem q_834 : Cond.methodLink RX10 317 yX4_widen ∈ gtw := gtw_in (List.mem_of_getElem? (i := 834) (by decide +kernel)) (by decide +kernel)
theorem q_835 : Cond.instanceMethod yX4_widen ∈ gtw := gtw_in (List.mem_of_getElem? (i := 835) (by decide +kernel)) (by decide +kernel)
theorem q_836 : Cond.selects RX4 yX4_widen yX4_widen ∈ gtw := gtw_in (List.mem_of_getElem? (i := 836) (by decide +kernel)) (by decide +kernel)
theorem q_833 : Cond.code yX10_goesIfWider cX10_goesIfWider 7 (some .boolean) ∈ gtw := gtw_in (List.mem_of_getElem? (i := 833) (by decide +kernel)) (by decide +kernel)
theorem q_830 : Cond.methodLink RX10 313 yX10_goesIfWider ∈ gtw := gtw_in (List.mem_of_getElem? (i := 830) (by decide +kernel)) (by decide +kernel)
theorem q_832 : Cond.instanceMethod yX10_goesIfWider ∈ gtw := gtw_in (List.mem_of_getElem? (i := 832) (by decide +kernel)) (by decide +kernel)
theorem q_20 : Cond.selects RX10 yX10_goesIfWider yX10_goesIfWider ∈ gtw := gtw_in (List.mem_of_getElem? (i := 20) (by decide +kernel)) (by decide +kernel)
theorem q_391 : Cond.fieldLink RX10 82 "TrustClub" "failing" "LTrustClub$Failing;" ∈ gtw := gtw_in (List.mem_of_getElem? (i := 391) (by decide +kernel)) (by decide +kernel)
theorem q_845 : Cond.code yX2_run cX2_run 6 none ∈ gtw := gtw_in (List.mem_of_getElem? (i := 845) (by decide +kernel)) (by decide +kernel)
theorem q_842 : Cond.methodLink RX10 321 yX2_run ∈ gtw := gtw_in (List.mem_of_getElem? (i := 842) (by decide +kernel)) (by decide +kernel)
theorem q_843 : Cond.instanceMethod yX2_run ∈ gtw := gtw_in (List.mem_of_getElem? (i := 843) (by decide +kernel)) (by decide +kernel)
theorem q_844 : Cond.selects RX2 yX2_run yX2_run ∈ gtw := gtw_in (List.mem_of_getElem? (i := 844) (by decide +kernel)) (by decide +kernel)
theorem q_363 : Cond.fieldLink RX10 325 "TrustClub$Failing" "failed" "I" ∈ gtw := gtw_in (List.mem_of_getElem? (i := 363) (by decide +kernel)) (by decide +kernel)
theorem q_367 : Cond.fieldLink RX10 328 "TrustClub$Failing" "lossOfAll" "I" ∈ gtw := gtw_in (List.mem_of_getElem? (i := 367) (by decide +kernel)) (by decide +kernel)
theorem q_369 : Cond.fieldLink RX10 331 "TrustClub$Failing" "lossOfRest" "I" ∈ gtw := gtw_in (List.mem_of_getElem? (i := 369) (by decide +kernel)) (by decide +kernel)
theorem q_365 : Cond.fieldLink RX10 334 "TrustClub$Failing" "rounds" "I" ∈ gtw := gtw_in (List.mem_of_getElem? (i := 365) (by decide +kernel)) (by decide +kernel)
theorem q_865 : Cond.constant RJ6 264 (Int32.ofInt (65536)) ∈ gtw := gtw_in (List.mem_of_getElem? (i := 865) (by decide +kernel)) (by decide +kernel)
theorem q_861 : Cond.methodLink RX10 337 yX2_nextToFail ∈ gtw := gtw_in (List.mem_of_getElem? (i := 861) (by decide +kernel)) (by decide +kernel)
theorem q_864 : Cond.code yJ6_numberOfTrailingZeros_0f7a4 cJ6_numberOfTrailingZeros_0f7a4 2 (some .int) ∈ gtw := gtw_in (List.mem_of_getElem? (i := 864) (by decide +kernel)) (by decide +kernel)
theorem q_862 : Cond.methodLink RX10 341 yJ6_numberOfTrailingZeros_0f7a4 ∈ gtw := gtw_in (List.mem_of_getElem? (i := 862) (by decide +kernel)) (by decide +kernel)
theorem q_863 : Cond.static yJ6_numberOfTrailingZeros_0f7a4 ∈ gtw := gtw_in (List.mem_of_getElem? (i := 863) (by decide +kernel)) (by decide +kernel)
theorem q_866 : Cond.methodLink RX10 344 yX2_lossOf ∈ gtw := gtw_in (List.mem_of_getElem? (i := 866) (by decide +kernel)) (by decide +kernel)
theorem q_171 : Cond.fieldLink RX10 348 "TrustClub$Books" "stock" "[I" ∈ gtw := gtw_in (List.mem_of_getElem? (i := 171) (by decide +kernel)) (by decide +kernel)
theorem q_878 : Cond.code yX4_bar cX4_bar 3 none ∈ gtw := gtw_in (List.mem_of_getElem? (i := 878) (by decide +kernel)) (by decide +kernel)
theorem q_875 : Cond.methodLink RX10 354 yX4_bar ∈ gtw := gtw_in (List.mem_of_getElem? (i := 875) (by decide +kernel)) (by decide +kernel)
theorem q_876 : Cond.instanceMethod yX4_bar ∈ gtw := gtw_in (List.mem_of_getElem? (i := 876) (by decide +kernel)) (by decide +kernel)
theorem q_877 : Cond.selects RX4 yX4_bar yX4_bar ∈ gtw := gtw_in (List.mem_of_getElem? (i := 877) (by decide +kernel)) (by decide +kernel)
theorem q_874 : Cond.code yX10_mostWithout cX10_mostWithout 4 (some .int) ∈ gtw := gtw_in (List.mem_of_getElem? (i := 874) (by decide +kernel)) (by decide +kernel)
theorem q_871 : Cond.methodLink RX10 351 yX10_mostWithout ∈ gtw := gtw_in (List.mem_of_getElem? (i := 871) (by decide +kernel)) (by decide +kernel)
theorem q_873 : Cond.instanceMethod yX10_mostWithout ∈ gtw := gtw_in (List.mem_of_getElem? (i := 873) (by decide +kernel)) (by decide +kernel)
theorem q_21 : Cond.selects RX10 yX10_mostWithout yX10_mostWithout ∈ gtw := gtw_in (List.mem_of_getElem? (i := 21) (by decide +kernel)) (by decide +kernel)
theorem q_889 : Cond.code yX10_isLimit cX10_isLimit 1 (some .boolean) ∈ gtw := gtw_in (List.mem_of_getElem? (i := 889) (by decide +kernel)) (by decide +kernel)
theorem q_887 : Cond.methodLink RX10 358 yX10_isLimit ∈ gtw := gtw_in (List.mem_of_getElem? (i := 887) (by decide +kernel)) (by decide +kernel)
theorem q_888 : Cond.static yX10_isLimit ∈ gtw := gtw_in (List.mem_of_getElem? (i := 888) (by decide +kernel)) (by decide +kernel)
theorem q_901 : Cond.code yX10_setLimit cX10_setLimit 5 (some .int) ∈ gtw := gtw_in (List.mem_of_getElem? (i := 901) (by decide +kernel)) (by decide +kernel)
theorem q_898 : Cond.methodLink RX10 361 yX10_setLimit ∈ gtw := gtw_in (List.mem_of_getElem? (i := 898) (by decide +kernel)) (by decide +kernel)
theorem q_900 : Cond.instanceMethod yX10_setLimit ∈ gtw := gtw_in (List.mem_of_getElem? (i := 900) (by decide +kernel)) (by decide +kernel)
theorem q_22 : Cond.selects RX10 yX10_setLimit yX10_setLimit ∈ gtw := gtw_in (List.mem_of_getElem? (i := 22) (by decide +kernel)) (by decide +kernel)
theorem q_909 : Cond.code yX10_setStock cX10_setStock 4 (some .int) ∈ gtw := gtw_in (List.mem_of_getElem? (i := 909) (by decide +kernel)) (by decide +kernel)
theorem q_906 : Cond.methodLink RX10 364 yX10_setStock ∈ gtw := gtw_in (List.mem_of_getElem? (i := 906) (by decide +kernel)) (by decide +kernel)
theorem q_908 : Cond.instanceMethod yX10_setStock ∈ gtw := gtw_in (List.mem_of_getElem? (i := 908) (by decide +kernel)) (by decide +kernel)
theorem q_23 : Cond.selects RX10 yX10_setStock yX10_setStock ∈ gtw := gtw_in (List.mem_of_getElem? (i := 23) (by decide +kernel)) (by decide +kernel)
theorem q_918 : Cond.methodLink RX10 438 yX1_payStraight ∈ gtw := gtw_in (List.mem_of_getElem? (i := 918) (by decide +kernel)) (by decide +kernel)
theorem q_917 : Cond.code yX10_letOff cX10_letOff 4 (some .int) ∈ gtw := gtw_in (List.mem_of_getElem? (i := 917) (by decide +kernel)) (by decide +kernel)
theorem q_914 : Cond.methodLink RX10 367 yX10_letOff ∈ gtw := gtw_in (List.mem_of_getElem? (i := 914) (by decide +kernel)) (by decide +kernel)
theorem q_916 : Cond.instanceMethod yX10_letOff ∈ gtw := gtw_in (List.mem_of_getElem? (i := 916) (by decide +kernel)) (by decide +kernel)
theorem q_24 : Cond.selects RX10 yX10_letOff yX10_letOff ∈ gtw := gtw_in (List.mem_of_getElem? (i := 24) (by decide +kernel)) (by decide +kernel)
theorem q_926 : Cond.code yX1_closeLines cX1_closeLines 4 (some .int) ∈ gtw := gtw_in (List.mem_of_getElem? (i := 926) (by decide +kernel)) (by decide +kernel)
theorem q_923 : Cond.methodLink RX10 370 yX1_closeLines ∈ gtw := gtw_in (List.mem_of_getElem? (i := 923) (by decide +kernel)) (by decide +kernel)
theorem q_924 : Cond.instanceMethod yX1_closeLines ∈ gtw := gtw_in (List.mem_of_getElem? (i := 924) (by decide +kernel)) (by decide +kernel)
theorem q_925 : Cond.selects RX1 yX1_closeLines yX1_closeLines ∈ gtw := gtw_in (List.mem_of_getElem? (i := 925) (by decide +kernel)) (by decide +kernel)
theorem q_168 : Cond.fieldLink RX10 167 "TrustClub$Books" "debt" "[I" ∈ gtw := gtw_in (List.mem_of_getElem? (i := 168) (by decide +kernel)) (by decide +kernel)
theorem q_225 : Cond.fieldLink RX10 416 "TrustClub$Acts" "kind" "[I" ∈ gtw := gtw_in (List.mem_of_getElem? (i := 225) (by decide +kernel)) (by decide +kernel)
theorem q_938 : Cond.code yX0_readDay cX0_readDay 9 (some .int) ∈ gtw := gtw_in (List.mem_of_getElem? (i := 938) (by decide +kernel)) (by decide +kernel)
theorem q_935 : Cond.methodLink RX10 373 yX0_readDay ∈ gtw := gtw_in (List.mem_of_getElem? (i := 935) (by decide +kernel)) (by decide +kernel)
theorem q_936 : Cond.instanceMethod yX0_readDay ∈ gtw := gtw_in (List.mem_of_getElem? (i := 936) (by decide +kernel)) (by decide +kernel)
theorem q_937 : Cond.selects RX0 yX0_readDay yX0_readDay ∈ gtw := gtw_in (List.mem_of_getElem? (i := 937) (by decide +kernel)) (by decide +kernel)
theorem q_949 : Cond.code yX10_perform cX10_perform 5 (some .int) ∈ gtw := gtw_in (List.mem_of_getElem? (i := 949) (by decide +kernel)) (by decide +kernel)
theorem q_946 : Cond.methodLink RX10 377 yX10_perform ∈ gtw := gtw_in (List.mem_of_getElem? (i := 946) (by decide +kernel)) (by decide +kernel)
theorem q_948 : Cond.instanceMethod yX10_perform ∈ gtw := gtw_in (List.mem_of_getElem? (i := 948) (by decide +kernel)) (by decide +kernel)
theorem q_26 : Cond.selects RX10 yX10_perform yX10_perform ∈ gtw := gtw_in (List.mem_of_getElem? (i := 26) (by decide +kernel)) (by decide +kernel)
theorem q_196 : Cond.fieldLink RX10 380 "TrustClub$Past" "many" "I" ∈ gtw := gtw_in (List.mem_of_getElem? (i := 196) (by decide +kernel)) (by decide +kernel)
theorem q_957 : Cond.code yX6_takeInto cX6_takeInto 2 none ∈ gtw := gtw_in (List.mem_of_getElem? (i := 957) (by decide +kernel)) (by decide +kernel)
theorem q_954 : Cond.methodLink RX10 381 yX6_takeInto ∈ gtw := gtw_in (List.mem_of_getElem? (i := 954) (by decide +kernel)) (by decide +kernel)
theorem q_955 : Cond.instanceMethod yX6_takeInto ∈ gtw := gtw_in (List.mem_of_getElem? (i := 955) (by decide +kernel)) (by decide +kernel)
theorem q_956 : Cond.selects RX6 yX6_takeInto yX6_takeInto ∈ gtw := gtw_in (List.mem_of_getElem? (i := 956) (by decide +kernel)) (by decide +kernel)
theorem q_965 : Cond.constant RX10 393 (Int32.ofInt (1103515245)) ∈ gtw := gtw_in (List.mem_of_getElem? (i := 965) (by decide +kernel)) (by decide +kernel)
theorem q_964 : Cond.code yX10_nextDraw cX10_nextDraw 1 (some .int) ∈ gtw := gtw_in (List.mem_of_getElem? (i := 964) (by decide +kernel)) (by decide +kernel)
theorem q_962 : Cond.methodLink RX10 384 yX10_nextDraw ∈ gtw := gtw_in (List.mem_of_getElem? (i := 962) (by decide +kernel)) (by decide +kernel)
theorem q_963 : Cond.static yX10_nextDraw ∈ gtw := gtw_in (List.mem_of_getElem? (i := 963) (by decide +kernel)) (by decide +kernel)
theorem q_968 : Cond.code yX10_drawOf cX10_drawOf 2 (some .int) ∈ gtw := gtw_in (List.mem_of_getElem? (i := 968) (by decide +kernel)) (by decide +kernel)
theorem q_966 : Cond.methodLink RX10 387 yX10_drawOf ∈ gtw := gtw_in (List.mem_of_getElem? (i := 966) (by decide +kernel)) (by decide +kernel)
theorem q_967 : Cond.static yX10_drawOf ∈ gtw := gtw_in (List.mem_of_getElem? (i := 967) (by decide +kernel)) (by decide +kernel)
theorem q_972 : Cond.code yX4_payAll cX4_payAll 4 (some .boolean) ∈ gtw := gtw_in (List.mem_of_getElem? (i := 972) (by decide +kernel)) (by decide +kernel)
theorem q_969 : Cond.methodLink RX10 390 yX4_payAll ∈ gtw := gtw_in (List.mem_of_getElem? (i := 969) (by decide +kernel)) (by decide +kernel)
theorem q_970 : Cond.instanceMethod yX4_payAll ∈ gtw := gtw_in (List.mem_of_getElem? (i := 970) (by decide +kernel)) (by decide +kernel)
theorem q_971 : Cond.selects RX4 yX4_payAll yX4_payAll ∈ gtw := gtw_in (List.mem_of_getElem? (i := 971) (by decide +kernel)) (by decide +kernel)
theorem q_382 : Cond.fieldLink RX10 22 "TrustClub" "kept" "[LTrustClub$Books;" ∈ gtw := gtw_in (List.mem_of_getElem? (i := 382) (by decide +kernel)) (by decide +kernel)
theorem q_383 : Cond.fieldLink RX10 26 "TrustClub" "isKept" "[Z" ∈ gtw := gtw_in (List.mem_of_getElem? (i := 383) (by decide +kernel)) (by decide +kernel)
theorem q_985 : Cond.code yX6_forget cX6_forget 1 none ∈ gtw := gtw_in (List.mem_of_getElem? (i := 985) (by decide +kernel)) (by decide +kernel)
theorem q_982 : Cond.methodLink RX10 394 yX6_forget ∈ gtw := gtw_in (List.mem_of_getElem? (i := 982) (by decide +kernel)) (by decide +kernel)
theorem q_983 : Cond.instanceMethod yX6_forget ∈ gtw := gtw_in (List.mem_of_getElem? (i := 983) (by decide +kernel)) (by decide +kernel)
theorem q_984 : Cond.selects RX6 yX6_forget yX6_forget ∈ gtw := gtw_in (List.mem_of_getElem? (i := 984) (by decide +kernel)) (by decide +kernel)
theorem q_993 : Cond.code yX1_openLines cX1_openLines 3 (some .int) ∈ gtw := gtw_in (List.mem_of_getElem? (i := 993) (by decide +kernel)) (by decide +kernel)
theorem q_990 : Cond.methodLink RX10 397 yX1_openLines ∈ gtw := gtw_in (List.mem_of_getElem? (i := 990) (by decide +kernel)) (by decide +kernel)
theorem q_991 : Cond.instanceMethod yX1_openLines ∈ gtw := gtw_in (List.mem_of_getElem? (i := 991) (by decide +kernel)) (by decide +kernel)
theorem q_992 : Cond.selects RX1 yX1_openLines yX1_openLines ∈ gtw := gtw_in (List.mem_of_getElem? (i := 992) (by decide +kernel)) (by decide +kernel)
theorem q_997 : Cond.code yX1_limitsInAll cX1_limitsInAll 3 (some .int) ∈ gtw := gtw_in (List.mem_of_getElem? (i := 997) (by decide +kernel)) (by decide +kernel)
theorem q_994 : Cond.methodLink RX10 400 yX1_limitsInAll ∈ gtw := gtw_in (List.mem_of_getElem? (i := 994) (by decide +kernel)) (by decide +kernel)
theorem q_995 : Cond.instanceMethod yX1_limitsInAll ∈ gtw := gtw_in (List.mem_of_getElem? (i := 995) (by decide +kernel)) (by decide +kernel)
theorem q_996 : Cond.selects RX1 yX1_limitsInAll yX1_limitsInAll ∈ gtw := gtw_in (List.mem_of_getElem? (i := 996) (by decide +kernel)) (by decide +kernel)
theorem q_257 : Cond.fieldLink RX10 403 "TrustClub$Numbers" "many" "I" ∈ gtw := gtw_in (List.mem_of_getElem? (i := 257) (by decide +kernel)) (by decide +kernel)
theorem q_998 : Cond.methodLink RX10 404 yX1_heldPlaces ∈ gtw := gtw_in (List.mem_of_getElem? (i := 998) (by decide +kernel)) (by decide +kernel)
theorem q_1002 : Cond.code yX1_stockInAll cX1_stockInAll 3 (some .int) ∈ gtw := gtw_in (List.mem_of_getElem? (i := 1002) (by decide +kernel)) (by decide +kernel)
theorem q_999 : Cond.methodLink RX10 407 yX1_stockInAll ∈ gtw := gtw_in (List.mem_of_getElem? (i := 999) (by decide +kernel)) (by decide +kernel)
theorem q_1000 : Cond.instanceMethod yX1_stockInAll ∈ gtw := gtw_in (List.mem_of_getElem? (i := 1000) (by decide +kernel)) (by decide +kernel)
theorem q_1001 : Cond.selects RX1 yX1_stockInAll yX1_stockInAll ∈ gtw := gtw_in (List.mem_of_getElem? (i := 1001) (by decide +kernel)) (by decide +kernel)
theorem q_1108 : Cond.fieldLink RX11 68 "TrustClubModel" "thrown" "I" ∈ gtw := gtw_in (List.mem_of_getElem? (i := 1108) (by decide +kernel)) (by decide +kernel)
theorem q_1106 : Cond.fieldLink RX11 17 "TrustClubModel" "row" "[J" ∈ gtw := gtw_in (List.mem_of_getElem? (i := 1106) (by decide +kernel)) (by decide +kernel)
theorem q_1107 : Cond.fieldLink RX11 71 "TrustClubModel" "rowMany" "I" ∈ gtw := gtw_in (List.mem_of_getElem? (i := 1107) (by decide +kernel)) (by decide +kernel)
theorem q_1103 : Cond.fieldLink RX11 9 "TrustClubModel" "now" "[I" ∈ gtw := gtw_in (List.mem_of_getElem? (i := 1103) (by decide +kernel)) (by decide +kernel)
theorem q_1214 : Cond.code yX11_in cX11_in 3 (some .boolean) ∈ gtw := gtw_in (List.mem_of_getElem? (i := 1214) (by decide +kernel)) (by decide +kernel)
theorem q_1212 : Cond.methodLink RX11 74 yX11_in ∈ gtw := gtw_in (List.mem_of_getElem? (i := 1212) (by decide +kernel)) (by decide +kernel)
theorem q_1213 : Cond.static yX11_in ∈ gtw := gtw_in (List.mem_of_getElem? (i := 1213) (by decide +kernel)) (by decide +kernel)
theorem q_105 : Cond.initialized RX11 ∈ gtw := gtw_in (List.mem_of_getElem? (i := 105) (by decide +kernel)) (by decide +kernel)
theorem q_1270 : Cond.code yX11_isMember cX11_isMember 2 (some .boolean) ∈ gtw := gtw_in (List.mem_of_getElem? (i := 1270) (by decide +kernel)) (by decide +kernel)
theorem q_1267 : Cond.methodLink RX11 78 yX11_isMember ∈ gtw := gtw_in (List.mem_of_getElem? (i := 1267) (by decide +kernel)) (by decide +kernel)
theorem q_1269 : Cond.instanceMethod yX11_isMember ∈ gtw := gtw_in (List.mem_of_getElem? (i := 1269) (by decide +kernel)) (by decide +kernel)
theorem q_38 : Cond.selects RX11 yX11_isMember yX11_isMember ∈ gtw := gtw_in (List.mem_of_getElem? (i := 38) (by decide +kernel)) (by decide +kernel)
theorem q_1241 : Cond.code yX11_pair cX11_pair 2 (some .int) ∈ gtw := gtw_in (List.mem_of_getElem? (i := 1241) (by decide +kernel)) (by decide +kernel)
theorem q_1239 : Cond.methodLink RX11 82 yX11_pair ∈ gtw := gtw_in (List.mem_of_getElem? (i := 1239) (by decide +kernel)) (by decide +kernel)
theorem q_1240 : Cond.static yX11_pair ∈ gtw := gtw_in (List.mem_of_getElem? (i := 1240) (by decide +kernel)) (by decide +kernel)
theorem q_1262 : Cond.methodLink RX11 86 Lib.Math.max.name ∈ gtw := gtw_in (List.mem_of_getElem? (i := 1262) (by decide +kernel)) (by decide +kernel)
theorem q_1277 : Cond.code yX11_holdAt cX11_holdAt 1 (some .int) ∈ gtw := gtw_in (List.mem_of_getElem? (i := 1277) (by decide +kernel)) (by decide +kernel)
theorem q_1275 : Cond.methodLink RX11 91 yX11_holdAt ∈ gtw := gtw_in (List.mem_of_getElem? (i := 1275) (by decide +kernel)) (by decide +kernel)
theorem q_1276 : Cond.static yX11_holdAt ∈ gtw := gtw_in (List.mem_of_getElem? (i := 1276) (by decide +kernel)) (by decide +kernel)
theorem q_1308 : Cond.code yX11_limit cX11_limit 3 (some .int) ∈ gtw := gtw_in (List.mem_of_getElem? (i := 1308) (by decide +kernel)) (by decide +kernel)
theorem q_1305 : Cond.methodLink RX11 95 yX11_limit ∈ gtw := gtw_in (List.mem_of_getElem? (i := 1305) (by decide +kernel)) (by decide +kernel)
theorem q_1307 : Cond.instanceMethod yX11_limit ∈ gtw := gtw_in (List.mem_of_getElem? (i := 1307) (by decide +kernel)) (by decide +kernel)
theorem q_45 : Cond.selects RX11 yX11_limit yX11_limit ∈ gtw := gtw_in (List.mem_of_getElem? (i := 45) (by decide +kernel)) (by decide +kernel)
theorem q_1312 : Cond.code yX11_heldOf cX11_heldOf 5 (some .int) ∈ gtw := gtw_in (List.mem_of_getElem? (i := 1312) (by decide +kernel)) (by decide +kernel)
theorem q_1309 : Cond.methodLink RX11 98 yX11_heldOf ∈ gtw := gtw_in (List.mem_of_getElem? (i := 1309) (by decide +kernel)) (by decide +kernel)
theorem q_1311 : Cond.instanceMethod yX11_heldOf ∈ gtw := gtw_in (List.mem_of_getElem? (i := 1311) (by decide +kernel)) (by decide +kernel)
theorem q_46 : Cond.selects RX11 yX11_heldOf yX11_heldOf ∈ gtw := gtw_in (List.mem_of_getElem? (i := 46) (by decide +kernel)) (by decide +kernel)
theorem q_1105 : Cond.fieldLink RX11 101 "TrustClubModel" "typed" "I" ∈ gtw := gtw_in (List.mem_of_getElem? (i := 1105) (by decide +kernel)) (by decide +kernel)
theorem q_1104 : Cond.fieldLink RX11 13 "TrustClubModel" "text" "[B" ∈ gtw := gtw_in (List.mem_of_getElem? (i := 1104) (by decide +kernel)) (by decide +kernel)
theorem q_1109 : Cond.fieldLink RX11 104 "TrustClubModel" "length" "I" ∈ gtw := gtw_in (List.mem_of_getElem? (i := 1109) (by decide +kernel)) (by decide +kernel)
theorem q_1110 : Cond.fieldLink RX11 107 "TrustClubModel" "at" "I" ∈ gtw := gtw_in (List.mem_of_getElem? (i := 1110) (by decide +kernel)) (by decide +kernel)
theorem q_1111 : Cond.fieldLink RX11 110 "TrustClubModel" "wrong" "I" ∈ gtw := gtw_in (List.mem_of_getElem? (i := 1111) (by decide +kernel)) (by decide +kernel)
theorem q_1230 : Cond.code yX11_fine cX11_fine 1 (some .boolean) ∈ gtw := gtw_in (List.mem_of_getElem? (i := 1230) (by decide +kernel)) (by decide +kernel)
theorem q_1227 : Cond.methodLink RX11 113 yX11_fine ∈ gtw := gtw_in (List.mem_of_getElem? (i := 1227) (by decide +kernel)) (by decide +kernel)
theorem q_1229 : Cond.instanceMethod yX11_fine ∈ gtw := gtw_in (List.mem_of_getElem? (i := 1229) (by decide +kernel)) (by decide +kernel)
theorem q_30 : Cond.selects RX11 yX11_fine yX11_fine ∈ gtw := gtw_in (List.mem_of_getElem? (i := 30) (by decide +kernel)) (by decide +kernel)
theorem q_1234 : Cond.code yX11_here cX11_here 1 (some .int) ∈ gtw := gtw_in (List.mem_of_getElem? (i := 1234) (by decide +kernel)) (by decide +kernel)
theorem q_1231 : Cond.methodLink RX11 117 yX11_here ∈ gtw := gtw_in (List.mem_of_getElem? (i := 1231) (by decide +kernel)) (by decide +kernel)
theorem q_1233 : Cond.instanceMethod yX11_here ∈ gtw := gtw_in (List.mem_of_getElem? (i := 1233) (by decide +kernel)) (by decide +kernel)
theorem q_31 : Cond.selects RX11 yX11_here yX11_here ∈ gtw := gtw_in (List.mem_of_getElem? (i := 31) (by decide +kernel)) (by decide +kernel)
theorem q_1238 : Cond.code yX11_fault cX11_fault 2 none ∈ gtw := gtw_in (List.mem_of_getElem? (i := 1238) (by decide +kernel)) (by decide +kernel)
theorem q_1235 : Cond.methodLink RX11 121 yX11_fault ∈ gtw := gtw_in (List.mem_of_getElem? (i := 1235) (by decide +kernel)) (by decide +kernel)
theorem q_1237 : Cond.instanceMethod yX11_fault ∈ gtw := gtw_in (List.mem_of_getElem? (i := 1237) (by decide +kernel)) (by decide +kernel)
theorem q_32 : Cond.selects RX11 yX11_fault yX11_fault ∈ gtw := gtw_in (List.mem_of_getElem? (i := 32) (by decide +kernel)) (by decide +kernel)
theorem q_1226 : Cond.code yX11_oneOf cX11_oneOf 3 (some .int) ∈ gtw := gtw_in (List.mem_of_getElem? (i := 1226) (by decide +kernel)) (by decide +kernel)
theorem q_1223 : Cond.methodLink RX11 125 yX11_oneOf ∈ gtw := gtw_in (List.mem_of_getElem? (i := 1223) (by decide +kernel)) (by decide +kernel)
theorem q_1225 : Cond.instanceMethod yX11_oneOf ∈ gtw := gtw_in (List.mem_of_getElem? (i := 1225) (by decide +kernel)) (by decide +kernel)
theorem q_29 : Cond.selects RX11 yX11_oneOf yX11_oneOf ∈ gtw := gtw_in (List.mem_of_getElem? (i := 29) (by decide +kernel)) (by decide +kernel)
theorem q_1130 : Cond.fieldLink RX11 58 "TrustClubModel" "was" "[I" ∈ gtw := gtw_in (List.mem_of_getElem? (i := 1130) (by decide +kernel)) (by decide +kernel)
theorem q_1131 : Cond.fieldLink RX11 320 "TrustClubModel" "undoMany" "I" ∈ gtw := gtw_in (List.mem_of_getElem? (i := 1131) (by decide +kernel)) (by decide +kernel)
theorem q_1129 : Cond.fieldLink RX11 55 "TrustClubModel" "undos" "[I" ∈ gtw := gtw_in (List.mem_of_getElem? (i := 1129) (by decide +kernel)) (by decide +kernel)
theorem q_1257 : Cond.code yX11_lay cX11_lay 2 none ∈ gtw := gtw_in (List.mem_of_getElem? (i := 1257) (by decide +kernel)) (by decide +kernel)
theorem q_1254 : Cond.methodLink RX11 262 yX11_lay ∈ gtw := gtw_in (List.mem_of_getElem? (i := 1254) (by decide +kernel)) (by decide +kernel)
theorem q_1256 : Cond.instanceMethod yX11_lay ∈ gtw := gtw_in (List.mem_of_getElem? (i := 1256) (by decide +kernel)) (by decide +kernel)
theorem q_36 : Cond.selects RX11 yX11_lay yX11_lay ∈ gtw := gtw_in (List.mem_of_getElem? (i := 36) (by decide +kernel)) (by decide +kernel)
theorem q_1261 : Cond.code yX11_note cX11_note 2 none ∈ gtw := gtw_in (List.mem_of_getElem? (i := 1261) (by decide +kernel)) (by decide +kernel)
theorem q_1258 : Cond.methodLink RX11 268 yX11_note ∈ gtw := gtw_in (List.mem_of_getElem? (i := 1258) (by decide +kernel)) (by decide +kernel)
theorem q_1260 : Cond.instanceMethod yX11_note ∈ gtw := gtw_in (List.mem_of_getElem? (i := 1260) (by decide +kernel)) (by decide +kernel)
theorem q_37 : Cond.selects RX11 yX11_note yX11_note ∈ gtw := gtw_in (List.mem_of_getElem? (i := 37) (by decide +kernel)) (by decide +kernel)
theorem q_1222 : Cond.code yX11_begin cX11_begin 1 none ∈ gtw := gtw_in (List.mem_of_getElem? (i := 1222) (by decide +kernel)) (by decide +kernel)
theorem q_1219 : Cond.methodLink RX11 129 yX11_begin ∈ gtw := gtw_in (List.mem_of_getElem? (i := 1219) (by decide +kernel)) (by decide +kernel)
theorem q_1221 : Cond.instanceMethod yX11_begin ∈ gtw := gtw_in (List.mem_of_getElem? (i := 1221) (by decide +kernel)) (by decide +kernel)
theorem q_28 : Cond.selects RX11 yX11_begin yX11_begin ∈ gtw := gtw_in (List.mem_of_getElem? (i := 28) (by decide +kernel)) (by decide +kernel)
theorem q_1113 : Cond.fieldLink RX11 24 "TrustClubModel" "told" "[I" ∈ gtw := gtw_in (List.mem_of_getElem? (i := 1113) (by decide +kernel)) (by decide +kernel)
theorem q_1249 : Cond.code yX11_wasRight cX11_wasRight 1 (some .boolean) ∈ gtw := gtw_in (List.mem_of_getElem? (i := 1249) (by decide +kernel)) (by decide +kernel)
theorem q_1246 : Cond.methodLink RX11 135 yX11_wasRight ∈ gtw := gtw_in (List.mem_of_getElem? (i := 1246) (by decide +kernel)) (by decide +kernel)
theorem q_1248 : Cond.instanceMethod yX11_wasRight ∈ gtw := gtw_in (List.mem_of_getElem? (i := 1248) (by decide +kernel)) (by decide +kernel)
theorem q_34 : Cond.selects RX11 yX11_wasRight yX11_wasRight ∈ gtw := gtw_in (List.mem_of_getElem? (i := 34) (by decide +kernel)) (by decide +kernel)
theorem q_1253 : Cond.code yX11_change cX11_change 1 none ∈ gtw := gtw_in (List.mem_of_getElem? (i := 1253) (by decide +kernel)) (by decide +kernel)
theorem q_1250 : Cond.methodLink RX11 138 yX11_change ∈ gtw := gtw_in (List.mem_of_getElem? (i := 1250) (by decide +kernel)) (by decide +kernel)
theorem q_1252 : Cond.instanceMethod yX11_change ∈ gtw := gtw_in (List.mem_of_getElem? (i := 1252) (by decide +kernel)) (by decide +kernel)
theorem q_35 : Cond.selects RX11 yX11_change yX11_change ∈ gtw := gtw_in (List.mem_of_getElem? (i := 35) (by decide +kernel)) (by decide +kernel)
theorem q_1245 : Cond.code yX11_digits cX11_digits 4 (some .int) ∈ gtw := gtw_in (List.mem_of_getElem? (i := 1245) (by decide +kernel)) (by decide +kernel)
theorem q_1242 : Cond.methodLink RX11 132 yX11_digits ∈ gtw := gtw_in (List.mem_of_getElem? (i := 1242) (by decide +kernel)) (by decide +kernel)
theorem q_1244 : Cond.instanceMethod yX11_digits ∈ gtw := gtw_in (List.mem_of_getElem? (i := 1244) (by decide +kernel)) (by decide +kernel)
theorem q_33 : Cond.selects RX11 yX11_digits yX11_digits ∈ gtw := gtw_in (List.mem_of_getElem? (i := 33) (by decide +kernel)) (by decide +kernel)
theorem q_1288 : Cond.code yX11_owes cX11_owes 3 (some .int) ∈ gtw := gtw_in (List.mem_of_getElem? (i := 1288) (by decide +kernel)) (by decide +kernel)
theorem q_1285 : Cond.methodLink RX11 141 yX11_owes ∈ gtw := gtw_in (List.mem_of_getElem? (i := 1285) (by decide +kernel)) (by decide +kernel)
theorem q_1287 : Cond.instanceMethod yX11_owes ∈ gtw := gtw_in (List.mem_of_getElem? (i := 1287) (by decide +kernel)) (by decide +kernel)
theorem q_41 : Cond.selects RX11 yX11_owes yX11_owes ∈ gtw := gtw_in (List.mem_of_getElem? (i := 41) (by decide +kernel)) (by decide +kernel)
theorem q_1274 : Cond.code yX11_heldBits cX11_heldBits 3 (some .int) ∈ gtw := gtw_in (List.mem_of_getElem? (i := 1274) (by decide +kernel)) (by decide +kernel)
theorem q_1271 : Cond.methodLink RX11 144 yX11_heldBits ∈ gtw := gtw_in (List.mem_of_getElem? (i := 1271) (by decide +kernel)) (by decide +kernel)
theorem q_1273 : Cond.instanceMethod yX11_heldBits ∈ gtw := gtw_in (List.mem_of_getElem? (i := 1273) (by decide +kernel)) (by decide +kernel)
theorem q_39 : Cond.selects RX11 yX11_heldBits yX11_heldBits ∈ gtw := gtw_in (List.mem_of_getElem? (i := 39) (by decide +kernel)) (by decide +kernel)
theorem q_1280 : Cond.code yX11_entryOf cX11_entryOf 5 (some .int) ∈ gtw := gtw_in (List.mem_of_getElem? (i := 1280) (by decide +kernel)) (by decide +kernel)
theorem q_1278 : Cond.methodLink RX11 147 yX11_entryOf ∈ gtw := gtw_in (List.mem_of_getElem? (i := 1278) (by decide +kernel)) (by decide +kernel)
theorem q_1279 : Cond.static yX11_entryOf ∈ gtw := gtw_in (List.mem_of_getElem? (i := 1279) (by decide +kernel)) (by decide +kernel)
theorem q_1284 : Cond.code yX11_whyNot cX11_whyNot 4 (some .int) ∈ gtw := gtw_in (List.mem_of_getElem? (i := 1284) (by decide +kernel)) (by decide +kernel)
theorem q_1281 : Cond.methodLink RX11 151 yX11_whyNot ∈ gtw := gtw_in (List.mem_of_getElem? (i := 1281) (by decide +kernel)) (by decide +kernel)
theorem q_1283 : Cond.instanceMethod yX11_whyNot ∈ gtw := gtw_in (List.mem_of_getElem? (i := 1283) (by decide +kernel)) (by decide +kernel)
theorem q_40 : Cond.selects RX11 yX11_whyNot yX11_whyNot ∈ gtw := gtw_in (List.mem_of_getElem? (i := 40) (by decide +kernel)) (by decide +kernel)
theorem q_1292 : Cond.code yX11_tell cX11_tell 3 none ∈ gtw := gtw_in (List.mem_of_getElem? (i := 1292) (by decide +kernel)) (by decide +kernel)
theorem q_1289 : Cond.methodLink RX11 155 yX11_tell ∈ gtw := gtw_in (List.mem_of_getElem? (i := 1289) (by decide +kernel)) (by decide +kernel)
theorem q_1291 : Cond.instanceMethod yX11_tell ∈ gtw := gtw_in (List.mem_of_getElem? (i := 1291) (by decide +kernel)) (by decide +kernel)
theorem q_42 : Cond.selects RX11 yX11_tell yX11_tell ∈ gtw := gtw_in (List.mem_of_getElem? (i := 42) (by decide +kernel)) (by decide +kernel)
theorem q_1300 : Cond.code yX11_areTwo cX11_areTwo 3 (some .boolean) ∈ gtw := gtw_in (List.mem_of_getElem? (i := 1300) (by decide +kernel)) (by decide +kernel)
theorem q_1297 : Cond.methodLink RX11 159 yX11_areTwo ∈ gtw := gtw_in (List.mem_of_getElem? (i := 1297) (by decide +kernel)) (by decide +kernel)
theorem q_1299 : Cond.instanceMethod yX11_areTwo ∈ gtw := gtw_in (List.mem_of_getElem? (i := 1299) (by decide +kernel)) (by decide +kernel)
theorem q_43 : Cond.selects RX11 yX11_areTwo yX11_areTwo ∈ gtw := gtw_in (List.mem_of_getElem? (i := 43) (by decide +kernel)) (by decide +kernel)
theorem q_1304 : Cond.code yX11_room cX11_room 3 (some .int) ∈ gtw := gtw_in (List.mem_of_getElem? (i := 1304) (by decide +kernel)) (by decide +kernel)
theorem q_1301 : Cond.methodLink RX11 163 yX11_room ∈ gtw := gtw_in (List.mem_of_getElem? (i := 1301) (by decide +kernel)) (by decide +kernel)
theorem q_1303 : Cond.instanceMethod yX11_room ∈ gtw := gtw_in (List.mem_of_getElem? (i := 1303) (by decide +kernel)) (by decide +kernel)
theorem q_44 : Cond.selects RX11 yX11_room yX11_room ∈ gtw := gtw_in (List.mem_of_getElem? (i := 44) (by decide +kernel)) (by decide +kernel)
theorem q_1320 : Cond.code yX11_lost cX11_lost 1 (some .int) ∈ gtw := gtw_in (List.mem_of_getElem? (i := 1320) (by decide +kernel)) (by decide +kernel)
theorem q_1317 : Cond.methodLink RX11 166 yX11_lost ∈ gtw := gtw_in (List.mem_of_getElem? (i := 1317) (by decide +kernel)) (by decide +kernel)
theorem q_1319 : Cond.instanceMethod yX11_lost ∈ gtw := gtw_in (List.mem_of_getElem? (i := 1319) (by decide +kernel)) (by decide +kernel)
theorem q_47 : Cond.selects RX11 yX11_lost yX11_lost ∈ gtw := gtw_in (List.mem_of_getElem? (i := 47) (by decide +kernel)) (by decide +kernel)
theorem q_1328 : Cond.code yX11_owesAll cX11_owesAll 4 (some .int) ∈ gtw := gtw_in (List.mem_of_getElem? (i := 1328) (by decide +kernel)) (by decide +kernel)
theorem q_1325 : Cond.methodLink RX11 169 yX11_owesAll ∈ gtw := gtw_in (List.mem_of_getElem? (i := 1325) (by decide +kernel)) (by decide +kernel)
theorem q_1327 : Cond.instanceMethod yX11_owesAll ∈ gtw := gtw_in (List.mem_of_getElem? (i := 1327) (by decide +kernel)) (by decide +kernel)
theorem q_48 : Cond.selects RX11 yX11_owesAll yX11_owesAll ∈ gtw := gtw_in (List.mem_of_getElem? (i := 48) (by decide +kernel)) (by decide +kernel)
theorem q_1332 : Cond.code yX11_allDebts cX11_allDebts 3 (some .int) ∈ gtw := gtw_in (List.mem_of_getElem? (i := 1332) (by decide +kernel)) (by decide +kernel)
theorem q_1329 : Cond.methodLink RX11 172 yX11_allDebts ∈ gtw := gtw_in (List.mem_of_getElem? (i := 1329) (by decide +kernel)) (by decide +kernel)
theorem q_1331 : Cond.instanceMethod yX11_allDebts ∈ gtw := gtw_in (List.mem_of_getElem? (i := 1331) (by decide +kernel)) (by decide +kernel)
theorem q_49 : Cond.selects RX11 yX11_allDebts yX11_allDebts ∈ gtw := gtw_in (List.mem_of_getElem? (i := 49) (by decide +kernel)) (by decide +kernel)
theorem q_1117 : Cond.fieldLink RX11 33 "TrustClubModel" "barred" "I" ∈ gtw := gtw_in (List.mem_of_getElem? (i := 1117) (by decide +kernel)) (by decide +kernel)
theorem q_1114 : Cond.fieldLink RX11 27 "TrustClubModel" "far" "[I" ∈ gtw := gtw_in (List.mem_of_getElem? (i := 1114) (by decide +kernel)) (by decide +kernel)
theorem q_1352 : Cond.code yX11_canGo cX11_canGo 4 (some .boolean) ∈ gtw := gtw_in (List.mem_of_getElem? (i := 1352) (by decide +kernel)) (by decide +kernel)
theorem q_1349 : Cond.methodLink RX11 175 yX11_canGo ∈ gtw := gtw_in (List.mem_of_getElem? (i := 1349) (by decide +kernel)) (by decide +kernel)
theorem q_1351 : Cond.instanceMethod yX11_canGo ∈ gtw := gtw_in (List.mem_of_getElem? (i := 1351) (by decide +kernel)) (by decide +kernel)
theorem q_53 : Cond.selects RX11 yX11_canGo yX11_canGo ∈ gtw := gtw_in (List.mem_of_getElem? (i := 53) (by decide +kernel)) (by decide +kernel)
theorem q_1348 : Cond.code yX11_layFar cX11_layFar 6 none ∈ gtw := gtw_in (List.mem_of_getElem? (i := 1348) (by decide +kernel)) (by decide +kernel)
theorem q_1345 : Cond.methodLink RX11 178 yX11_layFar ∈ gtw := gtw_in (List.mem_of_getElem? (i := 1345) (by decide +kernel)) (by decide +kernel)
theorem q_1347 : Cond.instanceMethod yX11_layFar ∈ gtw := gtw_in (List.mem_of_getElem? (i := 1347) (by decide +kernel)) (by decide +kernel)
theorem q_52 : Cond.selects RX11 yX11_layFar yX11_layFar ∈ gtw := gtw_in (List.mem_of_getElem? (i := 52) (by decide +kernel)) (by decide +kernel)
theorem q_1116 : Cond.fieldLink RX11 182 "TrustClubModel" "foundMany" "I" ∈ gtw := gtw_in (List.mem_of_getElem? (i := 1116) (by decide +kernel)) (by decide +kernel)
theorem q_1115 : Cond.fieldLink RX11 30 "TrustClubModel" "found" "[I" ∈ gtw := gtw_in (List.mem_of_getElem? (i := 1115) (by decide +kernel)) (by decide +kernel)
theorem q_1389 : Cond.methodLink RX11 185 Lib.Math.min.name ∈ gtw := gtw_in (List.mem_of_getElem? (i := 1389) (by decide +kernel)) (by decide +kernel)
theorem q_1397 : Cond.code yX11_straight cX11_straight 4 none ∈ gtw := gtw_in (List.mem_of_getElem? (i := 1397) (by decide +kernel)) (by decide +kernel)
theorem q_1394 : Cond.methodLink RX11 188 yX11_straight ∈ gtw := gtw_in (List.mem_of_getElem? (i := 1394) (by decide +kernel)) (by decide +kernel)
theorem q_1396 : Cond.instanceMethod yX11_straight ∈ gtw := gtw_in (List.mem_of_getElem? (i := 1396) (by decide +kernel)) (by decide +kernel)
theorem q_61 : Cond.selects RX11 yX11_straight yX11_straight ∈ gtw := gtw_in (List.mem_of_getElem? (i := 61) (by decide +kernel)) (by decide +kernel)
theorem q_1340 : Cond.code yX11_isPayment cX11_isPayment 4 (some .boolean) ∈ gtw := gtw_in (List.mem_of_getElem? (i := 1340) (by decide +kernel)) (by decide +kernel)
theorem q_1337 : Cond.methodLink RX11 192 yX11_isPayment ∈ gtw := gtw_in (List.mem_of_getElem? (i := 1337) (by decide +kernel)) (by decide +kernel)
theorem q_1339 : Cond.instanceMethod yX11_isPayment ∈ gtw := gtw_in (List.mem_of_getElem? (i := 1339) (by decide +kernel)) (by decide +kernel)
theorem q_50 : Cond.selects RX11 yX11_isPayment yX11_isPayment ∈ gtw := gtw_in (List.mem_of_getElem? (i := 50) (by decide +kernel)) (by decide +kernel)
theorem q_1344 : Cond.code yX11_findWay cX11_findWay 6 (some .boolean) ∈ gtw := gtw_in (List.mem_of_getElem? (i := 1344) (by decide +kernel)) (by decide +kernel)
theorem q_1341 : Cond.methodLink RX11 195 yX11_findWay ∈ gtw := gtw_in (List.mem_of_getElem? (i := 1341) (by decide +kernel)) (by decide +kernel)
theorem q_1343 : Cond.instanceMethod yX11_findWay ∈ gtw := gtw_in (List.mem_of_getElem? (i := 1343) (by decide +kernel)) (by decide +kernel)
theorem q_51 : Cond.selects RX11 yX11_findWay yX11_findWay ∈ gtw := gtw_in (List.mem_of_getElem? (i := 51) (by decide +kernel)) (by decide +kernel)
theorem q_1356 : Cond.code yX11_tellWay cX11_tellWay 2 none ∈ gtw := gtw_in (List.mem_of_getElem? (i := 1356) (by decide +kernel)) (by decide +kernel)
theorem q_1353 : Cond.methodLink RX11 198 yX11_tellWay ∈ gtw := gtw_in (List.mem_of_getElem? (i := 1353) (by decide +kernel)) (by decide +kernel)
theorem q_1355 : Cond.instanceMethod yX11_tellWay ∈ gtw := gtw_in (List.mem_of_getElem? (i := 1355) (by decide +kernel)) (by decide +kernel)
theorem q_54 : Cond.selects RX11 yX11_tellWay yX11_tellWay ∈ gtw := gtw_in (List.mem_of_getElem? (i := 54) (by decide +kernel)) (by decide +kernel)
theorem q_1364 : Cond.code yX11_reached cX11_reached 7 (some .int) ∈ gtw := gtw_in (List.mem_of_getElem? (i := 1364) (by decide +kernel)) (by decide +kernel)
theorem q_1361 : Cond.methodLink RX11 201 yX11_reached ∈ gtw := gtw_in (List.mem_of_getElem? (i := 1361) (by decide +kernel)) (by decide +kernel)
theorem q_1363 : Cond.instanceMethod yX11_reached ∈ gtw := gtw_in (List.mem_of_getElem? (i := 1363) (by decide +kernel)) (by decide +kernel)
theorem q_55 : Cond.selects RX11 yX11_reached yX11_reached ∈ gtw := gtw_in (List.mem_of_getElem? (i := 55) (by decide +kernel)) (by decide +kernel)
theorem q_1367 : Cond.code yX11_countBits cX11_countBits 3 (some .int) ∈ gtw := gtw_in (List.mem_of_getElem? (i := 1367) (by decide +kernel)) (by decide +kernel)
theorem q_1365 : Cond.methodLink RX11 204 yX11_countBits ∈ gtw := gtw_in (List.mem_of_getElem? (i := 1365) (by decide +kernel)) (by decide +kernel)
theorem q_1366 : Cond.static yX11_countBits ∈ gtw := gtw_in (List.mem_of_getElem? (i := 1366) (by decide +kernel)) (by decide +kernel)
theorem q_1118 : Cond.fieldLink RX11 37 "TrustClubModel" "aside" "[I" ∈ gtw := gtw_in (List.mem_of_getElem? (i := 1118) (by decide +kernel)) (by decide +kernel)
theorem q_1119 : Cond.fieldLink RX11 207 "TrustClubModel" "parts" "I" ∈ gtw := gtw_in (List.mem_of_getElem? (i := 1119) (by decide +kernel)) (by decide +kernel)
theorem q_1120 : Cond.fieldLink RX11 210 "TrustClubModel" "longest" "I" ∈ gtw := gtw_in (List.mem_of_getElem? (i := 1120) (by decide +kernel)) (by decide +kernel)
theorem q_1388 : Cond.code yX11_leastRoom cX11_leastRoom 3 (some .int) ∈ gtw := gtw_in (List.mem_of_getElem? (i := 1388) (by decide +kernel)) (by decide +kernel)
theorem q_1385 : Cond.methodLink RX11 213 yX11_leastRoom ∈ gtw := gtw_in (List.mem_of_getElem? (i := 1385) (by decide +kernel)) (by decide +kernel)
theorem q_1387 : Cond.instanceMethod yX11_leastRoom ∈ gtw := gtw_in (List.mem_of_getElem? (i := 1387) (by decide +kernel)) (by decide +kernel)
theorem q_59 : Cond.selects RX11 yX11_leastRoom yX11_leastRoom ∈ gtw := gtw_in (List.mem_of_getElem? (i := 59) (by decide +kernel)) (by decide +kernel)
theorem q_1393 : Cond.code yX11_goOnWay cX11_goOnWay 3 none ∈ gtw := gtw_in (List.mem_of_getElem? (i := 1393) (by decide +kernel)) (by decide +kernel)
theorem q_1390 : Cond.methodLink RX11 216 yX11_goOnWay ∈ gtw := gtw_in (List.mem_of_getElem? (i := 1390) (by decide +kernel)) (by decide +kernel)
theorem q_1392 : Cond.instanceMethod yX11_goOnWay ∈ gtw := gtw_in (List.mem_of_getElem? (i := 1392) (by decide +kernel)) (by decide +kernel)
theorem q_60 : Cond.selects RX11 yX11_goOnWay yX11_goOnWay ∈ gtw := gtw_in (List.mem_of_getElem? (i := 60) (by decide +kernel)) (by decide +kernel)
theorem q_1379 : Cond.code yX11_layAside cX11_layAside 3 none ∈ gtw := gtw_in (List.mem_of_getElem? (i := 1379) (by decide +kernel)) (by decide +kernel)
theorem q_1376 : Cond.methodLink RX11 219 yX11_layAside ∈ gtw := gtw_in (List.mem_of_getElem? (i := 1376) (by decide +kernel)) (by decide +kernel)
theorem q_1378 : Cond.instanceMethod yX11_layAside ∈ gtw := gtw_in (List.mem_of_getElem? (i := 1378) (by decide +kernel)) (by decide +kernel)
theorem q_57 : Cond.selects RX11 yX11_layAside yX11_layAside ∈ gtw := gtw_in (List.mem_of_getElem? (i := 57) (by decide +kernel)) (by decide +kernel)
theorem q_1380 : Cond.constant RX11 224 (Int32.ofInt (2147483647)) ∈ gtw := gtw_in (List.mem_of_getElem? (i := 1380) (by decide +kernel)) (by decide +kernel)
theorem q_1384 : Cond.code yX11_goParts cX11_goParts 7 (some .int) ∈ gtw := gtw_in (List.mem_of_getElem? (i := 1384) (by decide +kernel)) (by decide +kernel)
theorem q_1381 : Cond.methodLink RX11 225 yX11_goParts ∈ gtw := gtw_in (List.mem_of_getElem? (i := 1381) (by decide +kernel)) (by decide +kernel)
theorem q_1383 : Cond.instanceMethod yX11_goParts ∈ gtw := gtw_in (List.mem_of_getElem? (i := 1383) (by decide +kernel)) (by decide +kernel)
theorem q_58 : Cond.selects RX11 yX11_goParts yX11_goParts ∈ gtw := gtw_in (List.mem_of_getElem? (i := 58) (by decide +kernel)) (by decide +kernel)
theorem q_1121 : Cond.fieldLink RX11 229 "TrustClubModel" "cut" "I" ∈ gtw := gtw_in (List.mem_of_getElem? (i := 1121) (by decide +kernel)) (by decide +kernel)
theorem q_1401 : Cond.code yX11_comesBack cX11_comesBack 3 none ∈ gtw := gtw_in (List.mem_of_getElem? (i := 1401) (by decide +kernel)) (by decide +kernel)
theorem q_1398 : Cond.methodLink RX11 232 yX11_comesBack ∈ gtw := gtw_in (List.mem_of_getElem? (i := 1398) (by decide +kernel)) (by decide +kernel)
theorem q_1400 : Cond.instanceMethod yX11_comesBack ∈ gtw := gtw_in (List.mem_of_getElem? (i := 1400) (by decide +kernel)) (by decide +kernel)
theorem q_62 : Cond.selects RX11 yX11_comesBack yX11_comesBack ∈ gtw := gtw_in (List.mem_of_getElem? (i := 62) (by decide +kernel)) (by decide +kernel)
theorem q_1375 : Cond.code yX11_mostOf cX11_mostOf 4 (some .int) ∈ gtw := gtw_in (List.mem_of_getElem? (i := 1375) (by decide +kernel)) (by decide +kernel)
theorem q_1372 : Cond.methodLink RX11 235 yX11_mostOf ∈ gtw := gtw_in (List.mem_of_getElem? (i := 1372) (by decide +kernel)) (by decide +kernel)
theorem q_1374 : Cond.instanceMethod yX11_mostOf ∈ gtw := gtw_in (List.mem_of_getElem? (i := 1374) (by decide +kernel)) (by decide +kernel)
theorem q_56 : Cond.selects RX11 yX11_mostOf yX11_mostOf ∈ gtw := gtw_in (List.mem_of_getElem? (i := 56) (by decide +kernel)) (by decide +kernel)
theorem q_1122 : Cond.fieldLink RX11 40 "TrustClubModel" "ring" "[I" ∈ gtw := gtw_in (List.mem_of_getElem? (i := 1122) (by decide +kernel)) (by decide +kernel)
theorem q_1417 : Cond.code yX11_isOnRing cX11_isOnRing 4 (some .boolean) ∈ gtw := gtw_in (List.mem_of_getElem? (i := 1417) (by decide +kernel)) (by decide +kernel)
theorem q_1414 : Cond.methodLink RX11 238 yX11_isOnRing ∈ gtw := gtw_in (List.mem_of_getElem? (i := 1414) (by decide +kernel)) (by decide +kernel)
theorem q_1416 : Cond.instanceMethod yX11_isOnRing ∈ gtw := gtw_in (List.mem_of_getElem? (i := 1416) (by decide +kernel)) (by decide +kernel)
theorem q_65 : Cond.selects RX11 yX11_isOnRing yX11_isOnRing ∈ gtw := gtw_in (List.mem_of_getElem? (i := 65) (by decide +kernel)) (by decide +kernel)
theorem q_1413 : Cond.code yX11_isRing cX11_isRing 4 (some .boolean) ∈ gtw := gtw_in (List.mem_of_getElem? (i := 1413) (by decide +kernel)) (by decide +kernel)
theorem q_1410 : Cond.methodLink RX11 241 yX11_isRing ∈ gtw := gtw_in (List.mem_of_getElem? (i := 1410) (by decide +kernel)) (by decide +kernel)
theorem q_1412 : Cond.instanceMethod yX11_isRing ∈ gtw := gtw_in (List.mem_of_getElem? (i := 1412) (by decide +kernel)) (by decide +kernel)
theorem q_64 : Cond.selects RX11 yX11_isRing yX11_isRing ∈ gtw := gtw_in (List.mem_of_getElem? (i := 64) (by decide +kernel)) (by decide +kernel)
theorem q_1409 : Cond.code yX11_findRing cX11_findRing 3 (some .int) ∈ gtw := gtw_in (List.mem_of_getElem? (i := 1409) (by decide +kernel)) (by decide +kernel)
theorem q_1406 : Cond.methodLink RX11 244 yX11_findRing ∈ gtw := gtw_in (List.mem_of_getElem? (i := 1406) (by decide +kernel)) (by decide +kernel)
theorem q_1408 : Cond.instanceMethod yX11_findRing ∈ gtw := gtw_in (List.mem_of_getElem? (i := 1408) (by decide +kernel)) (by decide +kernel)
theorem q_63 : Cond.selects RX11 yX11_findRing yX11_findRing ∈ gtw := gtw_in (List.mem_of_getElem? (i := 63) (by decide +kernel)) (by decide +kernel)
theorem q_1421 : Cond.code yX11_leastDebt cX11_leastDebt 4 (some .int) ∈ gtw := gtw_in (List.mem_of_getElem? (i := 1421) (by decide +kernel)) (by decide +kernel)
theorem q_1418 : Cond.methodLink RX11 247 yX11_leastDebt ∈ gtw := gtw_in (List.mem_of_getElem? (i := 1418) (by decide +kernel)) (by decide +kernel)
theorem q_1420 : Cond.instanceMethod yX11_leastDebt ∈ gtw := gtw_in (List.mem_of_getElem? (i := 1420) (by decide +kernel)) (by decide +kernel)
theorem q_66 : Cond.selects RX11 yX11_leastDebt yX11_leastDebt ∈ gtw := gtw_in (List.mem_of_getElem? (i := 66) (by decide +kernel)) (by decide +kernel)
theorem q_1429 : Cond.code yX11_goSettle cX11_goSettle 5 (some .int) ∈ gtw := gtw_in (List.mem_of_getElem? (i := 1429) (by decide +kernel)) (by decide +kernel)
theorem q_1426 : Cond.methodLink RX11 250 yX11_goSettle ∈ gtw := gtw_in (List.mem_of_getElem? (i := 1426) (by decide +kernel)) (by decide +kernel)
theorem q_1428 : Cond.instanceMethod yX11_goSettle ∈ gtw := gtw_in (List.mem_of_getElem? (i := 1428) (by decide +kernel)) (by decide +kernel)
theorem q_67 : Cond.selects RX11 yX11_goSettle yX11_goSettle ∈ gtw := gtw_in (List.mem_of_getElem? (i := 67) (by decide +kernel)) (by decide +kernel)
theorem q_1441 : Cond.code yX11_widest cX11_widest 6 (some .int) ∈ gtw := gtw_in (List.mem_of_getElem? (i := 1441) (by decide +kernel)) (by decide +kernel)
theorem q_1438 : Cond.methodLink RX11 253 yX11_widest ∈ gtw := gtw_in (List.mem_of_getElem? (i := 1438) (by decide +kernel)) (by decide +kernel)
theorem q_1440 : Cond.instanceMethod yX11_widest ∈ gtw := gtw_in (List.mem_of_getElem? (i := 1440) (by decide +kernel)) (by decide +kernel)
theorem q_68 : Cond.selects RX11 yX11_widest yX11_widest ∈ gtw := gtw_in (List.mem_of_getElem? (i := 68) (by decide +kernel)) (by decide +kernel)
theorem q_1112 : Cond.fieldLink RX11 21 "TrustClubModel" "read" "[I" ∈ gtw := gtw_in (List.mem_of_getElem? (i := 1112) (by decide +kernel)) (by decide +kernel)
theorem q_1457 : Cond.code yX11_goPay cX11_goPay 4 (some .boolean) ∈ gtw := gtw_in (List.mem_of_getElem? (i := 1457) (by decide +kernel)) (by decide +kernel)
theorem q_1454 : Cond.methodLink RX11 256 yX11_goPay ∈ gtw := gtw_in (List.mem_of_getElem? (i := 1454) (by decide +kernel)) (by decide +kernel)
theorem q_1456 : Cond.instanceMethod yX11_goPay ∈ gtw := gtw_in (List.mem_of_getElem? (i := 1456) (by decide +kernel)) (by decide +kernel)
theorem q_71 : Cond.selects RX11 yX11_goPay yX11_goPay ∈ gtw := gtw_in (List.mem_of_getElem? (i := 71) (by decide +kernel)) (by decide +kernel)
theorem q_1449 : Cond.code yX11_readPayments cX11_readPayments 6 (some .int) ∈ gtw := gtw_in (List.mem_of_getElem? (i := 1449) (by decide +kernel)) (by decide +kernel)
theorem q_1446 : Cond.methodLink RX11 259 yX11_readPayments ∈ gtw := gtw_in (List.mem_of_getElem? (i := 1446) (by decide +kernel)) (by decide +kernel)
theorem q_1448 : Cond.instanceMethod yX11_readPayments ∈ gtw := gtw_in (List.mem_of_getElem? (i := 1448) (by decide +kernel)) (by decide +kernel)
theorem q_69 : Cond.selects RX11 yX11_readPayments yX11_readPayments ∈ gtw := gtw_in (List.mem_of_getElem? (i := 69) (by decide +kernel)) (by decide +kernel)
theorem q_1453 : Cond.code yX11_goRead cX11_goRead 2 (some .boolean) ∈ gtw := gtw_in (List.mem_of_getElem? (i := 1453) (by decide +kernel)) (by decide +kernel)
theorem q_1450 : Cond.methodLink RX11 265 yX11_goRead ∈ gtw := gtw_in (List.mem_of_getElem? (i := 1450) (by decide +kernel)) (by decide +kernel)
theorem q_1452 : Cond.instanceMethod yX11_goRead ∈ gtw := gtw_in (List.mem_of_getElem? (i := 1452) (by decide +kernel)) (by decide +kernel)
theorem q_70 : Cond.selects RX11 yX11_goRead yX11_goRead ∈ gtw := gtw_in (List.mem_of_getElem? (i := 70) (by decide +kernel)) (by decide +kernel)
theorem q_1125 : Cond.fieldLink RX11 49 "TrustClubModel" "orderStart" "[I" ∈ gtw := gtw_in (List.mem_of_getElem? (i := 1125) (by decide +kernel)) (by decide +kernel)
theorem q_1126 : Cond.fieldLink RX11 271 "TrustClubModel" "orderMany" "I" ∈ gtw := gtw_in (List.mem_of_getElem? (i := 1126) (by decide +kernel)) (by decide +kernel)
theorem q_1124 : Cond.fieldLink RX11 46 "TrustClubModel" "firstOrder" "[I" ∈ gtw := gtw_in (List.mem_of_getElem? (i := 1124) (by decide +kernel)) (by decide +kernel)
theorem q_1123 : Cond.fieldLink RX11 43 "TrustClubModel" "order" "[I" ∈ gtw := gtw_in (List.mem_of_getElem? (i := 1123) (by decide +kernel)) (by decide +kernel)
theorem q_1465 : Cond.code yX11_tryOrders cX11_tryOrders 6 none ∈ gtw := gtw_in (List.mem_of_getElem? (i := 1465) (by decide +kernel)) (by decide +kernel)
theorem q_1462 : Cond.methodLink RX11 274 yX11_tryOrders ∈ gtw := gtw_in (List.mem_of_getElem? (i := 1462) (by decide +kernel)) (by decide +kernel)
theorem q_1464 : Cond.instanceMethod yX11_tryOrders ∈ gtw := gtw_in (List.mem_of_getElem? (i := 1464) (by decide +kernel)) (by decide +kernel)
theorem q_72 : Cond.selects RX11 yX11_tryOrders yX11_tryOrders ∈ gtw := gtw_in (List.mem_of_getElem? (i := 72) (by decide +kernel)) (by decide +kernel)
theorem q_1127 : Cond.fieldLink RX11 52 "TrustClubModel" "flows" "[I" ∈ gtw := gtw_in (List.mem_of_getElem? (i := 1127) (by decide +kernel)) (by decide +kernel)
theorem q_1477 : Cond.code yX11_freePlace cX11_freePlace 2 (some .int) ∈ gtw := gtw_in (List.mem_of_getElem? (i := 1477) (by decide +kernel)) (by decide +kernel)
theorem q_1474 : Cond.methodLink RX11 277 yX11_freePlace ∈ gtw := gtw_in (List.mem_of_getElem? (i := 1474) (by decide +kernel)) (by decide +kernel)
theorem q_1476 : Cond.instanceMethod yX11_freePlace ∈ gtw := gtw_in (List.mem_of_getElem? (i := 1476) (by decide +kernel)) (by decide +kernel)
theorem q_73 : Cond.selects RX11 yX11_freePlace yX11_freePlace ∈ gtw := gtw_in (List.mem_of_getElem? (i := 73) (by decide +kernel)) (by decide +kernel)
theorem q_1481 : Cond.code yX11_hold cX11_hold 8 none ∈ gtw := gtw_in (List.mem_of_getElem? (i := 1481) (by decide +kernel)) (by decide +kernel)
theorem q_1478 : Cond.methodLink RX11 280 yX11_hold ∈ gtw := gtw_in (List.mem_of_getElem? (i := 1478) (by decide +kernel)) (by decide +kernel)
theorem q_1480 : Cond.instanceMethod yX11_hold ∈ gtw := gtw_in (List.mem_of_getElem? (i := 1480) (by decide +kernel)) (by decide +kernel)
theorem q_74 : Cond.selects RX11 yX11_hold yX11_hold ∈ gtw := gtw_in (List.mem_of_getElem? (i := 74) (by decide +kernel)) (by decide +kernel)
theorem q_1493 : Cond.code yX11_isHeld cX11_isHeld 2 (some .boolean) ∈ gtw := gtw_in (List.mem_of_getElem? (i := 1493) (by decide +kernel)) (by decide +kernel)
theorem q_1490 : Cond.methodLink RX11 284 yX11_isHeld ∈ gtw := gtw_in (List.mem_of_getElem? (i := 1490) (by decide +kernel)) (by decide +kernel)
theorem q_1492 : Cond.instanceMethod yX11_isHeld ∈ gtw := gtw_in (List.mem_of_getElem? (i := 1492) (by decide +kernel)) (by decide +kernel)
theorem q_76 : Cond.selects RX11 yX11_isHeld yX11_isHeld ∈ gtw := gtw_in (List.mem_of_getElem? (i := 76) (by decide +kernel)) (by decide +kernel)
theorem q_1497 : Cond.code yX11_free cX11_free 5 none ∈ gtw := gtw_in (List.mem_of_getElem? (i := 1497) (by decide +kernel)) (by decide +kernel)
theorem q_1494 : Cond.methodLink RX11 287 yX11_free ∈ gtw := gtw_in (List.mem_of_getElem? (i := 1494) (by decide +kernel)) (by decide +kernel)
theorem q_1496 : Cond.instanceMethod yX11_free ∈ gtw := gtw_in (List.mem_of_getElem? (i := 1496) (by decide +kernel)) (by decide +kernel)
theorem q_77 : Cond.selects RX11 yX11_free yX11_free ∈ gtw := gtw_in (List.mem_of_getElem? (i := 77) (by decide +kernel)) (by decide +kernel)
theorem q_1489 : Cond.code yX11_frees cX11_frees 4 (some .int) ∈ gtw := gtw_in (List.mem_of_getElem? (i := 1489) (by decide +kernel)) (by decide +kernel)
theorem q_1486 : Cond.methodLink RX11 291 yX11_frees ∈ gtw := gtw_in (List.mem_of_getElem? (i := 1486) (by decide +kernel)) (by decide +kernel)
theorem q_1488 : Cond.instanceMethod yX11_frees ∈ gtw := gtw_in (List.mem_of_getElem? (i := 1488) (by decide +kernel)) (by decide +kernel)
theorem q_75 : Cond.selects RX11 yX11_frees yX11_frees ∈ gtw := gtw_in (List.mem_of_getElem? (i := 75) (by decide +kernel)) (by decide +kernel)
theorem q_1517 : Cond.code yX11_refusesStock cX11_refusesStock 3 (some .int) ∈ gtw := gtw_in (List.mem_of_getElem? (i := 1517) (by decide +kernel)) (by decide +kernel)
theorem q_1514 : Cond.methodLink RX11 295 yX11_refusesStock ∈ gtw := gtw_in (List.mem_of_getElem? (i := 1514) (by decide +kernel)) (by decide +kernel)
theorem q_1516 : Cond.instanceMethod yX11_refusesStock ∈ gtw := gtw_in (List.mem_of_getElem? (i := 1516) (by decide +kernel)) (by decide +kernel)
theorem q_78 : Cond.selects RX11 yX11_refusesStock yX11_refusesStock ∈ gtw := gtw_in (List.mem_of_getElem? (i := 78) (by decide +kernel)) (by decide +kernel)
theorem q_1533 : Cond.code yX11_lossOf cX11_lossOf 5 (some .int) ∈ gtw := gtw_in (List.mem_of_getElem? (i := 1533) (by decide +kernel)) (by decide +kernel)
theorem q_1530 : Cond.methodLink RX11 298 yX11_lossOf ∈ gtw := gtw_in (List.mem_of_getElem? (i := 1530) (by decide +kernel)) (by decide +kernel)
theorem q_1532 : Cond.instanceMethod yX11_lossOf ∈ gtw := gtw_in (List.mem_of_getElem? (i := 1532) (by decide +kernel)) (by decide +kernel)
theorem q_81 : Cond.selects RX11 yX11_lossOf yX11_lossOf ∈ gtw := gtw_in (List.mem_of_getElem? (i := 81) (by decide +kernel)) (by decide +kernel)
theorem q_1128 : Cond.fieldLink RX11 301 "TrustClubModel" "rounds" "I" ∈ gtw := gtw_in (List.mem_of_getElem? (i := 1128) (by decide +kernel)) (by decide +kernel)
theorem q_1529 : Cond.code yX11_nextFailing cX11_nextFailing 4 (some .int) ∈ gtw := gtw_in (List.mem_of_getElem? (i := 1529) (by decide +kernel)) (by decide +kernel)
theorem q_1526 : Cond.methodLink RX11 304 yX11_nextFailing ∈ gtw := gtw_in (List.mem_of_getElem? (i := 1526) (by decide +kernel)) (by decide +kernel)
theorem q_1528 : Cond.instanceMethod yX11_nextFailing ∈ gtw := gtw_in (List.mem_of_getElem? (i := 1528) (by decide +kernel)) (by decide +kernel)
theorem q_80 : Cond.selects RX11 yX11_nextFailing yX11_nextFailing ∈ gtw := gtw_in (List.mem_of_getElem? (i := 80) (by decide +kernel)) (by decide +kernel)
theorem q_1525 : Cond.code yX11_failing cX11_failing 4 (some .int) ∈ gtw := gtw_in (List.mem_of_getElem? (i := 1525) (by decide +kernel)) (by decide +kernel)
theorem q_1522 : Cond.methodLink RX11 307 yX11_failing ∈ gtw := gtw_in (List.mem_of_getElem? (i := 1522) (by decide +kernel)) (by decide +kernel)
theorem q_1524 : Cond.instanceMethod yX11_failing ∈ gtw := gtw_in (List.mem_of_getElem? (i := 1524) (by decide +kernel)) (by decide +kernel)
theorem q_79 : Cond.selects RX11 yX11_failing yX11_failing ∈ gtw := gtw_in (List.mem_of_getElem? (i := 79) (by decide +kernel)) (by decide +kernel)
theorem q_1537 : Cond.code yX11_lossAll cX11_lossAll 5 (some .int) ∈ gtw := gtw_in (List.mem_of_getElem? (i := 1537) (by decide +kernel)) (by decide +kernel)
theorem q_1534 : Cond.methodLink RX11 310 yX11_lossAll ∈ gtw := gtw_in (List.mem_of_getElem? (i := 1534) (by decide +kernel)) (by decide +kernel)
theorem q_1536 : Cond.instanceMethod yX11_lossAll ∈ gtw := gtw_in (List.mem_of_getElem? (i := 1536) (by decide +kernel)) (by decide +kernel)
theorem q_82 : Cond.selects RX11 yX11_lossAll yX11_lossAll ∈ gtw := gtw_in (List.mem_of_getElem? (i := 82) (by decide +kernel)) (by decide +kernel)
theorem q_1553 : Cond.code yX11_raiseOf cX11_raiseOf 10 (some .int) ∈ gtw := gtw_in (List.mem_of_getElem? (i := 1553) (by decide +kernel)) (by decide +kernel)
theorem q_1550 : Cond.methodLink RX11 313 yX11_raiseOf ∈ gtw := gtw_in (List.mem_of_getElem? (i := 1550) (by decide +kernel)) (by decide +kernel)
theorem q_1552 : Cond.instanceMethod yX11_raiseOf ∈ gtw := gtw_in (List.mem_of_getElem? (i := 1552) (by decide +kernel)) (by decide +kernel)
theorem q_83 : Cond.selects RX11 yX11_raiseOf yX11_raiseOf ∈ gtw := gtw_in (List.mem_of_getElem? (i := 83) (by decide +kernel)) (by decide +kernel)
theorem q_1561 : Cond.code yX11_mostWithout cX11_mostWithout 5 (some .int) ∈ gtw := gtw_in (List.mem_of_getElem? (i := 1561) (by decide +kernel)) (by decide +kernel)
theorem q_1558 : Cond.methodLink RX11 317 yX11_mostWithout ∈ gtw := gtw_in (List.mem_of_getElem? (i := 1558) (by decide +kernel)) (by decide +kernel)
theorem q_1560 : Cond.instanceMethod yX11_mostWithout ∈ gtw := gtw_in (List.mem_of_getElem? (i := 1560) (by decide +kernel)) (by decide +kernel)
theorem q_84 : Cond.selects RX11 yX11_mostWithout yX11_mostWithout ∈ gtw := gtw_in (List.mem_of_getElem? (i := 84) (by decide +kernel)) (by decide +kernel)
theorem q_1581 : Cond.code yX11_refusesLimit cX11_refusesLimit 4 (some .int) ∈ gtw := gtw_in (List.mem_of_getElem? (i := 1581) (by decide +kernel)) (by decide +kernel)
theorem q_1578 : Cond.methodLink RX11 323 yX11_refusesLimit ∈ gtw := gtw_in (List.mem_of_getElem? (i := 1578) (by decide +kernel)) (by decide +kernel)
theorem q_1580 : Cond.instanceMethod yX11_refusesLimit ∈ gtw := gtw_in (List.mem_of_getElem? (i := 1580) (by decide +kernel)) (by decide +kernel)
theorem q_85 : Cond.selects RX11 yX11_refusesLimit yX11_refusesLimit ∈ gtw := gtw_in (List.mem_of_getElem? (i := 85) (by decide +kernel)) (by decide +kernel)
theorem q_1589 : Cond.code yX11_refusesLet cX11_refusesLet 4 (some .int) ∈ gtw := gtw_in (List.mem_of_getElem? (i := 1589) (by decide +kernel)) (by decide +kernel)
theorem q_1586 : Cond.methodLink RX11 326 yX11_refusesLet ∈ gtw := gtw_in (List.mem_of_getElem? (i := 1586) (by decide +kernel)) (by decide +kernel)
theorem q_1588 : Cond.instanceMethod yX11_refusesLet ∈ gtw := gtw_in (List.mem_of_getElem? (i := 1588) (by decide +kernel)) (by decide +kernel)
theorem q_86 : Cond.selects RX11 yX11_refusesLet yX11_refusesLet ∈ gtw := gtw_in (List.mem_of_getElem? (i := 86) (by decide +kernel)) (by decide +kernel)
theorem q_1601 : Cond.code yX11_readAct cX11_readAct 3 none ∈ gtw := gtw_in (List.mem_of_getElem? (i := 1601) (by decide +kernel)) (by decide +kernel)
theorem q_1598 : Cond.methodLink RX11 336 yX11_readAct ∈ gtw := gtw_in (List.mem_of_getElem? (i := 1598) (by decide +kernel)) (by decide +kernel)
theorem q_1600 : Cond.instanceMethod yX11_readAct ∈ gtw := gtw_in (List.mem_of_getElem? (i := 1600) (by decide +kernel)) (by decide +kernel)
theorem q_87 : Cond.selects RX11 yX11_readAct yX11_readAct ∈ gtw := gtw_in (List.mem_of_getElem? (i := 87) (by decide +kernel)) (by decide +kernel)
theorem q_1688 : Cond.code yX11_act cX11_act 5 (some .boolean) ∈ gtw := gtw_in (List.mem_of_getElem? (i := 1688) (by decide +kernel)) (by decide +kernel)
theorem q_1685 : Cond.methodLink RX11 339 yX11_act ∈ gtw := gtw_in (List.mem_of_getElem? (i := 1685) (by decide +kernel)) (by decide +kernel)
theorem q_1687 : Cond.instanceMethod yX11_act ∈ gtw := gtw_in (List.mem_of_getElem? (i := 1687) (by decide +kernel)) (by decide +kernel)
theorem q_88 : Cond.selects RX11 yX11_act yX11_act ∈ gtw := gtw_in (List.mem_of_getElem? (i := 88) (by decide +kernel)) (by decide +kernel)
theorem q_1132 : Cond.fieldLink RX11 342 "TrustClubModel" "drawn" "I" ∈ gtw := gtw_in (List.mem_of_getElem? (i := 1132) (by decide +kernel)) (by decide +kernel)
theorem q_1701 : Cond.constant RX11 345 (Int32.ofInt (1103515245)) ∈ gtw := gtw_in (List.mem_of_getElem? (i := 1701) (by decide +kernel)) (by decide +kernel)
theorem q_1700 : Cond.code yX11_draw cX11_draw 2 (some .int) ∈ gtw := gtw_in (List.mem_of_getElem? (i := 1700) (by decide +kernel)) (by decide +kernel)
theorem q_1697 : Cond.methodLink RX11 346 yX11_draw ∈ gtw := gtw_in (List.mem_of_getElem? (i := 1697) (by decide +kernel)) (by decide +kernel)
theorem q_1699 : Cond.instanceMethod yX11_draw ∈ gtw := gtw_in (List.mem_of_getElem? (i := 1699) (by decide +kernel)) (by decide +kernel)
theorem q_89 : Cond.selects RX11 yX11_draw yX11_draw ∈ gtw := gtw_in (List.mem_of_getElem? (i := 89) (by decide +kernel)) (by decide +kernel)
theorem q_1134 : Cond.fieldLink RX11 64 "TrustClubModel" "isKept" "[Z" ∈ gtw := gtw_in (List.mem_of_getElem? (i := 1134) (by decide +kernel)) (by decide +kernel)
theorem q_1133 : Cond.fieldLink RX11 61 "TrustClubModel" "kept" "[I" ∈ gtw := gtw_in (List.mem_of_getElem? (i := 1133) (by decide +kernel)) (by decide +kernel)
theorem q_1717 : Cond.code yX11_lineMany cX11_lineMany 3 (some .int) ∈ gtw := gtw_in (List.mem_of_getElem? (i := 1717) (by decide +kernel)) (by decide +kernel)
theorem q_1714 : Cond.methodLink RX11 349 yX11_lineMany ∈ gtw := gtw_in (List.mem_of_getElem? (i := 1714) (by decide +kernel)) (by decide +kernel)
theorem q_1716 : Cond.instanceMethod yX11_lineMany ∈ gtw := gtw_in (List.mem_of_getElem? (i := 1716) (by decide +kernel)) (by decide +kernel)
theorem q_90 : Cond.selects RX11 yX11_lineMany yX11_lineMany ∈ gtw := gtw_in (List.mem_of_getElem? (i := 90) (by decide +kernel)) (by decide +kernel)
theorem q_1721 : Cond.code yX11_allLimits cX11_allLimits 3 (some .int) ∈ gtw := gtw_in (List.mem_of_getElem? (i := 1721) (by decide +kernel)) (by decide +kernel)
theorem q_1718 : Cond.methodLink RX11 352 yX11_allLimits ∈ gtw := gtw_in (List.mem_of_getElem? (i := 1718) (by decide +kernel)) (by decide +kernel)
theorem q_1720 : Cond.instanceMethod yX11_allLimits ∈ gtw := gtw_in (List.mem_of_getElem? (i := 1720) (by decide +kernel)) (by decide +kernel)
theorem q_91 : Cond.selects RX11 yX11_allLimits yX11_allLimits ∈ gtw := gtw_in (List.mem_of_getElem? (i := 91) (by decide +kernel)) (by decide +kernel)
theorem q_1725 : Cond.code yX11_allStocks cX11_allStocks 3 (some .int) ∈ gtw := gtw_in (List.mem_of_getElem? (i := 1725) (by decide +kernel)) (by decide +kernel)
theorem q_1722 : Cond.methodLink RX11 355 yX11_allStocks ∈ gtw := gtw_in (List.mem_of_getElem? (i := 1722) (by decide +kernel)) (by decide +kernel)
theorem q_1724 : Cond.instanceMethod yX11_allStocks ∈ gtw := gtw_in (List.mem_of_getElem? (i := 1724) (by decide +kernel)) (by decide +kernel)
theorem q_92 : Cond.selects RX11 yX11_allStocks yX11_allStocks ∈ gtw := gtw_in (List.mem_of_getElem? (i := 92) (by decide +kernel)) (by decide +kernel)
theorem fp_5_15 : FLp RX5 15 5 1 := ⟨RX5, TX5, 2, rfl, giX5, by decide, q_256, rfl, by decide +kernel, ⟨tyX5, tyX5_ok⟩, nmX5⟩
theorem fl_5_15 : FLd RX5 15 5 1 := ⟨RX5, TX5, 2, rfl, giX5, by decide, q_256⟩
theorem fl_5_9 : FLd RX5 9 5 0 := ⟨RX5, TX5, 2, rfl, giX5, by decide, q_254⟩
theorem cw_RX5_19 : CWV RX5 19 RX5 yX5_begin cX5_begin 1 none 0 := ⟨q_529, q_530, q_531, q_100, q_532, ⟨rfl, by decide, by decide, by decide +kernel⟩⟩
theorem cw_RX5_22 : CWV RX5 22 RX5 yX5_add cX5_add 3 none 1 := ⟨q_533, q_534, q_535, q_100, q_536, ⟨rfl, by decide, by decide, by decide +kernel⟩⟩
theorem cw_RX5_26 : CWV RX5 26 RX5 yX5_tellOne cX5_tellOne 3 none 1 := ⟨q_525, q_526, q_527, q_100, q_528, ⟨rfl, by decide, by decide, by decide +kernel⟩⟩
theorem cw_RX5_29 : CWV RX5 29 RX5 yX5_tellTwo cX5_tellTwo 5 none 2 := ⟨q_560, q_522, q_523, q_100, q_524, ⟨rfl, by decide, by decide, by decide +kernel⟩⟩
theorem fl_3_15 : FLd RX3 15 3 0 := ⟨RX3, TX3, 4, rfl, giX3, by decide, q_139⟩
theorem fp_3_15 : FLp RX3 15 3 0 := ⟨RX3, TX3, 4, rfl, giX3, by decide, q_139, rfl, by decide +kernel, ⟨tyX3, tyX3_ok⟩, nmX3⟩
theorem fl_3_19 : FLd RX3 19 3 1 := ⟨RX3, TX3, 4, rfl, giX3, by decide, q_141⟩
theorem fp_3_19 : FLp RX3 19 3 1 := ⟨RX3, TX3, 4, rfl, giX3, by decide, q_141, rfl, by decide +kernel, ⟨tyX3, tyX3_ok⟩, nmX3⟩
theorem fl_3_22 : FLd RX3 22 3 2 := ⟨RX3, TX3, 4, rfl, giX3, by decide, q_143⟩
theorem fp_3_22 : FLp RX3 22 3 2 := ⟨RX3, TX3, 4, rfl, giX3, by decide, q_143, rfl, by decide +kernel, ⟨tyX3, tyX3_ok⟩, nmX3⟩
theorem fl_3_9 : FLd RX3 9 3 3 := ⟨RX3, TX3, 4, rfl, giX3, by decide, q_146⟩
theorem fl_4_15 : FLd RX4 15 4 2 := ⟨RX4, TX4, 11, rfl, giX4, by decide, q_273⟩
theorem cw_RX4_43 : CWN RX4 43 yX10_at cX10_at 2 (some .int) 2 := ⟨(by simp [nwL, RX4]), q_460, q_94, q_461, ⟨by decide, by decide, by decide +kernel⟩⟩
theorem fl_4_9 : FLd RX4 9 4 1 := ⟨RX4, TX4, 11, rfl, giX4, by decide, q_271⟩
theorem cw_RX3_31 : CWN RX3 31 yX10_at cX10_at 2 (some .int) 2 := ⟨(by simp [nwL, RX3]), q_460, q_94, q_461, ⟨by decide, by decide, by decide +kernel⟩⟩
theorem cw_RX3_35 : CWV RX3 35 RX4 yX4_gone cX4_gone 3 (some .int) 2 := ⟨q_753, q_715, q_716, q_101, q_717, ⟨rfl, by decide, by decide, by decide +kernel⟩⟩
theorem fp_1_9 : FLp RX1 9 1 0 := ⟨RX1, TX1, 5, rfl, giX1, by decide, q_158, rfl, by decide +kernel, ⟨tyX1, tyX1_ok⟩, nmX1⟩
theorem fl_1_15 : FLd RX1 15 1 1 := ⟨RX1, TX1, 5, rfl, giX1, by decide, q_163⟩
theorem fl_1_19 : FLd RX1 19 1 2 := ⟨RX1, TX1, 5, rfl, giX1, by decide, q_166⟩
theorem fl_1_22 : FLd RX1 22 1 3 := ⟨RX1, TX1, 5, rfl, giX1, by decide, q_169⟩
theorem fl_1_27 : FLd RX1 27 1 4 := ⟨RX1, TX1, 5, rfl, giX1, by decide, q_172⟩
theorem fp_1_32 : FLp RX1 32 3 2 := ⟨RX3, TX3, 4, rfl, giX3, by decide, q_144, rfl, by decide +kernel, ⟨tyX3, tyX3_ok⟩, nmX3⟩
theorem fl_1_9 : FLd RX1 9 1 0 := ⟨RX1, TX1, 5, rfl, giX1, by decide, q_158⟩
theorem cw_RX1_41 : CWV RX1 41 RX3 yX3_copyFrom cX3_copyFrom 2 none 1 := ⟨q_481, q_482, q_483, q_96, q_484, ⟨rfl, by decide, by decide, by decide +kernel⟩⟩
theorem cw_RX1_45 : CWV RX1 45 RX1 yX1_has cX1_has 2 (some .boolean) 1 := ⟨q_546, q_492, q_493, q_95, q_494, ⟨rfl, by decide, by decide, by decide +kernel⟩⟩
theorem cw_RX1_49 : CWN RX1 49 yX10_at cX10_at 2 (some .int) 2 := ⟨(by simp [nwL, RX1]), q_460, q_94, q_461, ⟨by decide, by decide, by decide +kernel⟩⟩
theorem fl_1_32 : FLd RX1 32 3 2 := ⟨RX3, TX3, 4, rfl, giX3, by decide, q_144⟩
theorem fl_1_58 : FLd RX1 58 3 3 := ⟨RX3, TX3, 4, rfl, giX3, by decide, q_147⟩
theorem cw_RX1_61 : CWV RX1 61 RX1 yX1_heldBetween cX1_heldBetween 6 (some .int) 2 := ⟨q_551, q_552, q_553, q_95, q_554, ⟨rfl, by decide, by decide, by decide +kernel⟩⟩
theorem cw_RX1_64 : CWV RX1 64 RX1 yX1_closeLine cX1_closeLine 3 (some .int) 1 := ⟨q_927, q_929, q_25, q_95, q_930, ⟨rfl, by decide, by decide, by decide +kernel⟩⟩
theorem cw_RX1_68 : CWV RX1 68 RX1 yX1_heldPlaces cX1_heldPlaces 3 (some .int) 0 := ⟨q_499, q_500, q_501, q_95, q_502, ⟨rfl, by decide, by decide, by decide +kernel⟩⟩
theorem cw_RX1_72 : CWV RX1 72 RX1 yX1_isHeldAt cX1_isHeldAt 2 (some .boolean) 1 := ⟨q_771, q_764, q_765, q_95, q_766, ⟨rfl, by decide, by decide, by decide +kernel⟩⟩
theorem cw_RX1_79 : CWV RX1 79 RX1 yX1_dropAt cX1_dropAt 3 (some .int) 1 := ⟨q_773, q_774, q_775, q_95, q_776, ⟨rfl, by decide, by decide, by decide +kernel⟩⟩
theorem cw_RX1_75 : CWV RX1 75 RX1 yX1_payStraight cX1_payStraight 4 none 3 := ⟨q_772, q_699, q_700, q_95, q_701, ⟨rfl, by decide, by decide, by decide +kernel⟩⟩
theorem fl_9_15 : FLd RX9 15 9 1 := ⟨RX9, TX9, 2, rfl, giX9, by decide, q_210⟩
theorem fl_9_9 : FLd RX9 9 9 0 := ⟨RX9, TX9, 2, rfl, giX9, by decide, q_209⟩
theorem fp_9_15 : FLp RX9 15 9 1 := ⟨RX9, TX9, 2, rfl, giX9, by decide, q_210, rfl, by decide +kernel, ⟨tyX9, tyX9_ok⟩, nmX9⟩
theorem cw_RX9_19 : CWV RX9 19 RX9 yX9_signAt cX9_signAt 2 (some .int) 1 := ⟨q_447, q_448, q_449, q_98, q_450, ⟨rfl, by decide, by decide, by decide +kernel⟩⟩
theorem cw_RX9_23 : CWV RX9 23 RX9 yX9_digitAt cX9_digitAt 3 (some .int) 1 := ⟨q_443, q_444, q_445, q_98, q_446, ⟨rfl, by decide, by decide, by decide +kernel⟩⟩
theorem cw_RX9_26 : CWV RX9 26 RX1 yX1_startAnew cX1_startAnew 3 none 1 := ⟨q_451, q_452, q_453, q_95, q_454, ⟨rfl, by decide, by decide, by decide +kernel⟩⟩
theorem cw_RX9_32 : CWV RX9 32 RX9 yX9_letterAt cX9_letterAt 4 (some .int) 2 := ⟨q_455, q_456, q_457, q_98, q_458, ⟨rfl, by decide, by decide, by decide +kernel⟩⟩
theorem cw_RX9_36 : CWN RX9 36 yX10_at cX10_at 2 (some .int) 2 := ⟨(by simp [nwL, RX9]), q_460, q_94, q_461, ⟨by decide, by decide, by decide +kernel⟩⟩
theorem cw_RX9_39 : CWV RX9 39 RX9 yX9_numberAt cX9_numberAt 6 (some .int) 2 := ⟨q_462, q_463, q_464, q_98, q_465, ⟨rfl, by decide, by decide, by decide +kernel⟩⟩
theorem fl_9_42 : FLd RX9 42 1 1 := ⟨RX1, TX1, 5, rfl, giX1, by decide, q_165⟩
theorem fl_0_24 : FLd RX0 24 0 4 := ⟨RX0, TX0, 5, rfl, giX0, by decide, q_235⟩
theorem fl_0_9 : FLd RX0 9 0 0 := ⟨RX0, TX0, 5, rfl, giX0, by decide, q_224⟩
theorem fl_0_15 : FLd RX0 15 0 1 := ⟨RX0, TX0, 5, rfl, giX0, by decide, q_226⟩
theorem fl_0_18 : FLd RX0 18 0 2 := ⟨RX0, TX0, 5, rfl, giX0, by decide, q_229⟩
theorem fl_0_21 : FLd RX0 21 0 3 := ⟨RX0, TX0, 5, rfl, giX0, by decide, q_232⟩
theorem fp_0_24 : FLp RX0 24 0 4 := ⟨RX0, TX0, 5, rfl, giX0, by decide, q_235, rfl, by decide +kernel, ⟨tyX0, tyX0_ok⟩, nmX0⟩
theorem fl_0_28 : FLd RX0 28 9 1 := ⟨RX9, TX9, 2, rfl, giX9, by decide, q_211⟩
theorem cw_RX0_33 : CWV RX0 33 RX9 yX9_letterAt cX9_letterAt 4 (some .int) 2 := ⟨q_798, q_456, q_457, q_98, q_458, ⟨rfl, by decide, by decide, by decide +kernel⟩⟩
theorem cw_RX0_37 : CWV RX0 37 RX9 yX9_numberAt cX9_numberAt 6 (some .int) 2 := ⟨q_799, q_463, q_464, q_98, q_465, ⟨rfl, by decide, by decide, by decide +kernel⟩⟩
theorem cw_RX0_40 : CWV RX0 40 RX0 yX0_add cX0_add 5 none 4 := ⟨q_800, q_802, q_17, q_99, q_803, ⟨rfl, by decide, by decide, by decide +kernel⟩⟩
theorem cw_RX0_44 : CWV RX0 44 RX9 yX9_signAt cX9_signAt 2 (some .int) 1 := ⟨q_939, q_448, q_449, q_98, q_450, ⟨rfl, by decide, by decide, by decide +kernel⟩⟩
theorem cw_RX0_48 : CWS RX0 48 yX0_lettersOf cX0_lettersOf 1 (some .int) 1 := ⟨q_940, q_941, q_99, q_942, ⟨rfl, by decide, by decide, by decide +kernel⟩⟩
theorem cw_RX0_51 : CWS RX0 51 yX0_digitsOf cX0_digitsOf 1 (some .int) 1 := ⟨q_943, q_944, q_99, q_945, ⟨rfl, by decide, by decide, by decide +kernel⟩⟩
theorem fl_6_18 : FLd RX6 18 6 1 := ⟨RX6, TX6, 2, rfl, giX6, by decide, q_195⟩
theorem fl_6_11 : FLd RX6 11 6 0 := ⟨RX6, TX6, 2, rfl, giX6, by decide, q_194⟩
theorem cw_RX6_22 : CWV RX6 22 RX1 yX1_copyFrom cX1_copyFrom 3 none 1 := ⟨q_474, q_475, q_476, q_95, q_477, ⟨rfl, by decide, by decide, by decide +kernel⟩⟩
theorem fp_6_18 : FLp RX6 18 6 1 := ⟨RX6, TX6, 2, rfl, giX6, by decide, q_195, rfl, by decide +kernel, ⟨tyX6, tyX6_ok⟩, nmX6⟩
theorem fl_4_36 : FLd RX4 36 1 0 := ⟨RX1, TX1, 5, rfl, giX1, by decide, q_159⟩
theorem fp_4_42 : FLp RX4 42 4 0 := ⟨RX4, TX4, 11, rfl, giX4, by decide, q_270, rfl, by decide +kernel, ⟨tyX4, tyX4_ok⟩, nmX4⟩
theorem fl_4_42 : FLd RX4 42 4 0 := ⟨RX4, TX4, 11, rfl, giX4, by decide, q_270⟩
theorem cw_RX4_47 : CWV RX4 47 RX1 yX1_room cX1_room 3 (some .int) 2 := ⟨q_585, q_548, q_549, q_95, q_550, ⟨rfl, by decide, by decide, by decide +kernel⟩⟩
theorem cw_RX4_56 : CWV RX4 56 RX4 yX4_gone cX4_gone 3 (some .int) 2 := ⟨q_714, q_715, q_716, q_101, q_717, ⟨rfl, by decide, by decide, by decide +kernel⟩⟩
theorem cw_RX4_59 : CWV RX4 59 RX1 yX1_payStraight cX1_payStraight 4 none 3 := ⟨q_718, q_699, q_700, q_95, q_701, ⟨rfl, by decide, by decide, by decide +kernel⟩⟩
theorem fl_4_27 : FLd RX4 27 4 6 := ⟨RX4, TX4, 11, rfl, giX4, by decide, q_277⟩
theorem fl_4_21 : FLd RX4 21 4 4 := ⟨RX4, TX4, 11, rfl, giX4, by decide, q_275⟩
theorem fl_4_24 : FLd RX4 24 4 5 := ⟨RX4, TX4, 11, rfl, giX4, by decide, q_276⟩
theorem cw_RX4_63 : CWV RX4 63 RX4 yX4_measure cX4_measure 8 none 2 := ⟨q_591, q_593, q_2, q_101, q_594, ⟨rfl, by decide, by decide, by decide +kernel⟩⟩
theorem fp_4_67 : FLp RX4 67 4 7 := ⟨RX4, TX4, 11, rfl, giX4, by decide, q_278, rfl, by decide +kernel, ⟨tyX4, tyX4_ok⟩, nmX4⟩
theorem fl_4_67 : FLd RX4 67 4 7 := ⟨RX4, TX4, 11, rfl, giX4, by decide, q_278⟩
theorem cw_RX4_70 : CWV RX4 70 RX4 yX4_nextTowards cX4_nextTowards 5 (some .int) 3 := ⟨q_595, q_597, q_3, q_101, q_598, ⟨rfl, by decide, by decide, by decide +kernel⟩⟩
theorem cw_RX4_75 : CWV RX4 75 RX4 yX4_wayMember cX4_wayMember 2 (some .int) 1 := ⟨q_639, q_605, q_606, q_101, q_607, ⟨rfl, by decide, by decide, by decide +kernel⟩⟩
theorem fp_4_84 : FLp RX4 84 4 10 := ⟨RX4, TX4, 11, rfl, giX4, by decide, q_284, rfl, by decide +kernel, ⟨tyX4, tyX4_ok⟩, nmX4⟩
theorem fl_4_84 : FLd RX4 84 4 10 := ⟨RX4, TX4, 11, rfl, giX4, by decide, q_284⟩
theorem cw_RX4_87 : CWV RX4 87 RX4 yX4_findWay cX4_findWay 7 (some .boolean) 3 := ⟨q_633, q_588, q_589, q_101, q_590, ⟨rfl, by decide, by decide, by decide +kernel⟩⟩
theorem cw_RX4_91 : CWV RX4 91 RX4 yX4_leastSpace cX4_leastSpace 3 (some .int) 0 := ⟨q_634, q_636, q_5, q_101, q_637, ⟨rfl, by decide, by decide, by decide +kernel⟩⟩
theorem cw_RX4_95 : CWV RX4 95 RX4 yX4_pushAlong cX4_pushAlong 5 none 1 := ⟨q_643, q_644, q_645, q_101, q_646, ⟨rfl, by decide, by decide, by decide +kernel⟩⟩
theorem fl_4_30 : FLd RX4 30 4 8 := ⟨RX4, TX4, 11, rfl, giX4, by decide, q_280⟩
theorem fl_4_33 : FLd RX4 33 4 9 := ⟨RX4, TX4, 11, rfl, giX4, by decide, q_282⟩
theorem fl_4_18 : FLd RX4 18 4 3 := ⟨RX4, TX4, 11, rfl, giX4, by decide, q_274⟩
theorem cw_RX4_99 : CWV RX4 99 RX4 yX4_send cX4_send 6 (some .int) 3 := ⟨q_973, q_630, q_631, q_101, q_632, ⟨rfl, by decide, by decide, by decide +kernel⟩⟩
theorem fl_7_18 : FLd RX7 18 7 2 := ⟨RX7, TX7, 5, rfl, giX7, by decide, q_340⟩
theorem fl_7_9 : FLd RX7 9 7 0 := ⟨RX7, TX7, 5, rfl, giX7, by decide, q_338⟩
theorem fl_7_15 : FLd RX7 15 7 1 := ⟨RX7, TX7, 5, rfl, giX7, by decide, q_339⟩
theorem fl_7_25 : FLd RX7 25 1 0 := ⟨RX1, TX1, 5, rfl, giX1, by decide, q_161⟩
theorem fl_7_53 : FLd RX7 53 1 2 := ⟨RX1, TX1, 5, rfl, giX1, by decide, q_167⟩
theorem cw_RX7_56 : CWN RX7 56 yX10_at cX10_at 2 (some .int) 2 := ⟨(by simp [nwL, RX7]), q_460, q_94, q_461, ⟨by decide, by decide, by decide +kernel⟩⟩
theorem cw_RX7_34 : CWV RX7 34 RX7 yX7_measure cX7_measure 8 none 2 := ⟨q_664, q_666, q_7, q_103, q_667, ⟨rfl, by decide, by decide, by decide +kernel⟩⟩
theorem cw_RX7_49 : CWV RX7 49 RX1 yX1_owed cX1_owed 3 (some .int) 2 := ⟨q_669, q_514, q_515, q_95, q_516, ⟨rfl, by decide, by decide, by decide +kernel⟩⟩
theorem fl_7_21 : FLd RX7 21 7 3 := ⟨RX7, TX7, 5, rfl, giX7, by decide, q_341⟩
theorem cw_RX7_60 : CWV RX7 60 RX7 yX7_memberAt cX7_memberAt 2 (some .int) 1 := ⟨q_679, q_680, q_681, q_103, q_682, ⟨rfl, by decide, by decide, by decide +kernel⟩⟩
theorem cw_RX7_64 : CWV RX7 64 RX7 yX7_nextOnRing cX7_nextOnRing 2 (some .int) 1 := ⟨q_683, q_685, q_10, q_103, q_686, ⟨rfl, by decide, by decide, by decide +kernel⟩⟩
theorem fp_7_21 : FLp RX7 21 7 3 := ⟨RX7, TX7, 5, rfl, giX7, by decide, q_341, rfl, by decide +kernel, ⟨tyX7, tyX7_ok⟩, nmX7⟩
theorem cw_RX7_30 : CWV RX7 30 RX7 yX7_lengthFrom cX7_lengthFrom 6 (some .int) 2 := ⟨q_660, q_662, q_6, q_103, q_663, ⟨rfl, by decide, by decide, by decide +kernel⟩⟩
theorem cw_RX7_38 : CWV RX7 38 RX7 yX7_nextTowards cX7_nextTowards 6 (some .int) 4 := ⟨q_670, q_672, q_8, q_103, q_673, ⟨rfl, by decide, by decide, by decide +kernel⟩⟩
theorem cw_RX7_42 : CWV RX7 42 RX7 yX7_leastOwed cX7_leastOwed 4 (some .int) 1 := ⟨q_674, q_676, q_9, q_103, q_677, ⟨rfl, by decide, by decide, by decide +kernel⟩⟩
theorem fp_7_46 : FLp RX7 46 7 4 := ⟨RX7, TX7, 5, rfl, giX7, by decide, q_343, rfl, by decide +kernel, ⟨tyX7, tyX7_ok⟩, nmX7⟩
theorem cw_RX7_72 : CWV RX7 72 RX7 yX7_find cX7_find 5 (some .boolean) 1 := ⟨q_697, q_657, q_658, q_103, q_659, ⟨rfl, by decide, by decide, by decide +kernel⟩⟩
theorem fl_7_46 : FLd RX7 46 7 4 := ⟨RX7, TX7, 5, rfl, giX7, by decide, q_343⟩
theorem cw_RX7_76 : CWV RX7 76 RX1 yX1_payStraight cX1_payStraight 4 none 3 := ⟨q_698, q_699, q_700, q_95, q_701, ⟨rfl, by decide, by decide, by decide +kernel⟩⟩
theorem fl_2_28 : FLd RX2 28 1 0 := ⟨RX1, TX1, 5, rfl, giX1, by decide, q_160⟩
theorem cw_RX2_41 : CWV RX2 41 RX1 yX1_owed cX1_owed 3 (some .int) 2 := ⟨q_852, q_514, q_515, q_95, q_516, ⟨rfl, by decide, by decide, by decide +kernel⟩⟩
theorem cw_RX2_33 : CWS RX2 33 yX2_lossOf cX2_lossOf 5 (some .int) 3 := ⟨q_849, q_850, q_104, q_851, ⟨rfl, by decide, by decide, by decide +kernel⟩⟩
theorem fl_2_37 : FLd RX2 37 1 3 := ⟨RX1, TX1, 5, rfl, giX1, by decide, q_170⟩
theorem fp_2_9 : FLp RX2 9 2 0 := ⟨RX2, TX2, 4, rfl, giX2, by decide, q_362, rfl, by decide +kernel, ⟨tyX2, tyX2_ok⟩, nmX2⟩
theorem fp_2_15 : FLp RX2 15 2 1 := ⟨RX2, TX2, 4, rfl, giX2, by decide, q_364, rfl, by decide +kernel, ⟨tyX2, tyX2_ok⟩, nmX2⟩
theorem fl_2_9 : FLd RX2 9 2 0 := ⟨RX2, TX2, 4, rfl, giX2, by decide, q_362⟩
theorem cw_RX2_18 : CWS RX2 18 yX2_nextToFail cX2_nextToFail 4 (some .int) 2 := ⟨q_846, q_847, q_104, q_848, ⟨rfl, by decide, by decide, by decide +kernel⟩⟩
theorem fl_2_15 : FLd RX2 15 2 1 := ⟨RX2, TX2, 4, rfl, giX2, by decide, q_364⟩
theorem fp_2_22 : FLp RX2 22 2 2 := ⟨RX2, TX2, 4, rfl, giX2, by decide, q_366, rfl, by decide +kernel, ⟨tyX2, tyX2_ok⟩, nmX2⟩
theorem fp_2_25 : FLp RX2 25 2 3 := ⟨RX2, TX2, 4, rfl, giX2, by decide, q_368, rfl, by decide +kernel, ⟨tyX2, tyX2_ok⟩, nmX2⟩
theorem fl_2_22 : FLd RX2 22 2 2 := ⟨RX2, TX2, 4, rfl, giX2, by decide, q_366⟩
theorem fl_2_25 : FLd RX2 25 2 3 := ⟨RX2, TX2, 4, rfl, giX2, by decide, q_368⟩
theorem fl_8_31 : FLd RX8 31 0 4 := ⟨RX0, TX0, 5, rfl, giX0, by decide, q_236⟩
theorem fl_8_42 : FLd RX8 42 4 1 := ⟨RX4, TX4, 11, rfl, giX4, by decide, q_272⟩
theorem fl_8_11 : FLd RX8 11 8 0 := ⟨RX8, TX8, 4, rfl, giX8, by decide, q_317⟩
theorem fl_8_23 : FLd RX8 23 8 3 := ⟨RX8, TX8, 4, rfl, giX8, by decide, q_321⟩
theorem fl_8_16 : FLd RX8 16 8 1 := ⟨RX8, TX8, 4, rfl, giX8, by decide, q_318⟩
theorem fl_8_20 : FLd RX8 20 8 2 := ⟨RX8, TX8, 4, rfl, giX8, by decide, q_319⟩
theorem fl_8_47 : FLd RX8 47 0 3 := ⟨RX0, TX0, 5, rfl, giX0, by decide, q_233⟩
theorem fl_8_50 : FLd RX8 50 0 1 := ⟨RX0, TX0, 5, rfl, giX0, by decide, q_227⟩
theorem fl_8_53 : FLd RX8 53 0 2 := ⟨RX0, TX0, 5, rfl, giX0, by decide, q_230⟩
theorem cw_RX8_56 : CWV RX8 56 RX4 yX4_send cX4_send 6 (some .int) 3 := ⟨q_817, q_630, q_631, q_101, q_632, ⟨rfl, by decide, by decide, by decide +kernel⟩⟩
theorem cw_RX8_27 : CWV RX8 27 RX8 yX8_goOn cX8_goOn 7 none 4 := ⟨q_812, q_814, q_18, q_102, q_815, ⟨rfl, by decide, by decide, by decide +kernel⟩⟩
theorem fp_8_23 : FLp RX8 23 8 3 := ⟨RX8, TX8, 4, rfl, giX8, by decide, q_321, rfl, by decide +kernel, ⟨tyX8, tyX8_ok⟩, nmX8⟩
theorem fl_10_40 : FLd RX10 40 10 6 := ⟨RX10, TX10, 13, rfl, giX10, by decide, q_385⟩
theorem cw_RX10_86 : CWV RX10 86 RX9 yX9_append cX9_append 3 (some .boolean) 1 := ⟨q_423, q_424, q_425, q_98, q_426, ⟨rfl, by decide, by decide, by decide +kernel⟩⟩
theorem fl_10_90 : FLd RX10 90 9 1 := ⟨RX9, TX9, 2, rfl, giX9, by decide, q_212⟩
theorem cw_RX10_94 : CWV RX10 94 RX9 yX9_cutTo cX9_cutTo 2 (some .boolean) 1 := ⟨q_431, q_432, q_433, q_98, q_434, ⟨rfl, by decide, by decide, by decide +kernel⟩⟩
theorem fl_10_19 : FLd RX10 19 10 2 := ⟨RX10, TX10, 13, rfl, giX10, by decide, q_381⟩
theorem cw_RX10_97 : CWV RX10 97 RX9 yX9_readClub cX9_readClub 10 (some .int) 1 := ⟨q_439, q_440, q_441, q_98, q_442, ⟨rfl, by decide, by decide, by decide +kernel⟩⟩
theorem cw_RX10_101 : CWV RX10 101 RX9 yX9_empty cX9_empty 1 none 0 := ⟨q_466, q_467, q_468, q_98, q_469, ⟨rfl, by decide, by decide, by decide +kernel⟩⟩
theorem fl_10_33 : FLd RX10 33 10 5 := ⟨RX10, TX10, 13, rfl, giX10, by decide, q_384⟩
theorem fl_10_12 : FLd RX10 12 10 0 := ⟨RX10, TX10, 13, rfl, giX10, by decide, q_379⟩
theorem cw_RX10_104 : CWV RX10 104 RX6 yX6_add cX6_add 4 none 1 := ⟨q_470, q_471, q_472, q_97, q_473, ⟨rfl, by decide, by decide, by decide +kernel⟩⟩
theorem cw_RX10_108 : CWV RX10 108 RX1 yX1_copyFrom cX1_copyFrom 3 none 1 := ⟨q_486, q_475, q_476, q_95, q_477, ⟨rfl, by decide, by decide, by decide +kernel⟩⟩
theorem cw_RX10_130 : CWS RX10 130 yX10_memberOfEntry cX10_memberOfEntry 2 (some .int) 2 := ⟨q_510, q_511, q_94, q_512, ⟨rfl, by decide, by decide, by decide +kernel⟩⟩
theorem cw_RX10_111 : CWV RX10 111 RX1 yX1_has cX1_has 2 (some .boolean) 1 := ⟨q_491, q_492, q_493, q_95, q_494, ⟨rfl, by decide, by decide, by decide +kernel⟩⟩
theorem cw_RX10_140 : CWV RX10 140 RX1 yX1_owed cX1_owed 3 (some .int) 2 := ⟨q_513, q_514, q_515, q_95, q_516, ⟨rfl, by decide, by decide, by decide +kernel⟩⟩
theorem cw_RX10_114 : CWV RX10 114 RX1 yX1_holdsAny cX1_holdsAny 1 (some .boolean) 0 := ⟨q_495, q_496, q_497, q_95, q_498, ⟨rfl, by decide, by decide, by decide +kernel⟩⟩
theorem cw_RX10_118 : CWS RX10 118 yX10_entryOf cX10_entryOf 2 (some .int) 2 := ⟨q_503, q_504, q_94, q_505, ⟨rfl, by decide, by decide, by decide +kernel⟩⟩
theorem cw_RX10_122 : CWV RX10 122 RX10 yX10_entryFault cX10_entryFault 5 (some .int) 3 := ⟨q_506, q_508, q_0, q_94, q_509, ⟨rfl, by decide, by decide, by decide +kernel⟩⟩
theorem fl_10_54 : FLd RX10 54 10 8 := ⟨RX10, TX10, 13, rfl, giX10, by decide, q_387⟩
theorem cw_RX10_126 : CWV RX10 126 RX5 yX5_tellTwo cX5_tellTwo 5 none 2 := ⟨q_521, q_522, q_523, q_100, q_524, ⟨rfl, by decide, by decide, by decide +kernel⟩⟩
theorem cw_RX10_133 : CWS RX10 133 yX10_at cX10_at 2 (some .int) 2 := ⟨q_537, q_460, q_94, q_461, ⟨rfl, by decide, by decide, by decide +kernel⟩⟩
theorem fl_10_136 : FLd RX10 136 1 1 := ⟨RX1, TX1, 5, rfl, giX1, by decide, q_164⟩
theorem cw_RX10_143 : CWV RX10 143 RX1 yX1_hasBoth cX1_hasBoth 3 (some .boolean) 2 := ⟨q_542, q_543, q_544, q_95, q_545, ⟨rfl, by decide, by decide, by decide +kernel⟩⟩
theorem cw_RX10_147 : CWV RX10 147 RX1 yX1_room cX1_room 3 (some .int) 2 := ⟨q_547, q_548, q_549, q_95, q_550, ⟨rfl, by decide, by decide, by decide +kernel⟩⟩
theorem cw_RX10_150 : CWV RX10 150 RX1 yX1_heldBetween cX1_heldBetween 6 (some .int) 2 := ⟨q_555, q_552, q_553, q_95, q_554, ⟨rfl, by decide, by decide, by decide +kernel⟩⟩
theorem cw_RX10_153 : CWV RX10 153 RX5 yX5_tellThree cX5_tellThree 7 none 3 := ⟨q_556, q_557, q_558, q_100, q_559, ⟨rfl, by decide, by decide, by decide +kernel⟩⟩
theorem fl_10_164 : FLd RX10 164 1 0 := ⟨RX1, TX1, 5, rfl, giX1, by decide, q_162⟩
theorem cw_RX10_170 : CWV RX10 170 RX1 yX1_owedInAll cX1_owedInAll 3 (some .int) 0 := ⟨q_565, q_566, q_567, q_95, q_568, ⟨rfl, by decide, by decide, by decide +kernel⟩⟩
theorem cw_RX10_190 : CWS RX10 190 yX10_isSum cX10_isSum 1 (some .boolean) 1 := ⟨q_577, q_578, q_94, q_579, ⟨rfl, by decide, by decide, by decide +kernel⟩⟩
theorem cw_RX10_220 : CWV RX10 220 RX5 yX5_begin cX5_begin 1 none 0 := ⟨q_603, q_530, q_531, q_100, q_532, ⟨rfl, by decide, by decide, by decide +kernel⟩⟩
theorem fl_10_61 : FLd RX10 61 10 9 := ⟨RX10, TX10, 13, rfl, giX10, by decide, q_388⟩
theorem fl_10_187 : FLd RX10 187 4 7 := ⟨RX4, TX4, 11, rfl, giX4, by decide, q_279⟩
theorem cw_RX10_441 : CWV RX10 441 RX4 yX4_wayMember cX4_wayMember 2 (some .int) 1 := ⟨q_604, q_605, q_606, q_101, q_607, ⟨rfl, by decide, by decide, by decide +kernel⟩⟩
theorem cw_RX10_229 : CWV RX10 229 RX5 yX5_add cX5_add 3 none 1 := ⟨q_608, q_534, q_535, q_100, q_536, ⟨rfl, by decide, by decide, by decide +kernel⟩⟩
theorem cw_RX10_174 : CWV RX10 174 RX10 yX10_isPayment cX10_isPayment 4 (some .boolean) 3 := ⟨q_573, q_575, q_1, q_94, q_576, ⟨rfl, by decide, by decide, by decide +kernel⟩⟩
theorem cw_RX10_178 : CWV RX10 178 RX4 yX4_load cX4_load 5 none 1 := ⟨q_580, q_581, q_582, q_101, q_583, ⟨rfl, by decide, by decide, by decide +kernel⟩⟩
theorem cw_RX10_181 : CWV RX10 181 RX4 yX4_findWay cX4_findWay 7 (some .boolean) 3 := ⟨q_587, q_588, q_589, q_101, q_590, ⟨rfl, by decide, by decide, by decide +kernel⟩⟩
theorem cw_RX10_184 : CWV RX10 184 RX10 yX10_tellWay cX10_tellWay 2 none 0 := ⟨q_599, q_601, q_4, q_94, q_602, ⟨rfl, by decide, by decide, by decide +kernel⟩⟩
theorem cw_RX10_193 : CWV RX10 193 RX4 yX4_reached cX4_reached 8 (some .int) 2 := ⟨q_613, q_614, q_615, q_101, q_616, ⟨rfl, by decide, by decide, by decide +kernel⟩⟩
theorem cw_RX10_196 : CWJ RX10 196 yJ6_bitCount_0f7a4 cJ6_bitCount_0f7a4 1 (some .int) 1 := ⟨q_617, q_618, q_112, q_619, ⟨by decide, by decide, by decide +kernel⟩⟩
theorem cw_RX10_202 : CWV RX10 202 RX5 yX5_tellOne cX5_tellOne 3 none 1 := ⟨q_623, q_526, q_527, q_100, q_528, ⟨rfl, by decide, by decide, by decide +kernel⟩⟩
theorem cw_RX10_207 : CWV RX10 207 RX4 yX4_send cX4_send 6 (some .int) 3 := ⟨q_629, q_630, q_631, q_101, q_632, ⟨rfl, by decide, by decide, by decide +kernel⟩⟩
theorem fl_10_210 : FLd RX10 210 4 10 := ⟨RX4, TX4, 11, rfl, giX4, by decide, q_285⟩
theorem cw_RX10_213 : CWV RX10 213 RX4 yX4_longestPart cX4_longestPart 3 (some .int) 0 := ⟨q_647, q_648, q_649, q_101, q_650, ⟨rfl, by decide, by decide, by decide +kernel⟩⟩
theorem fl_10_75 : FLd RX10 75 10 11 := ⟨RX10, TX10, 13, rfl, giX10, by decide, q_390⟩
theorem cw_RX10_216 : CWV RX10 216 RX7 yX7_find cX7_find 5 (some .boolean) 1 := ⟨q_656, q_657, q_658, q_103, q_659, ⟨rfl, by decide, by decide, by decide +kernel⟩⟩
theorem fl_10_223 : FLd RX10 223 7 3 := ⟨RX7, TX7, 5, rfl, giX7, by decide, q_342⟩
theorem fl_10_231 : FLd RX10 231 7 4 := ⟨RX7, TX7, 5, rfl, giX7, by decide, q_344⟩
theorem cw_RX10_226 : CWV RX10 226 RX7 yX7_memberAt cX7_memberAt 2 (some .int) 1 := ⟨q_688, q_680, q_681, q_103, q_682, ⟨rfl, by decide, by decide, by decide +kernel⟩⟩
theorem cw_RX10_234 : CWV RX10 234 RX7 yX7_settleAll cX7_settleAll 4 (some .int) 1 := ⟨q_693, q_694, q_695, q_103, q_696, ⟨rfl, by decide, by decide, by decide +kernel⟩⟩
theorem cw_RX10_297 : CWV RX10 297 RX4 yX4_bookIn cX4_bookIn 4 none 1 := ⟨q_710, q_711, q_712, q_101, q_713, ⟨rfl, by decide, by decide, by decide +kernel⟩⟩
theorem fl_10_419 : FLd RX10 419 4 8 := ⟨RX4, TX4, 11, rfl, giX4, by decide, q_281⟩
theorem fl_10_422 : FLd RX10 422 4 9 := ⟨RX4, TX4, 11, rfl, giX4, by decide, q_283⟩
theorem fl_10_16 : FLd RX10 16 10 1 := ⟨RX10, TX10, 13, rfl, giX10, by decide, q_380⟩
theorem cw_RX10_237 : CWV RX10 237 RX10 yX10_paySplit cX10_paySplit 6 (some .int) 3 := ⟨q_706, q_708, q_11, q_94, q_709, ⟨rfl, by decide, by decide, by decide +kernel⟩⟩
theorem cw_RX10_240 : CWV RX10 240 RX10 yX10_remembered cX10_remembered 2 (some .int) 1 := ⟨q_719, q_721, q_12, q_94, q_722, ⟨rfl, by decide, by decide, by decide +kernel⟩⟩
theorem cw_RX10_428 : CWV RX10 428 RX4 yX4_pushAlong cX4_pushAlong 5 none 1 := ⟨q_735, q_644, q_645, q_101, q_646, ⟨rfl, by decide, by decide, by decide +kernel⟩⟩
theorem cw_RX10_425 : CWV RX10 425 RX4 yX4_widest cX4_widest 7 (some .int) 2 := ⟨q_731, q_732, q_733, q_101, q_734, ⟨rfl, by decide, by decide, by decide +kernel⟩⟩
theorem cw_RX10_243 : CWV RX10 243 RX10 yX10_payWhole cX10_payWhole 4 (some .int) 3 := ⟨q_727, q_729, q_13, q_94, q_730, ⟨rfl, by decide, by decide, by decide +kernel⟩⟩
theorem cw_RX10_431 : CWV RX10 431 RX1 yX1_freePlace cX1_freePlace 2 (some .int) 0 := ⟨q_744, q_745, q_746, q_95, q_747, ⟨rfl, by decide, by decide, by decide +kernel⟩⟩
theorem fl_10_260 : FLd RX10 260 1 4 := ⟨RX1, TX1, 5, rfl, giX1, by decide, q_173⟩
theorem cw_RX10_434 : CWV RX10 434 RX3 yX3_take cX3_take 7 none 4 := ⟨q_748, q_749, q_750, q_96, q_751, ⟨rfl, by decide, by decide, by decide +kernel⟩⟩
theorem cw_RX10_246 : CWV RX10 246 RX10 yX10_holdPayment cX10_holdPayment 6 (some .int) 3 := ⟨q_740, q_742, q_14, q_94, q_743, ⟨rfl, by decide, by decide, by decide +kernel⟩⟩
theorem cw_RX10_255 : CWV RX10 255 RX1 yX1_isHeldAt cX1_isHeldAt 2 (some .boolean) 1 := ⟨q_763, q_764, q_765, q_95, q_766, ⟨rfl, by decide, by decide, by decide +kernel⟩⟩
theorem cw_RX10_278 : CWV RX10 278 RX1 yX1_makeAt cX1_makeAt 5 (some .int) 1 := ⟨q_767, q_768, q_769, q_95, q_770, ⟨rfl, by decide, by decide, by decide +kernel⟩⟩
theorem cw_RX10_249 : CWV RX10 249 RX10 yX10_makeHeld cX10_makeHeld 2 (some .int) 1 := ⟨q_759, q_761, q_15, q_94, q_762, ⟨rfl, by decide, by decide, by decide +kernel⟩⟩
theorem cw_RX10_281 : CWV RX10 281 RX1 yX1_dropAt cX1_dropAt 3 (some .int) 1 := ⟨q_785, q_774, q_775, q_95, q_776, ⟨rfl, by decide, by decide, by decide +kernel⟩⟩
theorem cw_RX10_252 : CWV RX10 252 RX10 yX10_dropHeld cX10_dropHeld 2 (some .int) 1 := ⟨q_781, q_783, q_16, q_94, q_784, ⟨rfl, by decide, by decide, by decide +kernel⟩⟩
theorem fl_10_47 : FLd RX10 47 10 7 := ⟨RX10, TX10, 13, rfl, giX10, by decide, q_386⟩
theorem cw_RX10_284 : CWV RX10 284 RX0 yX0_readPayments cX0_readPayments 8 (some .int) 3 := ⟨q_794, q_795, q_796, q_99, q_797, ⟨rfl, by decide, by decide, by decide +kernel⟩⟩
theorem fl_10_288 : FLd RX10 288 0 1 := ⟨RX0, TX0, 5, rfl, giX0, by decide, q_228⟩
theorem fl_10_291 : FLd RX10 291 0 2 := ⟨RX0, TX0, 5, rfl, giX0, by decide, q_231⟩
theorem fl_10_294 : FLd RX10 294 0 3 := ⟨RX0, TX0, 5, rfl, giX0, by decide, q_234⟩
theorem fl_10_68 : FLd RX10 68 10 10 := ⟨RX10, TX10, 13, rfl, giX10, by decide, q_389⟩
theorem cw_RX10_300 : CWV RX10 300 RX8 yX8_search cX8_search 3 none 2 := ⟨q_808, q_809, q_810, q_102, q_811, ⟨rfl, by decide, by decide, by decide +kernel⟩⟩
theorem fl_10_304 : FLd RX10 304 8 3 := ⟨RX8, TX8, 4, rfl, giX8, by decide, q_322⟩
theorem fl_10_307 : FLd RX10 307 8 2 := ⟨RX8, TX8, 4, rfl, giX8, by decide, q_320⟩
theorem cw_RX10_310 : CWV RX10 310 RX10 yX10_settleRings cX10_settleRings 3 (some .int) 0 := ⟨q_822, q_824, q_19, q_94, q_825, ⟨rfl, by decide, by decide, by decide +kernel⟩⟩
theorem cw_RX10_317 : CWV RX10 317 RX4 yX4_widen cX4_widen 4 none 3 := ⟨q_834, q_835, q_836, q_101, q_837, ⟨rfl, by decide, by decide, by decide +kernel⟩⟩
theorem cw_RX10_313 : CWV RX10 313 RX10 yX10_goesIfWider cX10_goesIfWider 7 (some .boolean) 6 := ⟨q_830, q_832, q_20, q_94, q_833, ⟨rfl, by decide, by decide, by decide +kernel⟩⟩
theorem fl_10_82 : FLd RX10 82 10 12 := ⟨RX10, TX10, 13, rfl, giX10, by decide, q_391⟩
theorem cw_RX10_321 : CWV RX10 321 RX2 yX2_run cX2_run 6 none 2 := ⟨q_842, q_843, q_844, q_104, q_845, ⟨rfl, by decide, by decide, by decide +kernel⟩⟩
theorem fl_10_325 : FLd RX10 325 2 0 := ⟨RX2, TX2, 4, rfl, giX2, by decide, q_363⟩
theorem fl_10_328 : FLd RX10 328 2 2 := ⟨RX2, TX2, 4, rfl, giX2, by decide, q_367⟩
theorem fl_10_331 : FLd RX10 331 2 3 := ⟨RX2, TX2, 4, rfl, giX2, by decide, q_369⟩
theorem fl_10_334 : FLd RX10 334 2 1 := ⟨RX2, TX2, 4, rfl, giX2, by decide, q_365⟩
theorem cw_RX10_337 : CWJ RX10 337 yX2_nextToFail cX2_nextToFail 4 (some .int) 2 := ⟨q_861, q_847, q_104, q_848, ⟨by decide, by decide, by decide +kernel⟩⟩
theorem cw_RX10_341 : CWJ RX10 341 yJ6_numberOfTrailingZeros_0f7a4 cJ6_numberOfTrailingZeros_0f7a4 2 (some .int) 1 := ⟨q_862, q_863, q_112, q_864, ⟨by decide, by decide, by decide +kernel⟩⟩
theorem cw_RX10_344 : CWJ RX10 344 yX2_lossOf cX2_lossOf 5 (some .int) 3 := ⟨q_866, q_850, q_104, q_851, ⟨by decide, by decide, by decide +kernel⟩⟩
theorem fl_10_348 : FLd RX10 348 1 3 := ⟨RX1, TX1, 5, rfl, giX1, by decide, q_171⟩
theorem cw_RX10_354 : CWV RX10 354 RX4 yX4_bar cX4_bar 3 none 1 := ⟨q_875, q_876, q_877, q_101, q_878, ⟨rfl, by decide, by decide, by decide +kernel⟩⟩
theorem cw_RX10_351 : CWV RX10 351 RX10 yX10_mostWithout cX10_mostWithout 4 (some .int) 3 := ⟨q_871, q_873, q_21, q_94, q_874, ⟨rfl, by decide, by decide, by decide +kernel⟩⟩
theorem cw_RX10_358 : CWS RX10 358 yX10_isLimit cX10_isLimit 1 (some .boolean) 1 := ⟨q_887, q_888, q_94, q_889, ⟨rfl, by decide, by decide, by decide +kernel⟩⟩
theorem cw_RX10_361 : CWV RX10 361 RX10 yX10_setLimit cX10_setLimit 5 (some .int) 3 := ⟨q_898, q_900, q_22, q_94, q_901, ⟨rfl, by decide, by decide, by decide +kernel⟩⟩
theorem cw_RX10_364 : CWV RX10 364 RX10 yX10_setStock cX10_setStock 4 (some .int) 2 := ⟨q_906, q_908, q_23, q_94, q_909, ⟨rfl, by decide, by decide, by decide +kernel⟩⟩
theorem cw_RX10_438 : CWV RX10 438 RX1 yX1_payStraight cX1_payStraight 4 none 3 := ⟨q_918, q_699, q_700, q_95, q_701, ⟨rfl, by decide, by decide, by decide +kernel⟩⟩
theorem cw_RX10_367 : CWV RX10 367 RX10 yX10_letOff cX10_letOff 4 (some .int) 3 := ⟨q_914, q_916, q_24, q_94, q_917, ⟨rfl, by decide, by decide, by decide +kernel⟩⟩
theorem cw_RX10_370 : CWV RX10 370 RX1 yX1_closeLines cX1_closeLines 4 (some .int) 1 := ⟨q_923, q_924, q_925, q_95, q_926, ⟨rfl, by decide, by decide, by decide +kernel⟩⟩
theorem fl_10_167 : FLd RX10 167 1 2 := ⟨RX1, TX1, 5, rfl, giX1, by decide, q_168⟩
theorem fl_10_416 : FLd RX10 416 0 0 := ⟨RX0, TX0, 5, rfl, giX0, by decide, q_225⟩
theorem cw_RX10_373 : CWV RX10 373 RX0 yX0_readDay cX0_readDay 9 (some .int) 1 := ⟨q_935, q_936, q_937, q_99, q_938, ⟨rfl, by decide, by decide, by decide +kernel⟩⟩
theorem cw_RX10_377 : CWV RX10 377 RX10 yX10_perform cX10_perform 5 (some .int) 1 := ⟨q_946, q_948, q_26, q_94, q_949, ⟨rfl, by decide, by decide, by decide +kernel⟩⟩
theorem fl_10_380 : FLd RX10 380 6 1 := ⟨RX6, TX6, 2, rfl, giX6, by decide, q_196⟩
theorem cw_RX10_381 : CWV RX10 381 RX6 yX6_takeInto cX6_takeInto 2 none 1 := ⟨q_954, q_955, q_956, q_97, q_957, ⟨rfl, by decide, by decide, by decide +kernel⟩⟩
theorem cw_RX10_384 : CWS RX10 384 yX10_nextDraw cX10_nextDraw 1 (some .int) 1 := ⟨q_962, q_963, q_94, q_964, ⟨rfl, by decide, by decide, by decide +kernel⟩⟩
theorem cw_RX10_387 : CWS RX10 387 yX10_drawOf cX10_drawOf 2 (some .int) 2 := ⟨q_966, q_967, q_94, q_968, ⟨rfl, by decide, by decide, by decide +kernel⟩⟩
theorem cw_RX10_390 : CWV RX10 390 RX4 yX4_payAll cX4_payAll 4 (some .boolean) 3 := ⟨q_969, q_970, q_971, q_101, q_972, ⟨rfl, by decide, by decide, by decide +kernel⟩⟩
theorem fl_10_22 : FLd RX10 22 10 3 := ⟨RX10, TX10, 13, rfl, giX10, by decide, q_382⟩
theorem fl_10_26 : FLd RX10 26 10 4 := ⟨RX10, TX10, 13, rfl, giX10, by decide, q_383⟩
theorem cw_RX10_394 : CWV RX10 394 RX6 yX6_forget cX6_forget 1 none 0 := ⟨q_982, q_983, q_984, q_97, q_985, ⟨rfl, by decide, by decide, by decide +kernel⟩⟩
theorem cw_RX10_397 : CWV RX10 397 RX1 yX1_openLines cX1_openLines 3 (some .int) 0 := ⟨q_990, q_991, q_992, q_95, q_993, ⟨rfl, by decide, by decide, by decide +kernel⟩⟩
theorem cw_RX10_400 : CWV RX10 400 RX1 yX1_limitsInAll cX1_limitsInAll 3 (some .int) 0 := ⟨q_994, q_995, q_996, q_95, q_997, ⟨rfl, by decide, by decide, by decide +kernel⟩⟩
theorem fl_10_403 : FLd RX10 403 5 1 := ⟨RX5, TX5, 2, rfl, giX5, by decide, q_257⟩
theorem cw_RX10_404 : CWV RX10 404 RX1 yX1_heldPlaces cX1_heldPlaces 3 (some .int) 0 := ⟨q_998, q_500, q_501, q_95, q_502, ⟨rfl, by decide, by decide, by decide +kernel⟩⟩
theorem cw_RX10_407 : CWV RX10 407 RX1 yX1_stockInAll cX1_stockInAll 3 (some .int) 0 := ⟨q_999, q_1000, q_1001, q_95, q_1002, ⟨rfl, by decide, by decide, by decide +kernel⟩⟩
theorem fl_11_68 : FLd RX11 68 11 5 := ⟨RX11, TX11, 32, rfl, giX11, by decide, q_1108⟩
theorem fp_11_68 : FLp RX11 68 11 5 := ⟨RX11, TX11, 32, rfl, giX11, by decide, q_1108, rfl, by decide +kernel, ⟨tyX11, tyX11_ok⟩, nmX11⟩
theorem fl_11_17 : FLd RX11 17 11 3 := ⟨RX11, TX11, 32, rfl, giX11, by decide, q_1106⟩
theorem fl_11_71 : FLd RX11 71 11 4 := ⟨RX11, TX11, 32, rfl, giX11, by decide, q_1107⟩
theorem fp_11_71 : FLp RX11 71 11 4 := ⟨RX11, TX11, 32, rfl, giX11, by decide, q_1107, rfl, by decide +kernel, ⟨tyX11, tyX11_ok⟩, nmX11⟩
theorem fl_11_9 : FLd RX11 9 11 0 := ⟨RX11, TX11, 32, rfl, giX11, by decide, q_1103⟩
theorem cw_RX11_74 : CWS RX11 74 yX11_in cX11_in 3 (some .boolean) 3 := ⟨q_1212, q_1213, q_105, q_1214, ⟨rfl, by decide, by decide, by decide +kernel⟩⟩
theorem cw_RX11_78 : CWV RX11 78 RX11 yX11_isMember cX11_isMember 2 (some .boolean) 1 := ⟨q_1267, q_1269, q_38, q_105, q_1270, ⟨rfl, by decide, by decide, by decide +kernel⟩⟩
theorem cw_RX11_82 : CWS RX11 82 yX11_pair cX11_pair 2 (some .int) 2 := ⟨q_1239, q_1240, q_105, q_1241, ⟨rfl, by decide, by decide, by decide +kernel⟩⟩
theorem cw_RX11_91 : CWS RX11 91 yX11_holdAt cX11_holdAt 1 (some .int) 1 := ⟨q_1275, q_1276, q_105, q_1277, ⟨rfl, by decide, by decide, by decide +kernel⟩⟩
theorem cw_RX11_95 : CWV RX11 95 RX11 yX11_limit cX11_limit 3 (some .int) 2 := ⟨q_1305, q_1307, q_45, q_105, q_1308, ⟨rfl, by decide, by decide, by decide +kernel⟩⟩
theorem cw_RX11_98 : CWV RX11 98 RX11 yX11_heldOf cX11_heldOf 5 (some .int) 2 := ⟨q_1309, q_1311, q_46, q_105, q_1312, ⟨rfl, by decide, by decide, by decide +kernel⟩⟩
theorem fl_11_101 : FLd RX11 101 11 2 := ⟨RX11, TX11, 32, rfl, giX11, by decide, q_1105⟩
theorem fl_11_13 : FLd RX11 13 11 1 := ⟨RX11, TX11, 32, rfl, giX11, by decide, q_1104⟩
theorem fp_11_101 : FLp RX11 101 11 2 := ⟨RX11, TX11, 32, rfl, giX11, by decide, q_1105, rfl, by decide +kernel, ⟨tyX11, tyX11_ok⟩, nmX11⟩
theorem fp_11_104 : FLp RX11 104 11 6 := ⟨RX11, TX11, 32, rfl, giX11, by decide, q_1109, rfl, by decide +kernel, ⟨tyX11, tyX11_ok⟩, nmX11⟩
theorem fp_11_107 : FLp RX11 107 11 7 := ⟨RX11, TX11, 32, rfl, giX11, by decide, q_1110, rfl, by decide +kernel, ⟨tyX11, tyX11_ok⟩, nmX11⟩
theorem fp_11_110 : FLp RX11 110 11 8 := ⟨RX11, TX11, 32, rfl, giX11, by decide, q_1111, rfl, by decide +kernel, ⟨tyX11, tyX11_ok⟩, nmX11⟩
theorem fl_11_107 : FLd RX11 107 11 7 := ⟨RX11, TX11, 32, rfl, giX11, by decide, q_1110⟩
theorem fl_11_104 : FLd RX11 104 11 6 := ⟨RX11, TX11, 32, rfl, giX11, by decide, q_1109⟩
theorem fl_11_110 : FLd RX11 110 11 8 := ⟨RX11, TX11, 32, rfl, giX11, by decide, q_1111⟩
theorem cw_RX11_113 : CWV RX11 113 RX11 yX11_fine cX11_fine 1 (some .boolean) 0 := ⟨q_1227, q_1229, q_30, q_105, q_1230, ⟨rfl, by decide, by decide, by decide +kernel⟩⟩
theorem cw_RX11_117 : CWV RX11 117 RX11 yX11_here cX11_here 1 (some .int) 0 := ⟨q_1231, q_1233, q_31, q_105, q_1234, ⟨rfl, by decide, by decide, by decide +kernel⟩⟩
theorem cw_RX11_121 : CWV RX11 121 RX11 yX11_fault cX11_fault 2 none 1 := ⟨q_1235, q_1237, q_32, q_105, q_1238, ⟨rfl, by decide, by decide, by decide +kernel⟩⟩
theorem cw_RX11_125 : CWV RX11 125 RX11 yX11_oneOf cX11_oneOf 3 (some .int) 2 := ⟨q_1223, q_1225, q_29, q_105, q_1226, ⟨rfl, by decide, by decide, by decide +kernel⟩⟩
theorem fl_11_58 : FLd RX11 58 11 27 := ⟨RX11, TX11, 32, rfl, giX11, by decide, q_1130⟩
theorem fl_11_320 : FLd RX11 320 11 28 := ⟨RX11, TX11, 32, rfl, giX11, by decide, q_1131⟩
theorem fp_11_320 : FLp RX11 320 11 28 := ⟨RX11, TX11, 32, rfl, giX11, by decide, q_1131, rfl, by decide +kernel, ⟨tyX11, tyX11_ok⟩, nmX11⟩
theorem fl_11_55 : FLd RX11 55 11 26 := ⟨RX11, TX11, 32, rfl, giX11, by decide, q_1129⟩
theorem cw_RX11_262 : CWV RX11 262 RX11 yX11_lay cX11_lay 2 none 0 := ⟨q_1254, q_1256, q_36, q_105, q_1257, ⟨rfl, by decide, by decide, by decide +kernel⟩⟩
theorem cw_RX11_268 : CWV RX11 268 RX11 yX11_note cX11_note 2 none 0 := ⟨q_1258, q_1260, q_37, q_105, q_1261, ⟨rfl, by decide, by decide, by decide +kernel⟩⟩
theorem cw_RX11_129 : CWV RX11 129 RX11 yX11_begin cX11_begin 1 none 0 := ⟨q_1219, q_1221, q_28, q_105, q_1222, ⟨rfl, by decide, by decide, by decide +kernel⟩⟩
theorem fl_11_24 : FLd RX11 24 11 10 := ⟨RX11, TX11, 32, rfl, giX11, by decide, q_1113⟩
theorem cw_RX11_135 : CWV RX11 135 RX11 yX11_wasRight cX11_wasRight 1 (some .boolean) 0 := ⟨q_1246, q_1248, q_34, q_105, q_1249, ⟨rfl, by decide, by decide, by decide +kernel⟩⟩
theorem cw_RX11_138 : CWV RX11 138 RX11 yX11_change cX11_change 1 none 0 := ⟨q_1250, q_1252, q_35, q_105, q_1253, ⟨rfl, by decide, by decide, by decide +kernel⟩⟩
theorem cw_RX11_132 : CWV RX11 132 RX11 yX11_digits cX11_digits 4 (some .int) 1 := ⟨q_1242, q_1244, q_33, q_105, q_1245, ⟨rfl, by decide, by decide, by decide +kernel⟩⟩
theorem cw_RX11_141 : CWV RX11 141 RX11 yX11_owes cX11_owes 3 (some .int) 2 := ⟨q_1285, q_1287, q_41, q_105, q_1288, ⟨rfl, by decide, by decide, by decide +kernel⟩⟩
theorem cw_RX11_144 : CWV RX11 144 RX11 yX11_heldBits cX11_heldBits 3 (some .int) 0 := ⟨q_1271, q_1273, q_39, q_105, q_1274, ⟨rfl, by decide, by decide, by decide +kernel⟩⟩
theorem cw_RX11_147 : CWS RX11 147 yX11_entryOf cX11_entryOf 5 (some .int) 4 := ⟨q_1278, q_1279, q_105, q_1280, ⟨rfl, by decide, by decide, by decide +kernel⟩⟩
theorem cw_RX11_151 : CWV RX11 151 RX11 yX11_whyNot cX11_whyNot 4 (some .int) 3 := ⟨q_1281, q_1283, q_40, q_105, q_1284, ⟨rfl, by decide, by decide, by decide +kernel⟩⟩
theorem cw_RX11_155 : CWV RX11 155 RX11 yX11_tell cX11_tell 3 none 1 := ⟨q_1289, q_1291, q_42, q_105, q_1292, ⟨rfl, by decide, by decide, by decide +kernel⟩⟩
theorem cw_RX11_159 : CWV RX11 159 RX11 yX11_areTwo cX11_areTwo 3 (some .boolean) 2 := ⟨q_1297, q_1299, q_43, q_105, q_1300, ⟨rfl, by decide, by decide, by decide +kernel⟩⟩
theorem cw_RX11_163 : CWV RX11 163 RX11 yX11_room cX11_room 3 (some .int) 2 := ⟨q_1301, q_1303, q_44, q_105, q_1304, ⟨rfl, by decide, by decide, by decide +kernel⟩⟩
theorem cw_RX11_166 : CWV RX11 166 RX11 yX11_lost cX11_lost 1 (some .int) 0 := ⟨q_1317, q_1319, q_47, q_105, q_1320, ⟨rfl, by decide, by decide, by decide +kernel⟩⟩
theorem cw_RX11_169 : CWV RX11 169 RX11 yX11_owesAll cX11_owesAll 4 (some .int) 1 := ⟨q_1325, q_1327, q_48, q_105, q_1328, ⟨rfl, by decide, by decide, by decide +kernel⟩⟩
theorem cw_RX11_172 : CWV RX11 172 RX11 yX11_allDebts cX11_allDebts 3 (some .int) 0 := ⟨q_1329, q_1331, q_49, q_105, q_1332, ⟨rfl, by decide, by decide, by decide +kernel⟩⟩
theorem fl_11_33 : FLd RX11 33 11 14 := ⟨RX11, TX11, 32, rfl, giX11, by decide, q_1117⟩
theorem fl_11_27 : FLd RX11 27 11 11 := ⟨RX11, TX11, 32, rfl, giX11, by decide, q_1114⟩
theorem cw_RX11_175 : CWV RX11 175 RX11 yX11_canGo cX11_canGo 4 (some .boolean) 3 := ⟨q_1349, q_1351, q_53, q_105, q_1352, ⟨rfl, by decide, by decide, by decide +kernel⟩⟩
theorem cw_RX11_178 : CWV RX11 178 RX11 yX11_layFar cX11_layFar 6 none 2 := ⟨q_1345, q_1347, q_52, q_105, q_1348, ⟨rfl, by decide, by decide, by decide +kernel⟩⟩
theorem fp_11_182 : FLp RX11 182 11 13 := ⟨RX11, TX11, 32, rfl, giX11, by decide, q_1116, rfl, by decide +kernel, ⟨tyX11, tyX11_ok⟩, nmX11⟩
theorem fl_11_30 : FLd RX11 30 11 12 := ⟨RX11, TX11, 32, rfl, giX11, by decide, q_1115⟩
theorem fl_11_182 : FLd RX11 182 11 13 := ⟨RX11, TX11, 32, rfl, giX11, by decide, q_1116⟩
theorem cw_RX11_188 : CWV RX11 188 RX11 yX11_straight cX11_straight 4 none 3 := ⟨q_1394, q_1396, q_61, q_105, q_1397, ⟨rfl, by decide, by decide, by decide +kernel⟩⟩
theorem cw_RX11_192 : CWV RX11 192 RX11 yX11_isPayment cX11_isPayment 4 (some .boolean) 3 := ⟨q_1337, q_1339, q_50, q_105, q_1340, ⟨rfl, by decide, by decide, by decide +kernel⟩⟩
theorem cw_RX11_195 : CWV RX11 195 RX11 yX11_findWay cX11_findWay 6 (some .boolean) 3 := ⟨q_1341, q_1343, q_51, q_105, q_1344, ⟨rfl, by decide, by decide, by decide +kernel⟩⟩
theorem cw_RX11_198 : CWV RX11 198 RX11 yX11_tellWay cX11_tellWay 2 none 0 := ⟨q_1353, q_1355, q_54, q_105, q_1356, ⟨rfl, by decide, by decide, by decide +kernel⟩⟩
theorem cw_RX11_201 : CWV RX11 201 RX11 yX11_reached cX11_reached 7 (some .int) 2 := ⟨q_1361, q_1363, q_55, q_105, q_1364, ⟨rfl, by decide, by decide, by decide +kernel⟩⟩
theorem cw_RX11_204 : CWS RX11 204 yX11_countBits cX11_countBits 3 (some .int) 1 := ⟨q_1365, q_1366, q_105, q_1367, ⟨rfl, by decide, by decide, by decide +kernel⟩⟩
theorem fl_11_37 : FLd RX11 37 11 15 := ⟨RX11, TX11, 32, rfl, giX11, by decide, q_1118⟩
theorem fp_11_207 : FLp RX11 207 11 16 := ⟨RX11, TX11, 32, rfl, giX11, by decide, q_1119, rfl, by decide +kernel, ⟨tyX11, tyX11_ok⟩, nmX11⟩
theorem fp_11_210 : FLp RX11 210 11 17 := ⟨RX11, TX11, 32, rfl, giX11, by decide, q_1120, rfl, by decide +kernel, ⟨tyX11, tyX11_ok⟩, nmX11⟩
theorem cw_RX11_213 : CWV RX11 213 RX11 yX11_leastRoom cX11_leastRoom 3 (some .int) 0 := ⟨q_1385, q_1387, q_59, q_105, q_1388, ⟨rfl, by decide, by decide, by decide +kernel⟩⟩
theorem fl_11_210 : FLd RX11 210 11 17 := ⟨RX11, TX11, 32, rfl, giX11, by decide, q_1120⟩
theorem cw_RX11_216 : CWV RX11 216 RX11 yX11_goOnWay cX11_goOnWay 3 none 1 := ⟨q_1390, q_1392, q_60, q_105, q_1393, ⟨rfl, by decide, by decide, by decide +kernel⟩⟩
theorem fl_11_207 : FLd RX11 207 11 16 := ⟨RX11, TX11, 32, rfl, giX11, by decide, q_1119⟩
theorem cw_RX11_219 : CWV RX11 219 RX11 yX11_layAside cX11_layAside 3 none 1 := ⟨q_1376, q_1378, q_57, q_105, q_1379, ⟨rfl, by decide, by decide, by decide +kernel⟩⟩
theorem cw_RX11_225 : CWV RX11 225 RX11 yX11_goParts cX11_goParts 7 (some .int) 4 := ⟨q_1381, q_1383, q_58, q_105, q_1384, ⟨rfl, by decide, by decide, by decide +kernel⟩⟩
theorem fp_11_229 : FLp RX11 229 11 18 := ⟨RX11, TX11, 32, rfl, giX11, by decide, q_1121, rfl, by decide +kernel, ⟨tyX11, tyX11_ok⟩, nmX11⟩
theorem cw_RX11_232 : CWV RX11 232 RX11 yX11_comesBack cX11_comesBack 3 none 1 := ⟨q_1398, q_1400, q_62, q_105, q_1401, ⟨rfl, by decide, by decide, by decide +kernel⟩⟩
theorem cw_RX11_235 : CWV RX11 235 RX11 yX11_mostOf cX11_mostOf 4 (some .int) 2 := ⟨q_1372, q_1374, q_56, q_105, q_1375, ⟨rfl, by decide, by decide, by decide +kernel⟩⟩
theorem fl_11_229 : FLd RX11 229 11 18 := ⟨RX11, TX11, 32, rfl, giX11, by decide, q_1121⟩
theorem fl_11_40 : FLd RX11 40 11 19 := ⟨RX11, TX11, 32, rfl, giX11, by decide, q_1122⟩
theorem cw_RX11_238 : CWV RX11 238 RX11 yX11_isOnRing cX11_isOnRing 4 (some .boolean) 2 := ⟨q_1414, q_1416, q_65, q_105, q_1417, ⟨rfl, by decide, by decide, by decide +kernel⟩⟩
theorem cw_RX11_241 : CWV RX11 241 RX11 yX11_isRing cX11_isRing 4 (some .boolean) 2 := ⟨q_1410, q_1412, q_64, q_105, q_1413, ⟨rfl, by decide, by decide, by decide +kernel⟩⟩
theorem cw_RX11_244 : CWV RX11 244 RX11 yX11_findRing cX11_findRing 3 (some .int) 0 := ⟨q_1406, q_1408, q_63, q_105, q_1409, ⟨rfl, by decide, by decide, by decide +kernel⟩⟩
theorem cw_RX11_247 : CWV RX11 247 RX11 yX11_leastDebt cX11_leastDebt 4 (some .int) 1 := ⟨q_1418, q_1420, q_66, q_105, q_1421, ⟨rfl, by decide, by decide, by decide +kernel⟩⟩
theorem cw_RX11_250 : CWV RX11 250 RX11 yX11_goSettle cX11_goSettle 5 (some .int) 0 := ⟨q_1426, q_1428, q_67, q_105, q_1429, ⟨rfl, by decide, by decide, by decide +kernel⟩⟩
theorem cw_RX11_253 : CWV RX11 253 RX11 yX11_widest cX11_widest 6 (some .int) 2 := ⟨q_1438, q_1440, q_68, q_105, q_1441, ⟨rfl, by decide, by decide, by decide +kernel⟩⟩
theorem fl_11_21 : FLd RX11 21 11 9 := ⟨RX11, TX11, 32, rfl, giX11, by decide, q_1112⟩
theorem cw_RX11_256 : CWV RX11 256 RX11 yX11_goPay cX11_goPay 4 (some .boolean) 3 := ⟨q_1454, q_1456, q_71, q_105, q_1457, ⟨rfl, by decide, by decide, by decide +kernel⟩⟩
theorem cw_RX11_259 : CWV RX11 259 RX11 yX11_readPayments cX11_readPayments 6 (some .int) 1 := ⟨q_1446, q_1448, q_69, q_105, q_1449, ⟨rfl, by decide, by decide, by decide +kernel⟩⟩
theorem cw_RX11_265 : CWV RX11 265 RX11 yX11_goRead cX11_goRead 2 (some .boolean) 1 := ⟨q_1450, q_1452, q_70, q_105, q_1453, ⟨rfl, by decide, by decide, by decide +kernel⟩⟩
theorem fl_11_49 : FLd RX11 49 11 22 := ⟨RX11, TX11, 32, rfl, giX11, by decide, q_1125⟩
theorem fl_11_271 : FLd RX11 271 11 23 := ⟨RX11, TX11, 32, rfl, giX11, by decide, q_1126⟩
theorem fl_11_46 : FLd RX11 46 11 21 := ⟨RX11, TX11, 32, rfl, giX11, by decide, q_1124⟩
theorem fl_11_43 : FLd RX11 43 11 20 := ⟨RX11, TX11, 32, rfl, giX11, by decide, q_1123⟩
theorem cw_RX11_274 : CWV RX11 274 RX11 yX11_tryOrders cX11_tryOrders 6 none 3 := ⟨q_1462, q_1464, q_72, q_105, q_1465, ⟨rfl, by decide, by decide, by decide +kernel⟩⟩
theorem fp_11_271 : FLp RX11 271 11 23 := ⟨RX11, TX11, 32, rfl, giX11, by decide, q_1126, rfl, by decide +kernel, ⟨tyX11, tyX11_ok⟩, nmX11⟩
theorem fl_11_52 : FLd RX11 52 11 24 := ⟨RX11, TX11, 32, rfl, giX11, by decide, q_1127⟩
theorem cw_RX11_277 : CWV RX11 277 RX11 yX11_freePlace cX11_freePlace 2 (some .int) 0 := ⟨q_1474, q_1476, q_73, q_105, q_1477, ⟨rfl, by decide, by decide, by decide +kernel⟩⟩
theorem cw_RX11_280 : CWV RX11 280 RX11 yX11_hold cX11_hold 8 none 4 := ⟨q_1478, q_1480, q_74, q_105, q_1481, ⟨rfl, by decide, by decide, by decide +kernel⟩⟩
theorem cw_RX11_284 : CWV RX11 284 RX11 yX11_isHeld cX11_isHeld 2 (some .boolean) 1 := ⟨q_1490, q_1492, q_76, q_105, q_1493, ⟨rfl, by decide, by decide, by decide +kernel⟩⟩
theorem cw_RX11_287 : CWV RX11 287 RX11 yX11_free cX11_free 5 none 2 := ⟨q_1494, q_1496, q_77, q_105, q_1497, ⟨rfl, by decide, by decide, by decide +kernel⟩⟩
theorem cw_RX11_291 : CWV RX11 291 RX11 yX11_frees cX11_frees 4 (some .int) 2 := ⟨q_1486, q_1488, q_75, q_105, q_1489, ⟨rfl, by decide, by decide, by decide +kernel⟩⟩
theorem cw_RX11_295 : CWV RX11 295 RX11 yX11_refusesStock cX11_refusesStock 3 (some .int) 2 := ⟨q_1514, q_1516, q_78, q_105, q_1517, ⟨rfl, by decide, by decide, by decide +kernel⟩⟩
theorem cw_RX11_298 : CWV RX11 298 RX11 yX11_lossOf cX11_lossOf 5 (some .int) 2 := ⟨q_1530, q_1532, q_81, q_105, q_1533, ⟨rfl, by decide, by decide, by decide +kernel⟩⟩
theorem fp_11_301 : FLp RX11 301 11 25 := ⟨RX11, TX11, 32, rfl, giX11, by decide, q_1128, rfl, by decide +kernel, ⟨tyX11, tyX11_ok⟩, nmX11⟩
theorem cw_RX11_304 : CWV RX11 304 RX11 yX11_nextFailing cX11_nextFailing 4 (some .int) 1 := ⟨q_1526, q_1528, q_80, q_105, q_1529, ⟨rfl, by decide, by decide, by decide +kernel⟩⟩
theorem fl_11_301 : FLd RX11 301 11 25 := ⟨RX11, TX11, 32, rfl, giX11, by decide, q_1128⟩
theorem cw_RX11_307 : CWV RX11 307 RX11 yX11_failing cX11_failing 4 (some .int) 1 := ⟨q_1522, q_1524, q_79, q_105, q_1525, ⟨rfl, by decide, by decide, by decide +kernel⟩⟩
theorem cw_RX11_310 : CWV RX11 310 RX11 yX11_lossAll cX11_lossAll 5 (some .int) 2 := ⟨q_1534, q_1536, q_82, q_105, q_1537, ⟨rfl, by decide, by decide, by decide +kernel⟩⟩
theorem cw_RX11_313 : CWV RX11 313 RX11 yX11_raiseOf cX11_raiseOf 10 (some .int) 5 := ⟨q_1550, q_1552, q_83, q_105, q_1553, ⟨rfl, by decide, by decide, by decide +kernel⟩⟩
theorem fp_11_33 : FLp RX11 33 11 14 := ⟨RX11, TX11, 32, rfl, giX11, by decide, q_1117, rfl, by decide +kernel, ⟨tyX11, tyX11_ok⟩, nmX11⟩
theorem cw_RX11_317 : CWV RX11 317 RX11 yX11_mostWithout cX11_mostWithout 5 (some .int) 3 := ⟨q_1558, q_1560, q_84, q_105, q_1561, ⟨rfl, by decide, by decide, by decide +kernel⟩⟩
theorem cw_RX11_323 : CWV RX11 323 RX11 yX11_refusesLimit cX11_refusesLimit 4 (some .int) 3 := ⟨q_1578, q_1580, q_85, q_105, q_1581, ⟨rfl, by decide, by decide, by decide +kernel⟩⟩
theorem cw_RX11_326 : CWV RX11 326 RX11 yX11_refusesLet cX11_refusesLet 4 (some .int) 3 := ⟨q_1586, q_1588, q_86, q_105, q_1589, ⟨rfl, by decide, by decide, by decide +kernel⟩⟩
theorem cw_RX11_336 : CWV RX11 336 RX11 yX11_readAct cX11_readAct 3 none 1 := ⟨q_1598, q_1600, q_87, q_105, q_1601, ⟨rfl, by decide, by decide, by decide +kernel⟩⟩
theorem cw_RX11_339 : CWV RX11 339 RX11 yX11_act cX11_act 5 (some .boolean) 1 := ⟨q_1685, q_1687, q_88, q_105, q_1688, ⟨rfl, by decide, by decide, by decide +kernel⟩⟩
theorem fl_11_342 : FLd RX11 342 11 29 := ⟨RX11, TX11, 32, rfl, giX11, by decide, q_1132⟩
theorem fp_11_342 : FLp RX11 342 11 29 := ⟨RX11, TX11, 32, rfl, giX11, by decide, q_1132, rfl, by decide +kernel, ⟨tyX11, tyX11_ok⟩, nmX11⟩
theorem cw_RX11_346 : CWV RX11 346 RX11 yX11_draw cX11_draw 2 (some .int) 1 := ⟨q_1697, q_1699, q_89, q_105, q_1700, ⟨rfl, by decide, by decide, by decide +kernel⟩⟩
theorem fl_11_64 : FLd RX11 64 11 31 := ⟨RX11, TX11, 32, rfl, giX11, by decide, q_1134⟩
theorem fl_11_61 : FLd RX11 61 11 30 := ⟨RX11, TX11, 32, rfl, giX11, by decide, q_1133⟩
theorem cw_RX11_349 : CWV RX11 349 RX11 yX11_lineMany cX11_lineMany 3 (some .int) 0 := ⟨q_1714, q_1716, q_90, q_105, q_1717, ⟨rfl, by decide, by decide, by decide +kernel⟩⟩
theorem cw_RX11_352 : CWV RX11 352 RX11 yX11_allLimits cX11_allLimits 3 (some .int) 0 := ⟨q_1718, q_1720, q_91, q_105, q_1721, ⟨rfl, by decide, by decide, by decide +kernel⟩⟩
theorem cw_RX11_355 : CWV RX11 355 RX11 yX11_allStocks cX11_allStocks 3 (some .int) 0 := ⟨q_1722, q_1724, q_92, q_105, q_1725, ⟨rfl, by decide, by decide, by decide +kernel⟩⟩
