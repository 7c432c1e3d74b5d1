theorem q_422 : Cond.code yX10_sign cX10_sign 2 (some .int) ∈ gtw := gtw_in (List.mem_of_getElem? (i := 422) (by decide +kernel)) (by decide +kernel)
theorem q_419 : Cond.methodLink RL 27 yX10_sign ∈ gtw := gtw_in (List.mem_of_getElem? (i := 419) (by decide +kernel)) (by decide +kernel)
theorem q_420 : Cond.instanceMethod yX10_sign ∈ gtw := gtw_in (List.mem_of_getElem? (i := 420) (by decide +kernel)) (by decide +kernel)
theorem q_421 : Cond.selects RX10 yX10_sign yX10_sign ∈ gtw := gtw_in (List.mem_of_getElem? (i := 421) (by decide +kernel)) (by decide +kernel)
theorem q_1207 : Cond.code yX11_sign cX11_sign 3 (some .int) ∈ gtw := gtw_in (List.mem_of_getElem? (i := 1207) (by decide +kernel)) (by decide +kernel)
theorem q_1204 : Cond.methodLink RL 30 yX11_sign ∈ gtw := gtw_in (List.mem_of_getElem? (i := 1204) (by decide +kernel)) (by decide +kernel)
theorem q_1205 : Cond.instanceMethod yX11_sign ∈ gtw := gtw_in (List.mem_of_getElem? (i := 1205) (by decide +kernel)) (by decide +kernel)
theorem q_1206 : Cond.selects RX11 yX11_sign yX11_sign ∈ gtw := gtw_in (List.mem_of_getElem? (i := 1206) (by decide +kernel)) (by decide +kernel)
theorem q_430 : Cond.code yX10_end cX10_end 2 (some .boolean) ∈ gtw := gtw_in (List.mem_of_getElem? (i := 430) (by decide +kernel)) (by decide +kernel)
theorem q_427 : Cond.methodLink RL 31 yX10_end ∈ gtw := gtw_in (List.mem_of_getElem? (i := 427) (by decide +kernel)) (by decide +kernel)
theorem q_428 : Cond.instanceMethod yX10_end ∈ gtw := gtw_in (List.mem_of_getElem? (i := 428) (by decide +kernel)) (by decide +kernel)
theorem q_429 : Cond.selects RX10 yX10_end yX10_end ∈ gtw := gtw_in (List.mem_of_getElem? (i := 429) (by decide +kernel)) (by decide +kernel)
theorem q_1211 : Cond.code yX11_end cX11_end 2 (some .boolean) ∈ gtw := gtw_in (List.mem_of_getElem? (i := 1211) (by decide +kernel)) (by decide +kernel)
theorem q_1208 : Cond.methodLink RL 35 yX11_end ∈ gtw := gtw_in (List.mem_of_getElem? (i := 1208) (by decide +kernel)) (by decide +kernel)
theorem q_1209 : Cond.instanceMethod yX11_end ∈ gtw := gtw_in (List.mem_of_getElem? (i := 1209) (by decide +kernel)) (by decide +kernel)
theorem q_1210 : Cond.selects RX11 yX11_end yX11_end ∈ gtw := gtw_in (List.mem_of_getElem? (i := 1210) (by decide +kernel)) (by decide +kernel)
theorem q_438 : Cond.code yX10_club cX10_club 2 (some .int) ∈ gtw := gtw_in (List.mem_of_getElem? (i := 438) (by decide +kernel)) (by decide +kernel)
theorem q_435 : Cond.methodLink RL 36 yX10_club ∈ gtw := gtw_in (List.mem_of_getElem? (i := 435) (by decide +kernel)) (by decide +kernel)
theorem q_436 : Cond.instanceMethod yX10_club ∈ gtw := gtw_in (List.mem_of_getElem? (i := 436) (by decide +kernel)) (by decide +kernel)
theorem q_437 : Cond.selects RX10 yX10_club yX10_club ∈ gtw := gtw_in (List.mem_of_getElem? (i := 437) (by decide +kernel)) (by decide +kernel)
theorem q_1218 : Cond.code yX11_club cX11_club 6 (some .int) ∈ gtw := gtw_in (List.mem_of_getElem? (i := 1218) (by decide +kernel)) (by decide +kernel)
theorem q_1215 : Cond.methodLink RL 40 yX11_club ∈ gtw := gtw_in (List.mem_of_getElem? (i := 1215) (by decide +kernel)) (by decide +kernel)
theorem q_1216 : Cond.instanceMethod yX11_club ∈ gtw := gtw_in (List.mem_of_getElem? (i := 1216) (by decide +kernel)) (by decide +kernel)
theorem q_1217 : Cond.selects RX11 yX11_club yX11_club ∈ gtw := gtw_in (List.mem_of_getElem? (i := 1217) (by decide +kernel)) (by decide +kernel)
theorem q_490 : Cond.code yX10_sheet cX10_sheet 10 (some .int) ∈ gtw := gtw_in (List.mem_of_getElem? (i := 490) (by decide +kernel)) (by decide +kernel)
theorem q_487 : Cond.methodLink RL 41 yX10_sheet ∈ gtw := gtw_in (List.mem_of_getElem? (i := 487) (by decide +kernel)) (by decide +kernel)
theorem q_488 : Cond.instanceMethod yX10_sheet ∈ gtw := gtw_in (List.mem_of_getElem? (i := 488) (by decide +kernel)) (by decide +kernel)
theorem q_489 : Cond.selects RX10 yX10_sheet yX10_sheet ∈ gtw := gtw_in (List.mem_of_getElem? (i := 489) (by decide +kernel)) (by decide +kernel)
theorem q_1266 : Cond.code yX11_sheet cX11_sheet 10 (some .int) ∈ gtw := gtw_in (List.mem_of_getElem? (i := 1266) (by decide +kernel)) (by decide +kernel)
theorem q_1263 : Cond.methodLink RL 45 yX11_sheet ∈ gtw := gtw_in (List.mem_of_getElem? (i := 1263) (by decide +kernel)) (by decide +kernel)
theorem q_1264 : Cond.instanceMethod yX11_sheet ∈ gtw := gtw_in (List.mem_of_getElem? (i := 1264) (by decide +kernel)) (by decide +kernel)
theorem q_1265 : Cond.selects RX11 yX11_sheet yX11_sheet ∈ gtw := gtw_in (List.mem_of_getElem? (i := 1265) (by decide +kernel)) (by decide +kernel)
theorem q_541 : Cond.code yX10_line cX10_line 3 (some .int) ∈ gtw := gtw_in (List.mem_of_getElem? (i := 541) (by decide +kernel)) (by decide +kernel)
theorem q_538 : Cond.methodLink RL 46 yX10_line ∈ gtw := gtw_in (List.mem_of_getElem? (i := 538) (by decide +kernel)) (by decide +kernel)
theorem q_539 : Cond.instanceMethod yX10_line ∈ gtw := gtw_in (List.mem_of_getElem? (i := 539) (by decide +kernel)) (by decide +kernel)
theorem q_540 : Cond.selects RX10 yX10_line yX10_line ∈ gtw := gtw_in (List.mem_of_getElem? (i := 540) (by decide +kernel)) (by decide +kernel)
theorem q_1296 : Cond.code yX11_line cX11_line 3 (some .int) ∈ gtw := gtw_in (List.mem_of_getElem? (i := 1296) (by decide +kernel)) (by decide +kernel)
theorem q_1293 : Cond.methodLink RL 49 yX11_line ∈ gtw := gtw_in (List.mem_of_getElem? (i := 1293) (by decide +kernel)) (by decide +kernel)
theorem q_1294 : Cond.instanceMethod yX11_line ∈ gtw := gtw_in (List.mem_of_getElem? (i := 1294) (by decide +kernel)) (by decide +kernel)
theorem q_1295 : Cond.selects RX11 yX11_line yX11_line ∈ gtw := gtw_in (List.mem_of_getElem? (i := 1295) (by decide +kernel)) (by decide +kernel)
theorem q_1316 : Cond.code yX11_net cX11_net 4 (some .int) ∈ gtw := gtw_in (List.mem_of_getElem? (i := 1316) (by decide +kernel)) (by decide +kernel)
theorem q_1313 : Cond.methodLink RL 55 yX11_net ∈ gtw := gtw_in (List.mem_of_getElem? (i := 1313) (by decide +kernel)) (by decide +kernel)
theorem q_1314 : Cond.instanceMethod yX11_net ∈ gtw := gtw_in (List.mem_of_getElem? (i := 1314) (by decide +kernel)) (by decide +kernel)
theorem q_1315 : Cond.selects RX11 yX11_net yX11_net ∈ gtw := gtw_in (List.mem_of_getElem? (i := 1315) (by decide +kernel)) (by decide +kernel)
theorem q_1203 : Cond.code yX11_thrown cX11_thrown 1 (some .int) ∈ gtw := gtw_in (List.mem_of_getElem? (i := 1203) (by decide +kernel)) (by decide +kernel)
theorem q_1200 : Cond.methodLink RL 56 yX11_thrown ∈ gtw := gtw_in (List.mem_of_getElem? (i := 1200) (by decide +kernel)) (by decide +kernel)
theorem q_1201 : Cond.instanceMethod yX11_thrown ∈ gtw := gtw_in (List.mem_of_getElem? (i := 1201) (by decide +kernel)) (by decide +kernel)
theorem q_1202 : Cond.selects RX11 yX11_thrown yX11_thrown ∈ gtw := gtw_in (List.mem_of_getElem? (i := 1202) (by decide +kernel)) (by decide +kernel)
theorem q_564 : Cond.code yX10_debts cX10_debts 8 (some .int) ∈ gtw := gtw_in (List.mem_of_getElem? (i := 564) (by decide +kernel)) (by decide +kernel)
theorem q_561 : Cond.methodLink RL 59 yX10_debts ∈ gtw := gtw_in (List.mem_of_getElem? (i := 561) (by decide +kernel)) (by decide +kernel)
theorem q_562 : Cond.instanceMethod yX10_debts ∈ gtw := gtw_in (List.mem_of_getElem? (i := 562) (by decide +kernel)) (by decide +kernel)
theorem q_563 : Cond.selects RX10 yX10_debts yX10_debts ∈ gtw := gtw_in (List.mem_of_getElem? (i := 563) (by decide +kernel)) (by decide +kernel)
theorem q_1324 : Cond.code yX11_debts cX11_debts 5 (some .int) ∈ gtw := gtw_in (List.mem_of_getElem? (i := 1324) (by decide +kernel)) (by decide +kernel)
theorem q_1321 : Cond.methodLink RL 62 yX11_debts ∈ gtw := gtw_in (List.mem_of_getElem? (i := 1321) (by decide +kernel)) (by decide +kernel)
theorem q_1322 : Cond.instanceMethod yX11_debts ∈ gtw := gtw_in (List.mem_of_getElem? (i := 1322) (by decide +kernel)) (by decide +kernel)
theorem q_1323 : Cond.selects RX11 yX11_debts yX11_debts ∈ gtw := gtw_in (List.mem_of_getElem? (i := 1323) (by decide +kernel)) (by decide +kernel)
theorem q_572 : Cond.code yX10_way cX10_way 4 (some .int) ∈ gtw := gtw_in (List.mem_of_getElem? (i := 572) (by decide +kernel)) (by decide +kernel)
theorem q_569 : Cond.methodLink RL 63 yX10_way ∈ gtw := gtw_in (List.mem_of_getElem? (i := 569) (by decide +kernel)) (by decide +kernel)
theorem q_570 : Cond.instanceMethod yX10_way ∈ gtw := gtw_in (List.mem_of_getElem? (i := 570) (by decide +kernel)) (by decide +kernel)
theorem q_571 : Cond.selects RX10 yX10_way yX10_way ∈ gtw := gtw_in (List.mem_of_getElem? (i := 571) (by decide +kernel)) (by decide +kernel)
theorem q_1336 : Cond.code yX11_way cX11_way 4 (some .int) ∈ gtw := gtw_in (List.mem_of_getElem? (i := 1336) (by decide +kernel)) (by decide +kernel)
theorem q_1333 : Cond.methodLink RL 67 yX11_way ∈ gtw := gtw_in (List.mem_of_getElem? (i := 1333) (by decide +kernel)) (by decide +kernel)
theorem q_1334 : Cond.instanceMethod yX11_way ∈ gtw := gtw_in (List.mem_of_getElem? (i := 1334) (by decide +kernel)) (by decide +kernel)
theorem q_1335 : Cond.selects RX11 yX11_way yX11_way ∈ gtw := gtw_in (List.mem_of_getElem? (i := 1335) (by decide +kernel)) (by decide +kernel)
theorem q_612 : Cond.code yX10_reach cX10_reach 4 (some .int) ∈ gtw := gtw_in (List.mem_of_getElem? (i := 612) (by decide +kernel)) (by decide +kernel)
theorem q_609 : Cond.methodLink RL 68 yX10_reach ∈ gtw := gtw_in (List.mem_of_getElem? (i := 609) (by decide +kernel)) (by decide +kernel)
theorem q_610 : Cond.instanceMethod yX10_reach ∈ gtw := gtw_in (List.mem_of_getElem? (i := 610) (by decide +kernel)) (by decide +kernel)
theorem q_611 : Cond.selects RX10 yX10_reach yX10_reach ∈ gtw := gtw_in (List.mem_of_getElem? (i := 611) (by decide +kernel)) (by decide +kernel)
theorem q_1360 : Cond.code yX11_reach cX11_reach 4 (some .int) ∈ gtw := gtw_in (List.mem_of_getElem? (i := 1360) (by decide +kernel)) (by decide +kernel)
theorem q_1357 : Cond.methodLink RL 71 yX11_reach ∈ gtw := gtw_in (List.mem_of_getElem? (i := 1357) (by decide +kernel)) (by decide +kernel)
theorem q_1358 : Cond.instanceMethod yX11_reach ∈ gtw := gtw_in (List.mem_of_getElem? (i := 1358) (by decide +kernel)) (by decide +kernel)
theorem q_1359 : Cond.selects RX11 yX11_reach yX11_reach ∈ gtw := gtw_in (List.mem_of_getElem? (i := 1359) (by decide +kernel)) (by decide +kernel)
theorem q_627 : Cond.code yX10_most cX10_most 4 (some .int) ∈ gtw := gtw_in (List.mem_of_getElem? (i := 627) (by decide +kernel)) (by decide +kernel)
theorem q_624 : Cond.methodLink RL 72 yX10_most ∈ gtw := gtw_in (List.mem_of_getElem? (i := 624) (by decide +kernel)) (by decide +kernel)
theorem q_625 : Cond.instanceMethod yX10_most ∈ gtw := gtw_in (List.mem_of_getElem? (i := 625) (by decide +kernel)) (by decide +kernel)
theorem q_626 : Cond.selects RX10 yX10_most yX10_most ∈ gtw := gtw_in (List.mem_of_getElem? (i := 626) (by decide +kernel)) (by decide +kernel)
theorem q_1371 : Cond.code yX11_most cX11_most 4 (some .int) ∈ gtw := gtw_in (List.mem_of_getElem? (i := 1371) (by decide +kernel)) (by decide +kernel)
theorem q_1368 : Cond.methodLink RL 75 yX11_most ∈ gtw := gtw_in (List.mem_of_getElem? (i := 1368) (by decide +kernel)) (by decide +kernel)
theorem q_1369 : Cond.instanceMethod yX11_most ∈ gtw := gtw_in (List.mem_of_getElem? (i := 1369) (by decide +kernel)) (by decide +kernel)
theorem q_1370 : Cond.selects RX11 yX11_most yX11_most ∈ gtw := gtw_in (List.mem_of_getElem? (i := 1370) (by decide +kernel)) (by decide +kernel)
theorem q_655 : Cond.code yX10_ring cX10_ring 2 (some .int) ∈ gtw := gtw_in (List.mem_of_getElem? (i := 655) (by decide +kernel)) (by decide +kernel)
theorem q_652 : Cond.methodLink RL 76 yX10_ring ∈ gtw := gtw_in (List.mem_of_getElem? (i := 652) (by decide +kernel)) (by decide +kernel)
theorem q_653 : Cond.instanceMethod yX10_ring ∈ gtw := gtw_in (List.mem_of_getElem? (i := 653) (by decide +kernel)) (by decide +kernel)
theorem q_654 : Cond.selects RX10 yX10_ring yX10_ring ∈ gtw := gtw_in (List.mem_of_getElem? (i := 654) (by decide +kernel)) (by decide +kernel)
theorem q_1405 : Cond.code yX11_ring cX11_ring 3 (some .int) ∈ gtw := gtw_in (List.mem_of_getElem? (i := 1405) (by decide +kernel)) (by decide +kernel)
theorem q_1402 : Cond.methodLink RL 79 yX11_ring ∈ gtw := gtw_in (List.mem_of_getElem? (i := 1402) (by decide +kernel)) (by decide +kernel)
theorem q_1403 : Cond.instanceMethod yX11_ring ∈ gtw := gtw_in (List.mem_of_getElem? (i := 1403) (by decide +kernel)) (by decide +kernel)
theorem q_1404 : Cond.selects RX11 yX11_ring yX11_ring ∈ gtw := gtw_in (List.mem_of_getElem? (i := 1404) (by decide +kernel)) (by decide +kernel)
theorem q_692 : Cond.code yX10_rings cX10_rings 2 (some .int) ∈ gtw := gtw_in (List.mem_of_getElem? (i := 692) (by decide +kernel)) (by decide +kernel)
theorem q_689 : Cond.methodLink RL 80 yX10_rings ∈ gtw := gtw_in (List.mem_of_getElem? (i := 689) (by decide +kernel)) (by decide +kernel)
theorem q_690 : Cond.instanceMethod yX10_rings ∈ gtw := gtw_in (List.mem_of_getElem? (i := 690) (by decide +kernel)) (by decide +kernel)
theorem q_691 : Cond.selects RX10 yX10_rings yX10_rings ∈ gtw := gtw_in (List.mem_of_getElem? (i := 691) (by decide +kernel)) (by decide +kernel)
theorem q_1425 : Cond.code yX11_rings cX11_rings 2 (some .int) ∈ gtw := gtw_in (List.mem_of_getElem? (i := 1425) (by decide +kernel)) (by decide +kernel)
theorem q_1422 : Cond.methodLink RL 83 yX11_rings ∈ gtw := gtw_in (List.mem_of_getElem? (i := 1422) (by decide +kernel)) (by decide +kernel)
theorem q_1423 : Cond.instanceMethod yX11_rings ∈ gtw := gtw_in (List.mem_of_getElem? (i := 1423) (by decide +kernel)) (by decide +kernel)
theorem q_1424 : Cond.selects RX11 yX11_rings yX11_rings ∈ gtw := gtw_in (List.mem_of_getElem? (i := 1424) (by decide +kernel)) (by decide +kernel)
theorem q_705 : Cond.code yX10_pays cX10_pays 4 (some .int) ∈ gtw := gtw_in (List.mem_of_getElem? (i := 705) (by decide +kernel)) (by decide +kernel)
theorem q_702 : Cond.methodLink RL 84 yX10_pays ∈ gtw := gtw_in (List.mem_of_getElem? (i := 702) (by decide +kernel)) (by decide +kernel)
theorem q_703 : Cond.instanceMethod yX10_pays ∈ gtw := gtw_in (List.mem_of_getElem? (i := 703) (by decide +kernel)) (by decide +kernel)
theorem q_704 : Cond.selects RX10 yX10_pays yX10_pays ∈ gtw := gtw_in (List.mem_of_getElem? (i := 704) (by decide +kernel)) (by decide +kernel)
theorem q_1433 : Cond.code yX11_pays cX11_pays 6 (some .int) ∈ gtw := gtw_in (List.mem_of_getElem? (i := 1433) (by decide +kernel)) (by decide +kernel)
theorem q_1430 : Cond.methodLink RL 87 yX11_pays ∈ gtw := gtw_in (List.mem_of_getElem? (i := 1430) (by decide +kernel)) (by decide +kernel)
theorem q_1431 : Cond.instanceMethod yX11_pays ∈ gtw := gtw_in (List.mem_of_getElem? (i := 1431) (by decide +kernel)) (by decide +kernel)
theorem q_1432 : Cond.selects RX11 yX11_pays yX11_pays ∈ gtw := gtw_in (List.mem_of_getElem? (i := 1432) (by decide +kernel)) (by decide +kernel)
theorem q_726 : Cond.code yX10_whole cX10_whole 4 (some .int) ∈ gtw := gtw_in (List.mem_of_getElem? (i := 726) (by decide +kernel)) (by decide +kernel)
theorem q_723 : Cond.methodLink RL 88 yX10_whole ∈ gtw := gtw_in (List.mem_of_getElem? (i := 723) (by decide +kernel)) (by decide +kernel)
theorem q_724 : Cond.instanceMethod yX10_whole ∈ gtw := gtw_in (List.mem_of_getElem? (i := 724) (by decide +kernel)) (by decide +kernel)
theorem q_725 : Cond.selects RX10 yX10_whole yX10_whole ∈ gtw := gtw_in (List.mem_of_getElem? (i := 725) (by decide +kernel)) (by decide +kernel)
theorem q_1437 : Cond.code yX11_whole cX11_whole 4 (some .int) ∈ gtw := gtw_in (List.mem_of_getElem? (i := 1437) (by decide +kernel)) (by decide +kernel)
theorem q_1434 : Cond.methodLink RL 91 yX11_whole ∈ gtw := gtw_in (List.mem_of_getElem? (i := 1434) (by decide +kernel)) (by decide +kernel)
theorem q_1435 : Cond.instanceMethod yX11_whole ∈ gtw := gtw_in (List.mem_of_getElem? (i := 1435) (by decide +kernel)) (by decide +kernel)
theorem q_1436 : Cond.selects RX11 yX11_whole yX11_whole ∈ gtw := gtw_in (List.mem_of_getElem? (i := 1436) (by decide +kernel)) (by decide +kernel)
theorem q_739 : Cond.code yX10_holds cX10_holds 4 (some .int) ∈ gtw := gtw_in (List.mem_of_getElem? (i := 739) (by decide +kernel)) (by decide +kernel)
theorem q_736 : Cond.methodLink RL 92 yX10_holds ∈ gtw := gtw_in (List.mem_of_getElem? (i := 736) (by decide +kernel)) (by decide +kernel)
theorem q_737 : Cond.instanceMethod yX10_holds ∈ gtw := gtw_in (List.mem_of_getElem? (i := 737) (by decide +kernel)) (by decide +kernel)
theorem q_738 : Cond.selects RX10 yX10_holds yX10_holds ∈ gtw := gtw_in (List.mem_of_getElem? (i := 738) (by decide +kernel)) (by decide +kernel)
theorem q_1473 : Cond.code yX11_holds cX11_holds 6 (some .int) ∈ gtw := gtw_in (List.mem_of_getElem? (i := 1473) (by decide +kernel)) (by decide +kernel)
theorem q_1470 : Cond.methodLink RL 95 yX11_holds ∈ gtw := gtw_in (List.mem_of_getElem? (i := 1470) (by decide +kernel)) (by decide +kernel)
theorem q_1471 : Cond.instanceMethod yX11_holds ∈ gtw := gtw_in (List.mem_of_getElem? (i := 1471) (by decide +kernel)) (by decide +kernel)
theorem q_1472 : Cond.selects RX11 yX11_holds yX11_holds ∈ gtw := gtw_in (List.mem_of_getElem? (i := 1472) (by decide +kernel)) (by decide +kernel)
theorem q_758 : Cond.code yX10_makes cX10_makes 2 (some .int) ∈ gtw := gtw_in (List.mem_of_getElem? (i := 758) (by decide +kernel)) (by decide +kernel)
theorem q_755 : Cond.methodLink RL 96 yX10_makes ∈ gtw := gtw_in (List.mem_of_getElem? (i := 755) (by decide +kernel)) (by decide +kernel)
theorem q_756 : Cond.instanceMethod yX10_makes ∈ gtw := gtw_in (List.mem_of_getElem? (i := 756) (by decide +kernel)) (by decide +kernel)
theorem q_757 : Cond.selects RX10 yX10_makes yX10_makes ∈ gtw := gtw_in (List.mem_of_getElem? (i := 757) (by decide +kernel)) (by decide +kernel)
theorem q_1485 : Cond.code yX11_makes cX11_makes 2 (some .int) ∈ gtw := gtw_in (List.mem_of_getElem? (i := 1485) (by decide +kernel)) (by decide +kernel)
theorem q_1482 : Cond.methodLink RL 99 yX11_makes ∈ gtw := gtw_in (List.mem_of_getElem? (i := 1482) (by decide +kernel)) (by decide +kernel)
theorem q_1483 : Cond.instanceMethod yX11_makes ∈ gtw := gtw_in (List.mem_of_getElem? (i := 1483) (by decide +kernel)) (by decide +kernel)
theorem q_1484 : Cond.selects RX11 yX11_makes yX11_makes ∈ gtw := gtw_in (List.mem_of_getElem? (i := 1484) (by decide +kernel)) (by decide +kernel)
theorem q_780 : Cond.code yX10_letsGo cX10_letsGo 2 (some .int) ∈ gtw := gtw_in (List.mem_of_getElem? (i := 780) (by decide +kernel)) (by decide +kernel)
theorem q_777 : Cond.methodLink RL 100 yX10_letsGo ∈ gtw := gtw_in (List.mem_of_getElem? (i := 777) (by decide +kernel)) (by decide +kernel)
theorem q_778 : Cond.instanceMethod yX10_letsGo ∈ gtw := gtw_in (List.mem_of_getElem? (i := 778) (by decide +kernel)) (by decide +kernel)
theorem q_779 : Cond.selects RX10 yX10_letsGo yX10_letsGo ∈ gtw := gtw_in (List.mem_of_getElem? (i := 779) (by decide +kernel)) (by decide +kernel)
theorem q_1501 : Cond.code yX11_letsGo cX11_letsGo 2 (some .int) ∈ gtw := gtw_in (List.mem_of_getElem? (i := 1501) (by decide +kernel)) (by decide +kernel)
theorem q_1498 : Cond.methodLink RL 103 yX11_letsGo ∈ gtw := gtw_in (List.mem_of_getElem? (i := 1498) (by decide +kernel)) (by decide +kernel)
theorem q_1499 : Cond.instanceMethod yX11_letsGo ∈ gtw := gtw_in (List.mem_of_getElem? (i := 1499) (by decide +kernel)) (by decide +kernel)
theorem q_1500 : Cond.selects RX11 yX11_letsGo yX11_letsGo ∈ gtw := gtw_in (List.mem_of_getElem? (i := 1500) (by decide +kernel)) (by decide +kernel)
theorem q_1505 : Cond.code yX11_held cX11_held 5 (some .int) ∈ gtw := gtw_in (List.mem_of_getElem? (i := 1505) (by decide +kernel)) (by decide +kernel)
theorem q_1502 : Cond.methodLink RL 107 yX11_held ∈ gtw := gtw_in (List.mem_of_getElem? (i := 1502) (by decide +kernel)) (by decide +kernel)
theorem q_1503 : Cond.instanceMethod yX11_held ∈ gtw := gtw_in (List.mem_of_getElem? (i := 1503) (by decide +kernel)) (by decide +kernel)
theorem q_1504 : Cond.selects RX11 yX11_held yX11_held ∈ gtw := gtw_in (List.mem_of_getElem? (i := 1504) (by decide +kernel)) (by decide +kernel)
theorem q_789 : Cond.code yX10_mostThen cX10_mostThen 5 (some .int) ∈ gtw := gtw_in (List.mem_of_getElem? (i := 789) (by decide +kernel)) (by decide +kernel)
theorem q_786 : Cond.methodLink RL 108 yX10_mostThen ∈ gtw := gtw_in (List.mem_of_getElem? (i := 786) (by decide +kernel)) (by decide +kernel)
theorem q_787 : Cond.instanceMethod yX10_mostThen ∈ gtw := gtw_in (List.mem_of_getElem? (i := 787) (by decide +kernel)) (by decide +kernel)
theorem q_788 : Cond.selects RX10 yX10_mostThen yX10_mostThen ∈ gtw := gtw_in (List.mem_of_getElem? (i := 788) (by decide +kernel)) (by decide +kernel)
theorem q_1509 : Cond.code yX11_mostThen cX11_mostThen 5 (some .int) ∈ gtw := gtw_in (List.mem_of_getElem? (i := 1509) (by decide +kernel)) (by decide +kernel)
theorem q_1506 : Cond.methodLink RL 111 yX11_mostThen ∈ gtw := gtw_in (List.mem_of_getElem? (i := 1506) (by decide +kernel)) (by decide +kernel)
theorem q_1507 : Cond.instanceMethod yX11_mostThen ∈ gtw := gtw_in (List.mem_of_getElem? (i := 1507) (by decide +kernel)) (by decide +kernel)
theorem q_1508 : Cond.selects RX11 yX11_mostThen yX11_mostThen ∈ gtw := gtw_in (List.mem_of_getElem? (i := 1508) (by decide +kernel)) (by decide +kernel)
theorem q_793 : Cond.code yX10_batch cX10_batch 4 (some .int) ∈ gtw := gtw_in (List.mem_of_getElem? (i := 793) (by decide +kernel)) (by decide +kernel)
theorem q_790 : Cond.methodLink RL 112 yX10_batch ∈ gtw := gtw_in (List.mem_of_getElem? (i := 790) (by decide +kernel)) (by decide +kernel)
theorem q_791 : Cond.instanceMethod yX10_batch ∈ gtw := gtw_in (List.mem_of_getElem? (i := 791) (by decide +kernel)) (by decide +kernel)
theorem q_792 : Cond.selects RX10 yX10_batch yX10_batch ∈ gtw := gtw_in (List.mem_of_getElem? (i := 792) (by decide +kernel)) (by decide +kernel)
theorem q_1445 : Cond.code yX11_batch cX11_batch 5 (some .int) ∈ gtw := gtw_in (List.mem_of_getElem? (i := 1445) (by decide +kernel)) (by decide +kernel)
theorem q_1442 : Cond.methodLink RL 115 yX11_batch ∈ gtw := gtw_in (List.mem_of_getElem? (i := 1442) (by decide +kernel)) (by decide +kernel)
theorem q_1443 : Cond.instanceMethod yX11_batch ∈ gtw := gtw_in (List.mem_of_getElem? (i := 1443) (by decide +kernel)) (by decide +kernel)
theorem q_1444 : Cond.selects RX11 yX11_batch yX11_batch ∈ gtw := gtw_in (List.mem_of_getElem? (i := 1444) (by decide +kernel)) (by decide +kernel)
theorem q_807 : Cond.code yX10_orders cX10_orders 3 (some .int) ∈ gtw := gtw_in (List.mem_of_getElem? (i := 807) (by decide +kernel)) (by decide +kernel)
theorem q_804 : Cond.methodLink RL 116 yX10_orders ∈ gtw := gtw_in (List.mem_of_getElem? (i := 804) (by decide +kernel)) (by decide +kernel)
theorem q_805 : Cond.instanceMethod yX10_orders ∈ gtw := gtw_in (List.mem_of_getElem? (i := 805) (by decide +kernel)) (by decide +kernel)
theorem q_806 : Cond.selects RX10 yX10_orders yX10_orders ∈ gtw := gtw_in (List.mem_of_getElem? (i := 806) (by decide +kernel)) (by decide +kernel)
theorem q_1461 : Cond.code yX11_orders cX11_orders 3 (some .int) ∈ gtw := gtw_in (List.mem_of_getElem? (i := 1461) (by decide +kernel)) (by decide +kernel)
theorem q_1458 : Cond.methodLink RL 119 yX11_orders ∈ gtw := gtw_in (List.mem_of_getElem? (i := 1458) (by decide +kernel)) (by decide +kernel)
theorem q_1459 : Cond.instanceMethod yX11_orders ∈ gtw := gtw_in (List.mem_of_getElem? (i := 1459) (by decide +kernel)) (by decide +kernel)
theorem q_1460 : Cond.selects RX11 yX11_orders yX11_orders ∈ gtw := gtw_in (List.mem_of_getElem? (i := 1460) (by decide +kernel)) (by decide +kernel)
theorem q_821 : Cond.code yX10_settles cX10_settles 1 (some .int) ∈ gtw := gtw_in (List.mem_of_getElem? (i := 821) (by decide +kernel)) (by decide +kernel)
theorem q_818 : Cond.methodLink RL 120 yX10_settles ∈ gtw := gtw_in (List.mem_of_getElem? (i := 818) (by decide +kernel)) (by decide +kernel)
theorem q_819 : Cond.instanceMethod yX10_settles ∈ gtw := gtw_in (List.mem_of_getElem? (i := 819) (by decide +kernel)) (by decide +kernel)
theorem q_820 : Cond.selects RX10 yX10_settles yX10_settles ∈ gtw := gtw_in (List.mem_of_getElem? (i := 820) (by decide +kernel)) (by decide +kernel)
theorem q_1469 : Cond.code yX11_settles cX11_settles 3 (some .int) ∈ gtw := gtw_in (List.mem_of_getElem? (i := 1469) (by decide +kernel)) (by decide +kernel)
theorem q_1466 : Cond.methodLink RL 123 yX11_settles ∈ gtw := gtw_in (List.mem_of_getElem? (i := 1466) (by decide +kernel)) (by decide +kernel)
theorem q_1467 : Cond.instanceMethod yX11_settles ∈ gtw := gtw_in (List.mem_of_getElem? (i := 1467) (by decide +kernel)) (by decide +kernel)
theorem q_1468 : Cond.selects RX11 yX11_settles yX11_settles ∈ gtw := gtw_in (List.mem_of_getElem? (i := 1468) (by decide +kernel)) (by decide +kernel)
theorem q_829 : Cond.code yX10_raise cX10_raise 10 (some .int) ∈ gtw := gtw_in (List.mem_of_getElem? (i := 829) (by decide +kernel)) (by decide +kernel)
theorem q_826 : Cond.methodLink RL 124 yX10_raise ∈ gtw := gtw_in (List.mem_of_getElem? (i := 826) (by decide +kernel)) (by decide +kernel)
theorem q_827 : Cond.instanceMethod yX10_raise ∈ gtw := gtw_in (List.mem_of_getElem? (i := 827) (by decide +kernel)) (by decide +kernel)
theorem q_828 : Cond.selects RX10 yX10_raise yX10_raise ∈ gtw := gtw_in (List.mem_of_getElem? (i := 828) (by decide +kernel)) (by decide +kernel)
theorem q_1549 : Cond.code yX11_raise cX11_raise 9 (some .int) ∈ gtw := gtw_in (List.mem_of_getElem? (i := 1549) (by decide +kernel)) (by decide +kernel)
theorem q_1546 : Cond.methodLink RL 127 yX11_raise ∈ gtw := gtw_in (List.mem_of_getElem? (i := 1546) (by decide +kernel)) (by decide +kernel)
theorem q_1547 : Cond.instanceMethod yX11_raise ∈ gtw := gtw_in (List.mem_of_getElem? (i := 1547) (by decide +kernel)) (by decide +kernel)
theorem q_1548 : Cond.selects RX11 yX11_raise yX11_raise ∈ gtw := gtw_in (List.mem_of_getElem? (i := 1548) (by decide +kernel)) (by decide +kernel)
theorem q_841 : Cond.code yX10_fails cX10_fails 2 (some .int) ∈ gtw := gtw_in (List.mem_of_getElem? (i := 841) (by decide +kernel)) (by decide +kernel)
theorem q_838 : Cond.methodLink RL 128 yX10_fails ∈ gtw := gtw_in (List.mem_of_getElem? (i := 838) (by decide +kernel)) (by decide +kernel)
theorem q_839 : Cond.instanceMethod yX10_fails ∈ gtw := gtw_in (List.mem_of_getElem? (i := 839) (by decide +kernel)) (by decide +kernel)
theorem q_840 : Cond.selects RX10 yX10_fails yX10_fails ∈ gtw := gtw_in (List.mem_of_getElem? (i := 840) (by decide +kernel)) (by decide +kernel)
theorem q_1521 : Cond.code yX11_fails cX11_fails 3 (some .int) ∈ gtw := gtw_in (List.mem_of_getElem? (i := 1521) (by decide +kernel)) (by decide +kernel)
theorem q_1518 : Cond.methodLink RL 131 yX11_fails ∈ gtw := gtw_in (List.mem_of_getElem? (i := 1518) (by decide +kernel)) (by decide +kernel)
theorem q_1519 : Cond.instanceMethod yX11_fails ∈ gtw := gtw_in (List.mem_of_getElem? (i := 1519) (by decide +kernel)) (by decide +kernel)
theorem q_1520 : Cond.selects RX11 yX11_fails yX11_fails ∈ gtw := gtw_in (List.mem_of_getElem? (i := 1520) (by decide +kernel)) (by decide +kernel)
theorem q_856 : Cond.code yX10_worst cX10_worst 5 (some .int) ∈ gtw := gtw_in (List.mem_of_getElem? (i := 856) (by decide +kernel)) (by decide +kernel)
theorem q_853 : Cond.methodLink RL 132 yX10_worst ∈ gtw := gtw_in (List.mem_of_getElem? (i := 853) (by decide +kernel)) (by decide +kernel)
theorem q_854 : Cond.instanceMethod yX10_worst ∈ gtw := gtw_in (List.mem_of_getElem? (i := 854) (by decide +kernel)) (by decide +kernel)
theorem q_855 : Cond.selects RX10 yX10_worst yX10_worst ∈ gtw := gtw_in (List.mem_of_getElem? (i := 855) (by decide +kernel)) (by decide +kernel)
theorem q_1541 : Cond.code yX11_worst cX11_worst 5 (some .int) ∈ gtw := gtw_in (List.mem_of_getElem? (i := 1541) (by decide +kernel)) (by decide +kernel)
theorem q_1538 : Cond.methodLink RL 135 yX11_worst ∈ gtw := gtw_in (List.mem_of_getElem? (i := 1538) (by decide +kernel)) (by decide +kernel)
theorem q_1539 : Cond.instanceMethod yX11_worst ∈ gtw := gtw_in (List.mem_of_getElem? (i := 1539) (by decide +kernel)) (by decide +kernel)
theorem q_1540 : Cond.selects RX11 yX11_worst yX11_worst ∈ gtw := gtw_in (List.mem_of_getElem? (i := 1540) (by decide +kernel)) (by decide +kernel)
theorem q_860 : Cond.code yX10_enough cX10_enough 5 (some .int) ∈ gtw := gtw_in (List.mem_of_getElem? (i := 860) (by decide +kernel)) (by decide +kernel)
theorem q_857 : Cond.methodLink RL 136 yX10_enough ∈ gtw := gtw_in (List.mem_of_getElem? (i := 857) (by decide +kernel)) (by decide +kernel)
theorem q_858 : Cond.instanceMethod yX10_enough ∈ gtw := gtw_in (List.mem_of_getElem? (i := 858) (by decide +kernel)) (by decide +kernel)
theorem q_859 : Cond.selects RX10 yX10_enough yX10_enough ∈ gtw := gtw_in (List.mem_of_getElem? (i := 859) (by decide +kernel)) (by decide +kernel)
theorem q_1545 : Cond.code yX11_enough cX11_enough 4 (some .int) ∈ gtw := gtw_in (List.mem_of_getElem? (i := 1545) (by decide +kernel)) (by decide +kernel)
theorem q_1542 : Cond.methodLink RL 139 yX11_enough ∈ gtw := gtw_in (List.mem_of_getElem? (i := 1542) (by decide +kernel)) (by decide +kernel)
theorem q_1543 : Cond.instanceMethod yX11_enough ∈ gtw := gtw_in (List.mem_of_getElem? (i := 1543) (by decide +kernel)) (by decide +kernel)
theorem q_1544 : Cond.selects RX11 yX11_enough yX11_enough ∈ gtw := gtw_in (List.mem_of_getElem? (i := 1544) (by decide +kernel)) (by decide +kernel)
theorem q_870 : Cond.code yX10_without cX10_without 6 (some .int) ∈ gtw := gtw_in (List.mem_of_getElem? (i := 870) (by decide +kernel)) (by decide +kernel)
theorem q_867 : Cond.methodLink RL 140 yX10_without ∈ gtw := gtw_in (List.mem_of_getElem? (i := 867) (by decide +kernel)) (by decide +kernel)
theorem q_868 : Cond.instanceMethod yX10_without ∈ gtw := gtw_in (List.mem_of_getElem? (i := 868) (by decide +kernel)) (by decide +kernel)
theorem q_869 : Cond.selects RX10 yX10_without yX10_without ∈ gtw := gtw_in (List.mem_of_getElem? (i := 869) (by decide +kernel)) (by decide +kernel)
theorem q_1557 : Cond.code yX11_without cX11_without 5 (some .int) ∈ gtw := gtw_in (List.mem_of_getElem? (i := 1557) (by decide +kernel)) (by decide +kernel)
theorem q_1554 : Cond.methodLink RL 143 yX11_without ∈ gtw := gtw_in (List.mem_of_getElem? (i := 1554) (by decide +kernel)) (by decide +kernel)
theorem q_1555 : Cond.instanceMethod yX11_without ∈ gtw := gtw_in (List.mem_of_getElem? (i := 1555) (by decide +kernel)) (by decide +kernel)
theorem q_1556 : Cond.selects RX11 yX11_without yX11_without ∈ gtw := gtw_in (List.mem_of_getElem? (i := 1556) (by decide +kernel)) (by decide +kernel)
theorem q_882 : Cond.code yX10_key cX10_key 7 (some .int) ∈ gtw := gtw_in (List.mem_of_getElem? (i := 882) (by decide +kernel)) (by decide +kernel)
theorem q_879 : Cond.methodLink RL 144 yX10_key ∈ gtw := gtw_in (List.mem_of_getElem? (i := 879) (by decide +kernel)) (by decide +kernel)
theorem q_880 : Cond.instanceMethod yX10_key ∈ gtw := gtw_in (List.mem_of_getElem? (i := 880) (by decide +kernel)) (by decide +kernel)
theorem q_881 : Cond.selects RX10 yX10_key yX10_key ∈ gtw := gtw_in (List.mem_of_getElem? (i := 881) (by decide +kernel)) (by decide +kernel)
theorem q_1565 : Cond.code yX11_key cX11_key 7 (some .int) ∈ gtw := gtw_in (List.mem_of_getElem? (i := 1565) (by decide +kernel)) (by decide +kernel)
theorem q_1562 : Cond.methodLink RL 147 yX11_key ∈ gtw := gtw_in (List.mem_of_getElem? (i := 1562) (by decide +kernel)) (by decide +kernel)
theorem q_1563 : Cond.instanceMethod yX11_key ∈ gtw := gtw_in (List.mem_of_getElem? (i := 1563) (by decide +kernel)) (by decide +kernel)
theorem q_1564 : Cond.selects RX11 yX11_key yX11_key ∈ gtw := gtw_in (List.mem_of_getElem? (i := 1564) (by decide +kernel)) (by decide +kernel)
theorem q_886 : Cond.code yX10_were cX10_were 6 (some .int) ∈ gtw := gtw_in (List.mem_of_getElem? (i := 886) (by decide +kernel)) (by decide +kernel)
theorem q_883 : Cond.methodLink RL 148 yX10_were ∈ gtw := gtw_in (List.mem_of_getElem? (i := 883) (by decide +kernel)) (by decide +kernel)
theorem q_884 : Cond.instanceMethod yX10_were ∈ gtw := gtw_in (List.mem_of_getElem? (i := 884) (by decide +kernel)) (by decide +kernel)
theorem q_885 : Cond.selects RX10 yX10_were yX10_were ∈ gtw := gtw_in (List.mem_of_getElem? (i := 885) (by decide +kernel)) (by decide +kernel)
theorem q_1569 : Cond.code yX11_were cX11_were 8 (some .int) ∈ gtw := gtw_in (List.mem_of_getElem? (i := 1569) (by decide +kernel)) (by decide +kernel)
theorem q_1566 : Cond.methodLink RL 151 yX11_were ∈ gtw := gtw_in (List.mem_of_getElem? (i := 1566) (by decide +kernel)) (by decide +kernel)
theorem q_1567 : Cond.instanceMethod yX11_were ∈ gtw := gtw_in (List.mem_of_getElem? (i := 1567) (by decide +kernel)) (by decide +kernel)
theorem q_1568 : Cond.selects RX11 yX11_were yX11_were ∈ gtw := gtw_in (List.mem_of_getElem? (i := 1568) (by decide +kernel)) (by decide +kernel)
theorem q_893 : Cond.code yX10_both cX10_both 9 (some .int) ∈ gtw := gtw_in (List.mem_of_getElem? (i := 893) (by decide +kernel)) (by decide +kernel)
theorem q_890 : Cond.methodLink RL 152 yX10_both ∈ gtw := gtw_in (List.mem_of_getElem? (i := 890) (by decide +kernel)) (by decide +kernel)
theorem q_891 : Cond.instanceMethod yX10_both ∈ gtw := gtw_in (List.mem_of_getElem? (i := 891) (by decide +kernel)) (by decide +kernel)
theorem q_892 : Cond.selects RX10 yX10_both yX10_both ∈ gtw := gtw_in (List.mem_of_getElem? (i := 892) (by decide +kernel)) (by decide +kernel)
theorem q_1573 : Cond.code yX11_both cX11_both 9 (some .int) ∈ gtw := gtw_in (List.mem_of_getElem? (i := 1573) (by decide +kernel)) (by decide +kernel)
theorem q_1570 : Cond.methodLink RL 156 yX11_both ∈ gtw := gtw_in (List.mem_of_getElem? (i := 1570) (by decide +kernel)) (by decide +kernel)
theorem q_1571 : Cond.instanceMethod yX11_both ∈ gtw := gtw_in (List.mem_of_getElem? (i := 1571) (by decide +kernel)) (by decide +kernel)
theorem q_1572 : Cond.selects RX11 yX11_both yX11_both ∈ gtw := gtw_in (List.mem_of_getElem? (i := 1572) (by decide +kernel)) (by decide +kernel)
theorem q_897 : Cond.code yX10_limits cX10_limits 4 (some .int) ∈ gtw := gtw_in (List.mem_of_getElem? (i := 897) (by decide +kernel)) (by decide +kernel)
theorem q_894 : Cond.methodLink RL 157 yX10_limits ∈ gtw := gtw_in (List.mem_of_getElem? (i := 894) (by decide +kernel)) (by decide +kernel)
theorem q_895 : Cond.instanceMethod yX10_limits ∈ gtw := gtw_in (List.mem_of_getElem? (i := 895) (by decide +kernel)) (by decide +kernel)
theorem q_896 : Cond.selects RX10 yX10_limits yX10_limits ∈ gtw := gtw_in (List.mem_of_getElem? (i := 896) (by decide +kernel)) (by decide +kernel)
theorem q_1577 : Cond.code yX11_limits cX11_limits 6 (some .int) ∈ gtw := gtw_in (List.mem_of_getElem? (i := 1577) (by decide +kernel)) (by decide +kernel)
theorem q_1574 : Cond.methodLink RL 160 yX11_limits ∈ gtw := gtw_in (List.mem_of_getElem? (i := 1574) (by decide +kernel)) (by decide +kernel)
theorem q_1575 : Cond.instanceMethod yX11_limits ∈ gtw := gtw_in (List.mem_of_getElem? (i := 1575) (by decide +kernel)) (by decide +kernel)
theorem q_1576 : Cond.selects RX11 yX11_limits yX11_limits ∈ gtw := gtw_in (List.mem_of_getElem? (i := 1576) (by decide +kernel)) (by decide +kernel)
theorem q_905 : Cond.code yX10_stocks cX10_stocks 3 (some .int) ∈ gtw := gtw_in (List.mem_of_getElem? (i := 905) (by decide +kernel)) (by decide +kernel)
theorem q_902 : Cond.methodLink RL 161 yX10_stocks ∈ gtw := gtw_in (List.mem_of_getElem? (i := 902) (by decide +kernel)) (by decide +kernel)
theorem q_903 : Cond.instanceMethod yX10_stocks ∈ gtw := gtw_in (List.mem_of_getElem? (i := 903) (by decide +kernel)) (by decide +kernel)
theorem q_904 : Cond.selects RX10 yX10_stocks yX10_stocks ∈ gtw := gtw_in (List.mem_of_getElem? (i := 904) (by decide +kernel)) (by decide +kernel)
theorem q_1513 : Cond.code yX11_stocks cX11_stocks 5 (some .int) ∈ gtw := gtw_in (List.mem_of_getElem? (i := 1513) (by decide +kernel)) (by decide +kernel)
theorem q_1510 : Cond.methodLink RL 164 yX11_stocks ∈ gtw := gtw_in (List.mem_of_getElem? (i := 1510) (by decide +kernel)) (by decide +kernel)
theorem q_1511 : Cond.instanceMethod yX11_stocks ∈ gtw := gtw_in (List.mem_of_getElem? (i := 1511) (by decide +kernel)) (by decide +kernel)
theorem q_1512 : Cond.selects RX11 yX11_stocks yX11_stocks ∈ gtw := gtw_in (List.mem_of_getElem? (i := 1512) (by decide +kernel)) (by decide +kernel)
theorem q_913 : Cond.code yX10_lets cX10_lets 4 (some .int) ∈ gtw := gtw_in (List.mem_of_getElem? (i := 913) (by decide +kernel)) (by decide +kernel)
theorem q_910 : Cond.methodLink RL 165 yX10_lets ∈ gtw := gtw_in (List.mem_of_getElem? (i := 910) (by decide +kernel)) (by decide +kernel)
theorem q_911 : Cond.instanceMethod yX10_lets ∈ gtw := gtw_in (List.mem_of_getElem? (i := 911) (by decide +kernel)) (by decide +kernel)
theorem q_912 : Cond.selects RX10 yX10_lets yX10_lets ∈ gtw := gtw_in (List.mem_of_getElem? (i := 912) (by decide +kernel)) (by decide +kernel)
theorem q_1585 : Cond.code yX11_lets cX11_lets 5 (some .int) ∈ gtw := gtw_in (List.mem_of_getElem? (i := 1585) (by decide +kernel)) (by decide +kernel)
theorem q_1582 : Cond.methodLink RL 168 yX11_lets ∈ gtw := gtw_in (List.mem_of_getElem? (i := 1582) (by decide +kernel)) (by decide +kernel)
theorem q_1583 : Cond.instanceMethod yX11_lets ∈ gtw := gtw_in (List.mem_of_getElem? (i := 1583) (by decide +kernel)) (by decide +kernel)
theorem q_1584 : Cond.selects RX11 yX11_lets yX11_lets ∈ gtw := gtw_in (List.mem_of_getElem? (i := 1584) (by decide +kernel)) (by decide +kernel)
theorem q_922 : Cond.code yX10_leaves cX10_leaves 3 (some .int) ∈ gtw := gtw_in (List.mem_of_getElem? (i := 922) (by decide +kernel)) (by decide +kernel)
theorem q_919 : Cond.methodLink RL 169 yX10_leaves ∈ gtw := gtw_in (List.mem_of_getElem? (i := 919) (by decide +kernel)) (by decide +kernel)
theorem q_920 : Cond.instanceMethod yX10_leaves ∈ gtw := gtw_in (List.mem_of_getElem? (i := 920) (by decide +kernel)) (by decide +kernel)
theorem q_921 : Cond.selects RX10 yX10_leaves yX10_leaves ∈ gtw := gtw_in (List.mem_of_getElem? (i := 921) (by decide +kernel)) (by decide +kernel)
theorem q_1593 : Cond.code yX11_leaves cX11_leaves 4 (some .int) ∈ gtw := gtw_in (List.mem_of_getElem? (i := 1593) (by decide +kernel)) (by decide +kernel)
theorem q_1590 : Cond.methodLink RL 172 yX11_leaves ∈ gtw := gtw_in (List.mem_of_getElem? (i := 1590) (by decide +kernel)) (by decide +kernel)
theorem q_1591 : Cond.instanceMethod yX11_leaves ∈ gtw := gtw_in (List.mem_of_getElem? (i := 1591) (by decide +kernel)) (by decide +kernel)
theorem q_1592 : Cond.selects RX11 yX11_leaves yX11_leaves ∈ gtw := gtw_in (List.mem_of_getElem? (i := 1592) (by decide +kernel)) (by decide +kernel)
theorem q_934 : Cond.code yX10_day cX10_day 3 (some .int) ∈ gtw := gtw_in (List.mem_of_getElem? (i := 934) (by decide +kernel)) (by decide +kernel)
theorem q_931 : Cond.methodLink RL 173 yX10_day ∈ gtw := gtw_in (List.mem_of_getElem? (i := 931) (by decide +kernel)) (by decide +kernel)
theorem q_932 : Cond.instanceMethod yX10_day ∈ gtw := gtw_in (List.mem_of_getElem? (i := 932) (by decide +kernel)) (by decide +kernel)
theorem q_933 : Cond.selects RX10 yX10_day yX10_day ∈ gtw := gtw_in (List.mem_of_getElem? (i := 933) (by decide +kernel)) (by decide +kernel)
theorem q_1597 : Cond.code yX11_day cX11_day 3 (some .int) ∈ gtw := gtw_in (List.mem_of_getElem? (i := 1597) (by decide +kernel)) (by decide +kernel)
theorem q_1594 : Cond.methodLink RL 176 yX11_day ∈ gtw := gtw_in (List.mem_of_getElem? (i := 1594) (by decide +kernel)) (by decide +kernel)
theorem q_1595 : Cond.instanceMethod yX11_day ∈ gtw := gtw_in (List.mem_of_getElem? (i := 1595) (by decide +kernel)) (by decide +kernel)
theorem q_1596 : Cond.selects RX11 yX11_day yX11_day ∈ gtw := gtw_in (List.mem_of_getElem? (i := 1596) (by decide +kernel)) (by decide +kernel)
theorem q_953 : Cond.code yX10_undo cX10_undo 1 (some .int) ∈ gtw := gtw_in (List.mem_of_getElem? (i := 953) (by decide +kernel)) (by decide +kernel)
theorem q_950 : Cond.methodLink RL 177 yX10_undo ∈ gtw := gtw_in (List.mem_of_getElem? (i := 950) (by decide +kernel)) (by decide +kernel)
theorem q_951 : Cond.instanceMethod yX10_undo ∈ gtw := gtw_in (List.mem_of_getElem? (i := 951) (by decide +kernel)) (by decide +kernel)
theorem q_952 : Cond.selects RX10 yX10_undo yX10_undo ∈ gtw := gtw_in (List.mem_of_getElem? (i := 952) (by decide +kernel)) (by decide +kernel)
theorem q_1692 : Cond.code yX11_undo cX11_undo 2 (some .int) ∈ gtw := gtw_in (List.mem_of_getElem? (i := 1692) (by decide +kernel)) (by decide +kernel)
theorem q_1689 : Cond.methodLink RL 180 yX11_undo ∈ gtw := gtw_in (List.mem_of_getElem? (i := 1689) (by decide +kernel)) (by decide +kernel)
theorem q_1690 : Cond.instanceMethod yX11_undo ∈ gtw := gtw_in (List.mem_of_getElem? (i := 1690) (by decide +kernel)) (by decide +kernel)
theorem q_1691 : Cond.selects RX11 yX11_undo yX11_undo ∈ gtw := gtw_in (List.mem_of_getElem? (i := 1691) (by decide +kernel)) (by decide +kernel)
theorem q_961 : Cond.code yX10_years cX10_years 9 (some .int) ∈ gtw := gtw_in (List.mem_of_getElem? (i := 961) (by decide +kernel)) (by decide +kernel)
theorem q_958 : Cond.methodLink RL 181 yX10_years ∈ gtw := gtw_in (List.mem_of_getElem? (i := 958) (by decide +kernel)) (by decide +kernel)
theorem q_959 : Cond.instanceMethod yX10_years ∈ gtw := gtw_in (List.mem_of_getElem? (i := 959) (by decide +kernel)) (by decide +kernel)
theorem q_960 : Cond.selects RX10 yX10_years yX10_years ∈ gtw := gtw_in (List.mem_of_getElem? (i := 960) (by decide +kernel)) (by decide +kernel)
theorem q_1696 : Cond.code yX11_years cX11_years 8 (some .int) ∈ gtw := gtw_in (List.mem_of_getElem? (i := 1696) (by decide +kernel)) (by decide +kernel)
theorem q_1693 : Cond.methodLink RL 184 yX11_years ∈ gtw := gtw_in (List.mem_of_getElem? (i := 1693) (by decide +kernel)) (by decide +kernel)
theorem q_1694 : Cond.instanceMethod yX11_years ∈ gtw := gtw_in (List.mem_of_getElem? (i := 1694) (by decide +kernel)) (by decide +kernel)
theorem q_1695 : Cond.selects RX11 yX11_years yX11_years ∈ gtw := gtw_in (List.mem_of_getElem? (i := 1695) (by decide +kernel)) (by decide +kernel)
theorem q_977 : Cond.code yX10_keep cX10_keep 2 (some .boolean) ∈ gtw := gtw_in (List.mem_of_getElem? (i := 977) (by decide +kernel)) (by decide +kernel)
theorem q_974 : Cond.methodLink RL 185 yX10_keep ∈ gtw := gtw_in (List.mem_of_getElem? (i := 974) (by decide +kernel)) (by decide +kernel)
theorem q_975 : Cond.instanceMethod yX10_keep ∈ gtw := gtw_in (List.mem_of_getElem? (i := 975) (by decide +kernel)) (by decide +kernel)
theorem q_976 : Cond.selects RX10 yX10_keep yX10_keep ∈ gtw := gtw_in (List.mem_of_getElem? (i := 976) (by decide +kernel)) (by decide +kernel)
theorem q_1705 : Cond.code yX11_keep cX11_keep 3 (some .boolean) ∈ gtw := gtw_in (List.mem_of_getElem? (i := 1705) (by decide +kernel)) (by decide +kernel)
theorem q_1702 : Cond.methodLink RL 188 yX11_keep ∈ gtw := gtw_in (List.mem_of_getElem? (i := 1702) (by decide +kernel)) (by decide +kernel)
theorem q_1703 : Cond.instanceMethod yX11_keep ∈ gtw := gtw_in (List.mem_of_getElem? (i := 1703) (by decide +kernel)) (by decide +kernel)
theorem q_1704 : Cond.selects RX11 yX11_keep yX11_keep ∈ gtw := gtw_in (List.mem_of_getElem? (i := 1704) (by decide +kernel)) (by decide +kernel)
theorem q_981 : Cond.code yX10_again cX10_again 2 (some .boolean) ∈ gtw := gtw_in (List.mem_of_getElem? (i := 981) (by decide +kernel)) (by decide +kernel)
theorem q_978 : Cond.methodLink RL 189 yX10_again ∈ gtw := gtw_in (List.mem_of_getElem? (i := 978) (by decide +kernel)) (by decide +kernel)
theorem q_979 : Cond.instanceMethod yX10_again ∈ gtw := gtw_in (List.mem_of_getElem? (i := 979) (by decide +kernel)) (by decide +kernel)
theorem q_980 : Cond.selects RX10 yX10_again yX10_again ∈ gtw := gtw_in (List.mem_of_getElem? (i := 980) (by decide +kernel)) (by decide +kernel)
theorem q_1709 : Cond.code yX11_again cX11_again 3 (some .boolean) ∈ gtw := gtw_in (List.mem_of_getElem? (i := 1709) (by decide +kernel)) (by decide +kernel)
theorem q_1706 : Cond.methodLink RL 192 yX11_again ∈ gtw := gtw_in (List.mem_of_getElem? (i := 1706) (by decide +kernel)) (by decide +kernel)
theorem q_1707 : Cond.instanceMethod yX11_again ∈ gtw := gtw_in (List.mem_of_getElem? (i := 1707) (by decide +kernel)) (by decide +kernel)
theorem q_1708 : Cond.selects RX11 yX11_again yX11_again ∈ gtw := gtw_in (List.mem_of_getElem? (i := 1708) (by decide +kernel)) (by decide +kernel)
theorem q_989 : Cond.code yX10_count cX10_count 2 (some .int) ∈ gtw := gtw_in (List.mem_of_getElem? (i := 989) (by decide +kernel)) (by decide +kernel)
theorem q_986 : Cond.methodLink RL 193 yX10_count ∈ gtw := gtw_in (List.mem_of_getElem? (i := 986) (by decide +kernel)) (by decide +kernel)
theorem q_987 : Cond.instanceMethod yX10_count ∈ gtw := gtw_in (List.mem_of_getElem? (i := 987) (by decide +kernel)) (by decide +kernel)
theorem q_988 : Cond.selects RX10 yX10_count yX10_count ∈ gtw := gtw_in (List.mem_of_getElem? (i := 988) (by decide +kernel)) (by decide +kernel)
theorem q_1713 : Cond.code yX11_count cX11_count 2 (some .int) ∈ gtw := gtw_in (List.mem_of_getElem? (i := 1713) (by decide +kernel)) (by decide +kernel)
theorem q_1710 : Cond.methodLink RL 196 yX11_count ∈ gtw := gtw_in (List.mem_of_getElem? (i := 1710) (by decide +kernel)) (by decide +kernel)
theorem q_1711 : Cond.instanceMethod yX11_count ∈ gtw := gtw_in (List.mem_of_getElem? (i := 1711) (by decide +kernel)) (by decide +kernel)
theorem q_1712 : Cond.selects RX11 yX11_count yX11_count ∈ gtw := gtw_in (List.mem_of_getElem? (i := 1712) (by decide +kernel)) (by decide +kernel)
theorem q_1729 : Cond.code yX11_row cX11_row 2 (some .long) ∈ gtw := gtw_in (List.mem_of_getElem? (i := 1729) (by decide +kernel)) (by decide +kernel)
theorem q_1726 : Cond.methodLink RL 199 yX11_row ∈ gtw := gtw_in (List.mem_of_getElem? (i := 1726) (by decide +kernel)) (by decide +kernel)
theorem q_1727 : Cond.instanceMethod yX11_row ∈ gtw := gtw_in (List.mem_of_getElem? (i := 1727) (by decide +kernel)) (by decide +kernel)
theorem q_1728 : Cond.selects RX11 yX11_row yX11_row ∈ gtw := gtw_in (List.mem_of_getElem? (i := 1728) (by decide +kernel)) (by decide +kernel)
theorem q_1003 : Cond.methodLink RL 50 yL_net ∈ gtw := gtw_in (List.mem_of_getElem? (i := 1003) (by decide +kernel)) (by decide +kernel)
theorem q_1004 : Cond.static yL_net ∈ gtw := gtw_in (List.mem_of_getElem? (i := 1004) (by decide +kernel)) (by decide +kernel)
theorem q_93 : Cond.initialized RL ∈ gtw := gtw_in (List.mem_of_getElem? (i := 93) (by decide +kernel)) (by decide +kernel)
theorem q_1077 : Cond.methodLink RL 104 yL_held ∈ gtw := gtw_in (List.mem_of_getElem? (i := 1077) (by decide +kernel)) (by decide +kernel)
theorem q_1078 : Cond.static yL_held ∈ gtw := gtw_in (List.mem_of_getElem? (i := 1078) (by decide +kernel)) (by decide +kernel)
theorem q_1089 : Cond.methodLink RL 197 yL_row ∈ gtw := gtw_in (List.mem_of_getElem? (i := 1089) (by decide +kernel)) (by decide +kernel)
theorem q_1090 : Cond.static yL_row ∈ gtw := gtw_in (List.mem_of_getElem? (i := 1090) (by decide +kernel)) (by decide +kernel)
theorem cw_RL_27 : CWV RL 27 RX10 yX10_sign cX10_sign 2 (some .int) 1 := ⟨q_419, q_420, q_421, q_94, q_422, ⟨rfl, by decide, by decide, by decide +kernel⟩⟩
theorem cw_RL_30 : CWV RL 30 RX11 yX11_sign cX11_sign 3 (some .int) 1 := ⟨q_1204, q_1205, q_1206, q_105, q_1207, ⟨rfl, by decide, by decide, by decide +kernel⟩⟩
theorem cw_RL_31 : CWV RL 31 RX10 yX10_end cX10_end 2 (some .boolean) 1 := ⟨q_427, q_428, q_429, q_94, q_430, ⟨rfl, by decide, by decide, by decide +kernel⟩⟩
theorem cw_RL_35 : CWV RL 35 RX11 yX11_end cX11_end 2 (some .boolean) 1 := ⟨q_1208, q_1209, q_1210, q_105, q_1211, ⟨rfl, by decide, by decide, by decide +kernel⟩⟩
theorem cw_RL_36 : CWV RL 36 RX10 yX10_club cX10_club 2 (some .int) 0 := ⟨q_435, q_436, q_437, q_94, q_438, ⟨rfl, by decide, by decide, by decide +kernel⟩⟩
theorem cw_RL_40 : CWV RL 40 RX11 yX11_club cX11_club 6 (some .int) 0 := ⟨q_1215, q_1216, q_1217, q_105, q_1218, ⟨rfl, by decide, by decide, by decide +kernel⟩⟩
theorem cw_RL_41 : CWV RL 41 RX10 yX10_sheet cX10_sheet 10 (some .int) 5 := ⟨q_487, q_488, q_489, q_94, q_490, ⟨rfl, by decide, by decide, by decide +kernel⟩⟩
theorem cw_RL_45 : CWV RL 45 RX11 yX11_sheet cX11_sheet 10 (some .int) 5 := ⟨q_1263, q_1264, q_1265, q_105, q_1266, ⟨rfl, by decide, by decide, by decide +kernel⟩⟩
theorem cw_RL_46 : CWV RL 46 RX10 yX10_line cX10_line 3 (some .int) 2 := ⟨q_538, q_539, q_540, q_94, q_541, ⟨rfl, by decide, by decide, by decide +kernel⟩⟩
theorem cw_RL_49 : CWV RL 49 RX11 yX11_line cX11_line 3 (some .int) 2 := ⟨q_1293, q_1294, q_1295, q_105, q_1296, ⟨rfl, by decide, by decide, by decide +kernel⟩⟩
theorem cw_RL_55 : CWV RL 55 RX11 yX11_net cX11_net 4 (some .int) 1 := ⟨q_1313, q_1314, q_1315, q_105, q_1316, ⟨rfl, by decide, by decide, by decide +kernel⟩⟩
theorem cw_RL_56 : CWV RL 56 RX11 yX11_thrown cX11_thrown 1 (some .int) 0 := ⟨q_1200, q_1201, q_1202, q_105, q_1203, ⟨rfl, by decide, by decide, by decide +kernel⟩⟩
theorem cw_RL_59 : CWV RL 59 RX10 yX10_debts cX10_debts 8 (some .int) 0 := ⟨q_561, q_562, q_563, q_94, q_564, ⟨rfl, by decide, by decide, by decide +kernel⟩⟩
theorem cw_RL_62 : CWV RL 62 RX11 yX11_debts cX11_debts 5 (some .int) 0 := ⟨q_1321, q_1322, q_1323, q_105, q_1324, ⟨rfl, by decide, by decide, by decide +kernel⟩⟩
theorem cw_RL_63 : CWV RL 63 RX10 yX10_way cX10_way 4 (some .int) 3 := ⟨q_569, q_570, q_571, q_94, q_572, ⟨rfl, by decide, by decide, by decide +kernel⟩⟩
theorem cw_RL_67 : CWV RL 67 RX11 yX11_way cX11_way 4 (some .int) 3 := ⟨q_1333, q_1334, q_1335, q_105, q_1336, ⟨rfl, by decide, by decide, by decide +kernel⟩⟩
theorem cw_RL_68 : CWV RL 68 RX10 yX10_reach cX10_reach 4 (some .int) 2 := ⟨q_609, q_610, q_611, q_94, q_612, ⟨rfl, by decide, by decide, by decide +kernel⟩⟩
theorem cw_RL_71 : CWV RL 71 RX11 yX11_reach cX11_reach 4 (some .int) 2 := ⟨q_1357, q_1358, q_1359, q_105, q_1360, ⟨rfl, by decide, by decide, by decide +kernel⟩⟩
theorem cw_RL_72 : CWV RL 72 RX10 yX10_most cX10_most 4 (some .int) 2 := ⟨q_624, q_625, q_626, q_94, q_627, ⟨rfl, by decide, by decide, by decide +kernel⟩⟩
theorem cw_RL_75 : CWV RL 75 RX11 yX11_most cX11_most 4 (some .int) 2 := ⟨q_1368, q_1369, q_1370, q_105, q_1371, ⟨rfl, by decide, by decide, by decide +kernel⟩⟩
theorem cw_RL_76 : CWV RL 76 RX10 yX10_ring cX10_ring 2 (some .int) 0 := ⟨q_652, q_653, q_654, q_94, q_655, ⟨rfl, by decide, by decide, by decide +kernel⟩⟩
theorem cw_RL_79 : CWV RL 79 RX11 yX11_ring cX11_ring 3 (some .int) 0 := ⟨q_1402, q_1403, q_1404, q_105, q_1405, ⟨rfl, by decide, by decide, by decide +kernel⟩⟩
theorem cw_RL_80 : CWV RL 80 RX10 yX10_rings cX10_rings 2 (some .int) 0 := ⟨q_689, q_690, q_691, q_94, q_692, ⟨rfl, by decide, by decide, by decide +kernel⟩⟩
theorem cw_RL_83 : CWV RL 83 RX11 yX11_rings cX11_rings 2 (some .int) 0 := ⟨q_1422, q_1423, q_1424, q_105, q_1425, ⟨rfl, by decide, by decide, by decide +kernel⟩⟩
theorem cw_RL_84 : CWV RL 84 RX10 yX10_pays cX10_pays 4 (some .int) 3 := ⟨q_702, q_703, q_704, q_94, q_705, ⟨rfl, by decide, by decide, by decide +kernel⟩⟩
theorem cw_RL_87 : CWV RL 87 RX11 yX11_pays cX11_pays 6 (some .int) 3 := ⟨q_1430, q_1431, q_1432, q_105, q_1433, ⟨rfl, by decide, by decide, by decide +kernel⟩⟩
theorem cw_RL_88 : CWV RL 88 RX10 yX10_whole cX10_whole 4 (some .int) 3 := ⟨q_723, q_724, q_725, q_94, q_726, ⟨rfl, by decide, by decide, by decide +kernel⟩⟩
theorem cw_RL_91 : CWV RL 91 RX11 yX11_whole cX11_whole 4 (some .int) 3 := ⟨q_1434, q_1435, q_1436, q_105, q_1437, ⟨rfl, by decide, by decide, by decide +kernel⟩⟩
theorem cw_RL_92 : CWV RL 92 RX10 yX10_holds cX10_holds 4 (some .int) 3 := ⟨q_736, q_737, q_738, q_94, q_739, ⟨rfl, by decide, by decide, by decide +kernel⟩⟩
theorem cw_RL_95 : CWV RL 95 RX11 yX11_holds cX11_holds 6 (some .int) 3 := ⟨q_1470, q_1471, q_1472, q_105, q_1473, ⟨rfl, by decide, by decide, by decide +kernel⟩⟩
theorem cw_RL_96 : CWV RL 96 RX10 yX10_makes cX10_makes 2 (some .int) 1 := ⟨q_755, q_756, q_757, q_94, q_758, ⟨rfl, by decide, by decide, by decide +kernel⟩⟩
theorem cw_RL_99 : CWV RL 99 RX11 yX11_makes cX11_makes 2 (some .int) 1 := ⟨q_1482, q_1483, q_1484, q_105, q_1485, ⟨rfl, by decide, by decide, by decide +kernel⟩⟩
theorem cw_RL_100 : CWV RL 100 RX10 yX10_letsGo cX10_letsGo 2 (some .int) 1 := ⟨q_777, q_778, q_779, q_94, q_780, ⟨rfl, by decide, by decide, by decide +kernel⟩⟩
theorem cw_RL_103 : CWV RL 103 RX11 yX11_letsGo cX11_letsGo 2 (some .int) 1 := ⟨q_1498, q_1499, q_1500, q_105, q_1501, ⟨rfl, by decide, by decide, by decide +kernel⟩⟩
theorem cw_RL_107 : CWV RL 107 RX11 yX11_held cX11_held 5 (some .int) 2 := ⟨q_1502, q_1503, q_1504, q_105, q_1505, ⟨rfl, by decide, by decide, by decide +kernel⟩⟩
theorem cw_RL_108 : CWV RL 108 RX10 yX10_mostThen cX10_mostThen 5 (some .int) 3 := ⟨q_786, q_787, q_788, q_94, q_789, ⟨rfl, by decide, by decide, by decide +kernel⟩⟩
theorem cw_RL_111 : CWV RL 111 RX11 yX11_mostThen cX11_mostThen 5 (some .int) 3 := ⟨q_1506, q_1507, q_1508, q_105, q_1509, ⟨rfl, by decide, by decide, by decide +kernel⟩⟩
theorem cw_RL_112 : CWV RL 112 RX10 yX10_batch cX10_batch 4 (some .int) 0 := ⟨q_790, q_791, q_792, q_94, q_793, ⟨rfl, by decide, by decide, by decide +kernel⟩⟩
theorem cw_RL_115 : CWV RL 115 RX11 yX11_batch cX11_batch 5 (some .int) 0 := ⟨q_1442, q_1443, q_1444, q_105, q_1445, ⟨rfl, by decide, by decide, by decide +kernel⟩⟩
theorem cw_RL_116 : CWV RL 116 RX10 yX10_orders cX10_orders 3 (some .int) 0 := ⟨q_804, q_805, q_806, q_94, q_807, ⟨rfl, by decide, by decide, by decide +kernel⟩⟩
theorem cw_RL_119 : CWV RL 119 RX11 yX11_orders cX11_orders 3 (some .int) 0 := ⟨q_1458, q_1459, q_1460, q_105, q_1461, ⟨rfl, by decide, by decide, by decide +kernel⟩⟩
theorem cw_RL_120 : CWV RL 120 RX10 yX10_settles cX10_settles 1 (some .int) 0 := ⟨q_818, q_819, q_820, q_94, q_821, ⟨rfl, by decide, by decide, by decide +kernel⟩⟩
theorem cw_RL_123 : CWV RL 123 RX11 yX11_settles cX11_settles 3 (some .int) 0 := ⟨q_1466, q_1467, q_1468, q_105, q_1469, ⟨rfl, by decide, by decide, by decide +kernel⟩⟩
theorem cw_RL_124 : CWV RL 124 RX10 yX10_raise cX10_raise 10 (some .int) 3 := ⟨q_826, q_827, q_828, q_94, q_829, ⟨rfl, by decide, by decide, by decide +kernel⟩⟩
theorem cw_RL_127 : CWV RL 127 RX11 yX11_raise cX11_raise 9 (some .int) 3 := ⟨q_1546, q_1547, q_1548, q_105, q_1549, ⟨rfl, by decide, by decide, by decide +kernel⟩⟩
theorem cw_RL_128 : CWV RL 128 RX10 yX10_fails cX10_fails 2 (some .int) 1 := ⟨q_838, q_839, q_840, q_94, q_841, ⟨rfl, by decide, by decide, by decide +kernel⟩⟩
theorem cw_RL_131 : CWV RL 131 RX11 yX11_fails cX11_fails 3 (some .int) 1 := ⟨q_1518, q_1519, q_1520, q_105, q_1521, ⟨rfl, by decide, by decide, by decide +kernel⟩⟩
theorem cw_RL_132 : CWV RL 132 RX10 yX10_worst cX10_worst 5 (some .int) 0 := ⟨q_853, q_854, q_855, q_94, q_856, ⟨rfl, by decide, by decide, by decide +kernel⟩⟩
theorem cw_RL_135 : CWV RL 135 RX11 yX11_worst cX11_worst 5 (some .int) 0 := ⟨q_1538, q_1539, q_1540, q_105, q_1541, ⟨rfl, by decide, by decide, by decide +kernel⟩⟩
theorem cw_RL_136 : CWV RL 136 RX10 yX10_enough cX10_enough 5 (some .int) 1 := ⟨q_857, q_858, q_859, q_94, q_860, ⟨rfl, by decide, by decide, by decide +kernel⟩⟩
theorem cw_RL_139 : CWV RL 139 RX11 yX11_enough cX11_enough 4 (some .int) 1 := ⟨q_1542, q_1543, q_1544, q_105, q_1545, ⟨rfl, by decide, by decide, by decide +kernel⟩⟩
theorem cw_RL_140 : CWV RL 140 RX10 yX10_without cX10_without 6 (some .int) 3 := ⟨q_867, q_868, q_869, q_94, q_870, ⟨rfl, by decide, by decide, by decide +kernel⟩⟩
theorem cw_RL_143 : CWV RL 143 RX11 yX11_without cX11_without 5 (some .int) 3 := ⟨q_1554, q_1555, q_1556, q_105, q_1557, ⟨rfl, by decide, by decide, by decide +kernel⟩⟩
theorem cw_RL_144 : CWV RL 144 RX10 yX10_key cX10_key 7 (some .int) 2 := ⟨q_879, q_880, q_881, q_94, q_882, ⟨rfl, by decide, by decide, by decide +kernel⟩⟩
theorem cw_RL_147 : CWV RL 147 RX11 yX11_key cX11_key 7 (some .int) 2 := ⟨q_1562, q_1563, q_1564, q_105, q_1565, ⟨rfl, by decide, by decide, by decide +kernel⟩⟩
theorem cw_RL_148 : CWV RL 148 RX10 yX10_were cX10_were 6 (some .int) 5 := ⟨q_883, q_884, q_885, q_94, q_886, ⟨rfl, by decide, by decide, by decide +kernel⟩⟩
theorem cw_RL_151 : CWV RL 151 RX11 yX11_were cX11_were 8 (some .int) 5 := ⟨q_1566, q_1567, q_1568, q_105, q_1569, ⟨rfl, by decide, by decide, by decide +kernel⟩⟩
theorem cw_RL_152 : CWV RL 152 RX10 yX10_both cX10_both 9 (some .int) 6 := ⟨q_890, q_891, q_892, q_94, q_893, ⟨rfl, by decide, by decide, by decide +kernel⟩⟩
theorem cw_RL_156 : CWV RL 156 RX11 yX11_both cX11_both 9 (some .int) 6 := ⟨q_1570, q_1571, q_1572, q_105, q_1573, ⟨rfl, by decide, by decide, by decide +kernel⟩⟩
theorem cw_RL_157 : CWV RL 157 RX10 yX10_limits cX10_limits 4 (some .int) 3 := ⟨q_894, q_895, q_896, q_94, q_897, ⟨rfl, by decide, by decide, by decide +kernel⟩⟩
theorem cw_RL_160 : CWV RL 160 RX11 yX11_limits cX11_limits 6 (some .int) 3 := ⟨q_1574, q_1575, q_1576, q_105, q_1577, ⟨rfl, by decide, by decide, by decide +kernel⟩⟩
theorem cw_RL_161 : CWV RL 161 RX10 yX10_stocks cX10_stocks 3 (some .int) 2 := ⟨q_902, q_903, q_904, q_94, q_905, ⟨rfl, by decide, by decide, by decide +kernel⟩⟩
theorem cw_RL_164 : CWV RL 164 RX11 yX11_stocks cX11_stocks 5 (some .int) 2 := ⟨q_1510, q_1511, q_1512, q_105, q_1513, ⟨rfl, by decide, by decide, by decide +kernel⟩⟩
theorem cw_RL_165 : CWV RL 165 RX10 yX10_lets cX10_lets 4 (some .int) 3 := ⟨q_910, q_911, q_912, q_94, q_913, ⟨rfl, by decide, by decide, by decide +kernel⟩⟩
theorem cw_RL_168 : CWV RL 168 RX11 yX11_lets cX11_lets 5 (some .int) 3 := ⟨q_1582, q_1583, q_1584, q_105, q_1585, ⟨rfl, by decide, by decide, by decide +kernel⟩⟩
theorem cw_RL_169 : CWV RL 169 RX10 yX10_leaves cX10_leaves 3 (some .int) 1 := ⟨q_919, q_920, q_921, q_94, q_922, ⟨rfl, by decide, by decide, by decide +kernel⟩⟩
theorem cw_RL_172 : CWV RL 172 RX11 yX11_leaves cX11_leaves 4 (some .int) 1 := ⟨q_1590, q_1591, q_1592, q_105, q_1593, ⟨rfl, by decide, by decide, by decide +kernel⟩⟩
theorem cw_RL_173 : CWV RL 173 RX10 yX10_day cX10_day 3 (some .int) 0 := ⟨q_931, q_932, q_933, q_94, q_934, ⟨rfl, by decide, by decide, by decide +kernel⟩⟩
theorem cw_RL_176 : CWV RL 176 RX11 yX11_day cX11_day 3 (some .int) 0 := ⟨q_1594, q_1595, q_1596, q_105, q_1597, ⟨rfl, by decide, by decide, by decide +kernel⟩⟩
theorem cw_RL_177 : CWV RL 177 RX10 yX10_undo cX10_undo 1 (some .int) 0 := ⟨q_950, q_951, q_952, q_94, q_953, ⟨rfl, by decide, by decide, by decide +kernel⟩⟩
theorem cw_RL_180 : CWV RL 180 RX11 yX11_undo cX11_undo 2 (some .int) 0 := ⟨q_1689, q_1690, q_1691, q_105, q_1692, ⟨rfl, by decide, by decide, by decide +kernel⟩⟩
theorem cw_RL_181 : CWV RL 181 RX10 yX10_years cX10_years 9 (some .int) 2 := ⟨q_958, q_959, q_960, q_94, q_961, ⟨rfl, by decide, by decide, by decide +kernel⟩⟩
theorem cw_RL_184 : CWV RL 184 RX11 yX11_years cX11_years 8 (some .int) 2 := ⟨q_1693, q_1694, q_1695, q_105, q_1696, ⟨rfl, by decide, by decide, by decide +kernel⟩⟩
theorem cw_RL_185 : CWV RL 185 RX10 yX10_keep cX10_keep 2 (some .boolean) 1 := ⟨q_974, q_975, q_976, q_94, q_977, ⟨rfl, by decide, by decide, by decide +kernel⟩⟩
theorem cw_RL_188 : CWV RL 188 RX11 yX11_keep cX11_keep 3 (some .boolean) 1 := ⟨q_1702, q_1703, q_1704, q_105, q_1705, ⟨rfl, by decide, by decide, by decide +kernel⟩⟩
theorem cw_RL_189 : CWV RL 189 RX10 yX10_again cX10_again 2 (some .boolean) 1 := ⟨q_978, q_979, q_980, q_94, q_981, ⟨rfl, by decide, by decide, by decide +kernel⟩⟩
theorem cw_RL_192 : CWV RL 192 RX11 yX11_again cX11_again 3 (some .boolean) 1 := ⟨q_1706, q_1707, q_1708, q_105, q_1709, ⟨rfl, by decide, by decide, by decide +kernel⟩⟩
theorem cw_RL_193 : CWV RL 193 RX10 yX10_count cX10_count 2 (some .int) 1 := ⟨q_986, q_987, q_988, q_94, q_989, ⟨rfl, by decide, by decide, by decide +kernel⟩⟩
theorem cw_RL_196 : CWV RL 196 RX11 yX11_count cX11_count 2 (some .int) 1 := ⟨q_1710, q_1711, q_1712, q_105, q_1713, ⟨rfl, by decide, by decide, by decide +kernel⟩⟩
theorem cw_RL_199 : CWV RL 199 RX11 yX11_row cX11_row 2 (some .long) 1 := ⟨q_1726, q_1727, q_1728, q_105, q_1729, ⟨rfl, by decide, by decide, by decide +kernel⟩⟩
theorem qh_net : Cond.codeWith yL_net cL_net 4 (some .int) [(0, 9, 12, 13)] ∈ gtw := gtw_in (List.mem_of_getElem? (i := 1005) (by decide +kernel)) (by decide +kernel)
theorem cwh_net : CWH RL 50 yL_net cL_net 4 (some .int) [(0, 9, 12, 13)] 3 := ⟨q_1003, q_1004, q_93, qh_net, ⟨by decide, by decide, by decide +kernel⟩⟩
theorem qh_held : Cond.codeWith yL_held cL_held 5 (some .int) [(0, 10, 13, 13)] ∈ gtw := gtw_in (List.mem_of_getElem? (i := 1079) (by decide +kernel)) (by decide +kernel)
theorem cwh_held : CWH RL 104 yL_held cL_held 5 (some .int) [(0, 10, 13, 13)] 4 := ⟨q_1077, q_1078, q_93, qh_held, ⟨by decide, by decide, by decide +kernel⟩⟩
theorem qh_row : Cond.codeWith yL_row cL_row 4 (some .int) [(0, 8, 11, 13)] ∈ gtw := gtw_in (List.mem_of_getElem? (i := 1091) (by decide +kernel)) (by decide +kernel)
theorem cwh_row : CWH RL 197 yL_row cL_row 4 (some .int) [(0, 8, 11, 13)] 3 := ⟨q_1089, q_1090, q_93, qh_row, ⟨by decide, by decide, by decide +kernel⟩⟩
