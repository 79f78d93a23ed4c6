/-! the law's class: its pool, its places, its methods that catch (by program) -/
theorem wl_in {w : Cond} {i : Nat} (h : lw_tbl[i]? = some w) (hg : goodWord w = true) : w ∈ ra_Tg := gm_in h hg
theorem w_78 : Cond.initialized RL ∈ ra_Tg := gm_in (i := 78) (by decide +kernel) (by decide +kernel)
theorem w_79 : Cond.initialized RX11 ∈ ra_Tg := gm_in (i := 79) (by decide +kernel) (by decide +kernel)
theorem w_101 : Cond.initialized "java/lang/IllegalArgumentException" ∈ ra_Tg := gm_in (i := 101) (by decide +kernel) (by decide +kernel)
theorem w_102 : Cond.initialized "java/lang/UnsupportedOperationException" ∈ ra_Tg := gm_in (i := 102) (by decide +kernel) (by decide +kernel)
theorem w_106 : Cond.initialized "java/lang/IllegalStateException" ∈ ra_Tg := gm_in (i := 106) (by decide +kernel) (by decide +kernel)
theorem w_107 : Cond.initialized "java/lang/IndexOutOfBoundsException" ∈ ra_Tg := gm_in (i := 107) (by decide +kernel) (by decide +kernel)
theorem w_108 : Cond.initialized "java/util/NoSuchElementException" ∈ ra_Tg := gm_in (i := 108) (by decide +kernel) (by decide +kernel)
theorem w_109 : Cond.classLink RL 8 RX11 ∈ ra_Tg := gm_in (i := 109) (by decide +kernel) (by decide +kernel)
theorem w_110 : Cond.instantiable RX11 7 ∈ ra_Tg := gm_in (i := 110) (by decide +kernel) (by decide +kernel)
theorem w_111 : Cond.methodLink RL 36 yX11_init ∈ ra_Tg := gm_in (i := 111) (by decide +kernel) (by decide +kernel)
theorem w_112 : Cond.instanceMethod yX11_init ∈ ra_Tg := gm_in (i := 112) (by decide +kernel) (by decide +kernel)
theorem w_344 : Cond.methodLink RL 42 yX11_write ∈ ra_Tg := gm_in (i := 344) (by decide +kernel) (by decide +kernel)
theorem w_345 : Cond.instanceMethod yX11_write ∈ ra_Tg := gm_in (i := 345) (by decide +kernel) (by decide +kernel)
theorem w_346 : Cond.selects RX11 yX11_write yX11_write ∈ ra_Tg := gm_in (i := 346) (by decide +kernel) (by decide +kernel)
theorem w_348 : Cond.methodLink RL 47 yX11_wipe ∈ ra_Tg := gm_in (i := 348) (by decide +kernel) (by decide +kernel)
theorem w_349 : Cond.instanceMethod yX11_wipe ∈ ra_Tg := gm_in (i := 349) (by decide +kernel) (by decide +kernel)
theorem w_350 : Cond.selects RX11 yX11_wipe yX11_wipe ∈ ra_Tg := gm_in (i := 350) (by decide +kernel) (by decide +kernel)
theorem w_352 : Cond.methodLink RL 60 yX11_fault ∈ ra_Tg := gm_in (i := 352) (by decide +kernel) (by decide +kernel)
theorem w_353 : Cond.instanceMethod yX11_fault ∈ ra_Tg := gm_in (i := 353) (by decide +kernel) (by decide +kernel)
theorem w_354 : Cond.selects RX11 yX11_fault yX11_fault ∈ ra_Tg := gm_in (i := 354) (by decide +kernel) (by decide +kernel)
theorem w_356 : Cond.methodLink RL 65 yX11_many ∈ ra_Tg := gm_in (i := 356) (by decide +kernel) (by decide +kernel)
theorem w_357 : Cond.instanceMethod yX11_many ∈ ra_Tg := gm_in (i := 357) (by decide +kernel) (by decide +kernel)
theorem w_358 : Cond.selects RX11 yX11_many yX11_many ∈ ra_Tg := gm_in (i := 358) (by decide +kernel) (by decide +kernel)
theorem w_360 : Cond.methodLink RL 69 yX11_facts ∈ ra_Tg := gm_in (i := 360) (by decide +kernel) (by decide +kernel)
theorem w_361 : Cond.instanceMethod yX11_facts ∈ ra_Tg := gm_in (i := 361) (by decide +kernel) (by decide +kernel)
theorem w_362 : Cond.selects RX11 yX11_facts yX11_facts ∈ ra_Tg := gm_in (i := 362) (by decide +kernel) (by decide +kernel)
theorem w_464 : Cond.methodLink RL 74 yX11_moves ∈ ra_Tg := gm_in (i := 464) (by decide +kernel) (by decide +kernel)
theorem w_465 : Cond.instanceMethod yX11_moves ∈ ra_Tg := gm_in (i := 465) (by decide +kernel) (by decide +kernel)
theorem w_466 : Cond.selects RX11 yX11_moves yX11_moves ∈ ra_Tg := gm_in (i := 466) (by decide +kernel) (by decide +kernel)
theorem w_477 : Cond.methodLink RL 78 yX11_over ∈ ra_Tg := gm_in (i := 477) (by decide +kernel) (by decide +kernel)
theorem w_478 : Cond.instanceMethod yX11_over ∈ ra_Tg := gm_in (i := 478) (by decide +kernel) (by decide +kernel)
theorem w_479 : Cond.selects RX11 yX11_over yX11_over ∈ ra_Tg := gm_in (i := 479) (by decide +kernel) (by decide +kernel)
theorem w_481 : Cond.methodLink RL 82 yX11_goal ∈ ra_Tg := gm_in (i := 481) (by decide +kernel) (by decide +kernel)
theorem w_482 : Cond.instanceMethod yX11_goal ∈ ra_Tg := gm_in (i := 482) (by decide +kernel) (by decide +kernel)
theorem w_483 : Cond.selects RX11 yX11_goal yX11_goal ∈ ra_Tg := gm_in (i := 483) (by decide +kernel) (by decide +kernel)
theorem w_494 : Cond.methodLink RL 86 yX11_letter ∈ ra_Tg := gm_in (i := 494) (by decide +kernel) (by decide +kernel)
theorem w_495 : Cond.instanceMethod yX11_letter ∈ ra_Tg := gm_in (i := 495) (by decide +kernel) (by decide +kernel)
theorem w_496 : Cond.selects RX11 yX11_letter yX11_letter ∈ ra_Tg := gm_in (i := 496) (by decide +kernel) (by decide +kernel)
theorem w_502 : Cond.methodLink RL 95 yX11_restart ∈ ra_Tg := gm_in (i := 502) (by decide +kernel) (by decide +kernel)
theorem w_503 : Cond.instanceMethod yX11_restart ∈ ra_Tg := gm_in (i := 503) (by decide +kernel) (by decide +kernel)
theorem w_504 : Cond.selects RX11 yX11_restart yX11_restart ∈ ra_Tg := gm_in (i := 504) (by decide +kernel) (by decide +kernel)
theorem w_597 : Cond.methodLink RL 51 yL_load ∈ ra_Tg := gm_in (i := 597) (by decide +kernel) (by decide +kernel)
theorem w_598 : Cond.static yL_load ∈ ra_Tg := gm_in (i := 598) (by decide +kernel) (by decide +kernel)
theorem w_599 : Cond.codeWith yL_load cL_load 3 (some .int) [(0, 8, 11, 13), (0, 8, 14, 15), (0, 8, 17, 17)] ∈ ra_Tg := gm_in (i := 599) (by decide +kernel) (by decide +kernel)
theorem w_600 : Cond.classLink RL 13 "java/lang/IllegalArgumentException" ∈ ra_Tg := gm_in (i := 600) (by decide +kernel) (by decide +kernel)
theorem w_601 : Cond.classLink RL 15 "java/lang/UnsupportedOperationException" ∈ ra_Tg := gm_in (i := 601) (by decide +kernel) (by decide +kernel)
theorem w_602 : Cond.classLink RL 17 "java/lang/IllegalStateException" ∈ ra_Tg := gm_in (i := 602) (by decide +kernel) (by decide +kernel)
theorem w_603 : Cond.methodLink RL 7 yX11_load ∈ ra_Tg := gm_in (i := 603) (by decide +kernel) (by decide +kernel)
theorem w_604 : Cond.instanceMethod yX11_load ∈ ra_Tg := gm_in (i := 604) (by decide +kernel) (by decide +kernel)
theorem w_605 : Cond.selects RX11 yX11_load yX11_load ∈ ra_Tg := gm_in (i := 605) (by decide +kernel) (by decide +kernel)
theorem w_767 : Cond.classLink RX11 52 "java/lang/IllegalArgumentException" ∈ ra_Tg := gm_in (i := 767) (by decide +kernel) (by decide +kernel)
theorem w_882 : Cond.classLink RX11 64 "java/lang/UnsupportedOperationException" ∈ ra_Tg := gm_in (i := 882) (by decide +kernel) (by decide +kernel)
theorem w_979 : Cond.classLink RX11 76 "java/lang/IllegalStateException" ∈ ra_Tg := gm_in (i := 979) (by decide +kernel) (by decide +kernel)
theorem w_998 : Cond.methodLink RL 91 yL_play ∈ ra_Tg := gm_in (i := 998) (by decide +kernel) (by decide +kernel)
theorem w_999 : Cond.static yL_play ∈ ra_Tg := gm_in (i := 999) (by decide +kernel) (by decide +kernel)
theorem w_1000 : Cond.codeWith yL_play cL_play 5 (some .int) [(0, 10, 13, 17), (0, 10, 17, 23)] ∈ ra_Tg := gm_in (i := 1000) (by decide +kernel) (by decide +kernel)
theorem w_1001 : Cond.classLink RL 23 "java/lang/IndexOutOfBoundsException" ∈ ra_Tg := gm_in (i := 1001) (by decide +kernel) (by decide +kernel)
theorem w_1002 : Cond.methodLink RL 19 yX11_play ∈ ra_Tg := gm_in (i := 1002) (by decide +kernel) (by decide +kernel)
theorem w_1003 : Cond.instanceMethod yX11_play ∈ ra_Tg := gm_in (i := 1003) (by decide +kernel) (by decide +kernel)
theorem w_1004 : Cond.selects RX11 yX11_play yX11_play ∈ ra_Tg := gm_in (i := 1004) (by decide +kernel) (by decide +kernel)
theorem w_1006 : Cond.classLink RX11 148 "java/lang/IndexOutOfBoundsException" ∈ ra_Tg := gm_in (i := 1006) (by decide +kernel) (by decide +kernel)
theorem w_1033 : Cond.methodLink RL 100 yL_audit ∈ ra_Tg := gm_in (i := 1033) (by decide +kernel) (by decide +kernel)
theorem w_1034 : Cond.static yL_audit ∈ ra_Tg := gm_in (i := 1034) (by decide +kernel) (by decide +kernel)
theorem w_1035 : Cond.codeWith yL_audit cL_audit 3 (some .int) [(0, 8, 11, 17)] ∈ ra_Tg := gm_in (i := 1035) (by decide +kernel) (by decide +kernel)
theorem w_1036 : Cond.methodLink RL 25 yX11_audit ∈ ra_Tg := gm_in (i := 1036) (by decide +kernel) (by decide +kernel)
theorem w_1037 : Cond.instanceMethod yX11_audit ∈ ra_Tg := gm_in (i := 1037) (by decide +kernel) (by decide +kernel)
theorem w_1038 : Cond.selects RX11 yX11_audit yX11_audit ∈ ra_Tg := gm_in (i := 1038) (by decide +kernel) (by decide +kernel)
theorem w_1075 : Cond.methodLink RL 103 yL_worth ∈ ra_Tg := gm_in (i := 1075) (by decide +kernel) (by decide +kernel)
theorem w_1076 : Cond.static yL_worth ∈ ra_Tg := gm_in (i := 1076) (by decide +kernel) (by decide +kernel)
theorem w_1077 : Cond.codeWith yL_worth cL_worth 3 (some .int) [(0, 8, 11, 17), (0, 8, 14, 15)] ∈ ra_Tg := gm_in (i := 1077) (by decide +kernel) (by decide +kernel)
theorem w_1078 : Cond.methodLink RL 28 yX11_worth ∈ ra_Tg := gm_in (i := 1078) (by decide +kernel) (by decide +kernel)
theorem w_1079 : Cond.instanceMethod yX11_worth ∈ ra_Tg := gm_in (i := 1079) (by decide +kernel) (by decide +kernel)
theorem w_1080 : Cond.selects RX11 yX11_worth yX11_worth ∈ ra_Tg := gm_in (i := 1080) (by decide +kernel) (by decide +kernel)
theorem w_1086 : Cond.methodLink RL 106 yL_best ∈ ra_Tg := gm_in (i := 1086) (by decide +kernel) (by decide +kernel)
theorem w_1087 : Cond.static yL_best ∈ ra_Tg := gm_in (i := 1087) (by decide +kernel) (by decide +kernel)
theorem w_1088 : Cond.codeWith yL_best cL_best 3 (some .int) [(0, 8, 11, 17), (0, 8, 14, 15), (0, 8, 17, 34)] ∈ ra_Tg := gm_in (i := 1088) (by decide +kernel) (by decide +kernel)
theorem w_1089 : Cond.classLink RL 34 "java/util/NoSuchElementException" ∈ ra_Tg := gm_in (i := 1089) (by decide +kernel) (by decide +kernel)
theorem w_1090 : Cond.methodLink RL 31 yX11_best ∈ ra_Tg := gm_in (i := 1090) (by decide +kernel) (by decide +kernel)
theorem w_1091 : Cond.instanceMethod yX11_best ∈ ra_Tg := gm_in (i := 1091) (by decide +kernel) (by decide +kernel)
theorem w_1092 : Cond.selects RX11 yX11_best yX11_best ∈ ra_Tg := gm_in (i := 1092) (by decide +kernel) (by decide +kernel)
theorem w_1094 : Cond.classLink RX11 166 "java/util/NoSuchElementException" ∈ ra_Tg := gm_in (i := 1094) (by decide +kernel) (by decide +kernel)
theorem w_1113 : Cond.classLink RL 37 RX12 ∈ ra_Tg := gm_in (i := 1113) (by decide +kernel) (by decide +kernel)
theorem w_1114 : Cond.instantiable RX12 50 ∈ ra_Tg := gm_in (i := 1114) (by decide +kernel) (by decide +kernel)
theorem w_1115 : Cond.methodLink RL 39 yX12_init ∈ ra_Tg := gm_in (i := 1115) (by decide +kernel) (by decide +kernel)
theorem w_1116 : Cond.instanceMethod yX12_init ∈ ra_Tg := gm_in (i := 1116) (by decide +kernel) (by decide +kernel)
theorem w_1270 : Cond.methodLink RL 57 yX12_thrown ∈ ra_Tg := gm_in (i := 1270) (by decide +kernel) (by decide +kernel)
theorem w_1271 : Cond.instanceMethod yX12_thrown ∈ ra_Tg := gm_in (i := 1271) (by decide +kernel) (by decide +kernel)
theorem w_1272 : Cond.selects RX12 yX12_thrown yX12_thrown ∈ ra_Tg := gm_in (i := 1272) (by decide +kernel) (by decide +kernel)
theorem w_1274 : Cond.methodLink RL 46 yX12_write ∈ ra_Tg := gm_in (i := 1274) (by decide +kernel) (by decide +kernel)
theorem w_1275 : Cond.instanceMethod yX12_write ∈ ra_Tg := gm_in (i := 1275) (by decide +kernel) (by decide +kernel)
theorem w_1276 : Cond.selects RX12 yX12_write yX12_write ∈ ra_Tg := gm_in (i := 1276) (by decide +kernel) (by decide +kernel)
theorem w_1279 : Cond.methodLink RL 50 yX12_wipe ∈ ra_Tg := gm_in (i := 1279) (by decide +kernel) (by decide +kernel)
theorem w_1280 : Cond.instanceMethod yX12_wipe ∈ ra_Tg := gm_in (i := 1280) (by decide +kernel) (by decide +kernel)
theorem w_1281 : Cond.selects RX12 yX12_wipe yX12_wipe ∈ ra_Tg := gm_in (i := 1281) (by decide +kernel) (by decide +kernel)
theorem w_1283 : Cond.methodLink RL 56 yX12_load ∈ ra_Tg := gm_in (i := 1283) (by decide +kernel) (by decide +kernel)
theorem w_1284 : Cond.instanceMethod yX12_load ∈ ra_Tg := gm_in (i := 1284) (by decide +kernel) (by decide +kernel)
theorem w_1285 : Cond.selects RX12 yX12_load yX12_load ∈ ra_Tg := gm_in (i := 1285) (by decide +kernel) (by decide +kernel)
theorem w_1459 : Cond.methodLink RL 64 yX12_fault ∈ ra_Tg := gm_in (i := 1459) (by decide +kernel) (by decide +kernel)
theorem w_1460 : Cond.instanceMethod yX12_fault ∈ ra_Tg := gm_in (i := 1460) (by decide +kernel) (by decide +kernel)
theorem w_1461 : Cond.selects RX12 yX12_fault yX12_fault ∈ ra_Tg := gm_in (i := 1461) (by decide +kernel) (by decide +kernel)
theorem w_1463 : Cond.methodLink RL 68 yX12_many ∈ ra_Tg := gm_in (i := 1463) (by decide +kernel) (by decide +kernel)
theorem w_1464 : Cond.instanceMethod yX12_many ∈ ra_Tg := gm_in (i := 1464) (by decide +kernel) (by decide +kernel)
theorem w_1465 : Cond.selects RX12 yX12_many yX12_many ∈ ra_Tg := gm_in (i := 1465) (by decide +kernel) (by decide +kernel)
theorem w_1467 : Cond.methodLink RL 73 yX12_facts ∈ ra_Tg := gm_in (i := 1467) (by decide +kernel) (by decide +kernel)
theorem w_1468 : Cond.instanceMethod yX12_facts ∈ ra_Tg := gm_in (i := 1468) (by decide +kernel) (by decide +kernel)
theorem w_1469 : Cond.selects RX12 yX12_facts yX12_facts ∈ ra_Tg := gm_in (i := 1469) (by decide +kernel) (by decide +kernel)
theorem w_1471 : Cond.methodLink RL 77 yX12_moves ∈ ra_Tg := gm_in (i := 1471) (by decide +kernel) (by decide +kernel)
theorem w_1472 : Cond.instanceMethod yX12_moves ∈ ra_Tg := gm_in (i := 1472) (by decide +kernel) (by decide +kernel)
theorem w_1473 : Cond.selects RX12 yX12_moves yX12_moves ∈ ra_Tg := gm_in (i := 1473) (by decide +kernel) (by decide +kernel)
theorem w_1483 : Cond.methodLink RL 81 yX12_over ∈ ra_Tg := gm_in (i := 1483) (by decide +kernel) (by decide +kernel)
theorem w_1484 : Cond.instanceMethod yX12_over ∈ ra_Tg := gm_in (i := 1484) (by decide +kernel) (by decide +kernel)
theorem w_1485 : Cond.selects RX12 yX12_over yX12_over ∈ ra_Tg := gm_in (i := 1485) (by decide +kernel) (by decide +kernel)
theorem w_1491 : Cond.methodLink RL 85 yX12_goal ∈ ra_Tg := gm_in (i := 1491) (by decide +kernel) (by decide +kernel)
theorem w_1492 : Cond.instanceMethod yX12_goal ∈ ra_Tg := gm_in (i := 1492) (by decide +kernel) (by decide +kernel)
theorem w_1493 : Cond.selects RX12 yX12_goal yX12_goal ∈ ra_Tg := gm_in (i := 1493) (by decide +kernel) (by decide +kernel)
theorem w_1499 : Cond.methodLink RL 90 yX12_letter ∈ ra_Tg := gm_in (i := 1499) (by decide +kernel) (by decide +kernel)
theorem w_1500 : Cond.instanceMethod yX12_letter ∈ ra_Tg := gm_in (i := 1500) (by decide +kernel) (by decide +kernel)
theorem w_1501 : Cond.selects RX12 yX12_letter yX12_letter ∈ ra_Tg := gm_in (i := 1501) (by decide +kernel) (by decide +kernel)
theorem w_1503 : Cond.methodLink RL 94 yX12_play ∈ ra_Tg := gm_in (i := 1503) (by decide +kernel) (by decide +kernel)
theorem w_1504 : Cond.instanceMethod yX12_play ∈ ra_Tg := gm_in (i := 1504) (by decide +kernel) (by decide +kernel)
theorem w_1505 : Cond.selects RX12 yX12_play yX12_play ∈ ra_Tg := gm_in (i := 1505) (by decide +kernel) (by decide +kernel)
theorem w_1515 : Cond.methodLink RL 99 yX12_restart ∈ ra_Tg := gm_in (i := 1515) (by decide +kernel) (by decide +kernel)
theorem w_1516 : Cond.instanceMethod yX12_restart ∈ ra_Tg := gm_in (i := 1516) (by decide +kernel) (by decide +kernel)
theorem w_1517 : Cond.selects RX12 yX12_restart yX12_restart ∈ ra_Tg := gm_in (i := 1517) (by decide +kernel) (by decide +kernel)
theorem w_1519 : Cond.methodLink RL 102 yX12_audit ∈ ra_Tg := gm_in (i := 1519) (by decide +kernel) (by decide +kernel)
theorem w_1520 : Cond.instanceMethod yX12_audit ∈ ra_Tg := gm_in (i := 1520) (by decide +kernel) (by decide +kernel)
theorem w_1521 : Cond.selects RX12 yX12_audit yX12_audit ∈ ra_Tg := gm_in (i := 1521) (by decide +kernel) (by decide +kernel)
theorem w_1543 : Cond.methodLink RL 105 yX12_worth ∈ ra_Tg := gm_in (i := 1543) (by decide +kernel) (by decide +kernel)
theorem w_1544 : Cond.instanceMethod yX12_worth ∈ ra_Tg := gm_in (i := 1544) (by decide +kernel) (by decide +kernel)
theorem w_1545 : Cond.selects RX12 yX12_worth yX12_worth ∈ ra_Tg := gm_in (i := 1545) (by decide +kernel) (by decide +kernel)
theorem w_1551 : Cond.methodLink RL 108 yX12_best ∈ ra_Tg := gm_in (i := 1551) (by decide +kernel) (by decide +kernel)
theorem w_1552 : Cond.instanceMethod yX12_best ∈ ra_Tg := gm_in (i := 1552) (by decide +kernel) (by decide +kernel)
theorem w_1553 : Cond.selects RX12 yX12_best yX12_best ∈ ra_Tg := gm_in (i := 1553) (by decide +kernel) (by decide +kernel)
theorem w_1555 : Cond.constantLong RL 40 (4294967295) ∈ ra_Tg := gm_in (i := 1555) (by decide +kernel) (by decide +kernel)
def lkL (init : Bool) (K : Nat → Nat) : List (Nat × gm_L) := [(7, .inr (.inr (.inr (.inl (105, 0, 13))))),
  (8, .inr (.inl (10, [.null, .int 0, .int 0, .int 0, .null, .null, .null]))),
  (19, .inr (.inr (.inr (.inl (113, 2, 13))))),
  (25, .inr (.inr (.inr (.inl (115, 0, 13))))),
  (28, .inr (.inr (.inr (.inl (116, 0, 13))))),
  (31, .inr (.inr (.inr (.inl (117, 0, 13))))),
  (36, .inr (.inr (.inr (.inl (102, 0, 1))))),
  (37, .inr (.inl (11, [.int 0, .null, .int 0, .null, .int 0, .int 0, .int 0, .int 0, .null, .int 0, .int 0, .int 0, .null, .null, .null, .null, .null, .null, .null, .null, .int 0, .null, .null, .int 0, .int 0, .null, .null, .null, .int 0, .null, .int 0, .null, .int 0, .null, .int 0, .null, .int 0, .null, .int 0, .null, .null, .int 0, .int 0, .int 0, .null, .null, .null, .null, .null, .null]))),
  (39, .inr (.inr (.inr (.inl (118, 0, 1))))),
  (40, .inr (.inr (.inr (.inr (1, .long (4294967295)))))),
  (42, .inr (.inr (.inr (.inl (103, 1, 13))))),
  (46, .inr (.inr (.inr (.inl (121, 1, 14))))),
  (47, .inr (.inr (.inr (.inl (104, 0, 13))))),
  (50, .inr (.inr (.inr (.inl (122, 0, 14))))),
  (51, .inr (.inr (.inr (.inl (1000, 2, 0))))),
  (56, .inr (.inr (.inr (.inl (167, 0, 14))))),
  (57, .inr (.inr (.inr (.inl (119, 0, 14))))),
  (60, .inr (.inr (.inr (.inl (106, 1, 13))))),
  (64, .inr (.inr (.inr (.inl (169, 1, 14))))),
  (65, .inr (.inr (.inr (.inl (107, 1, 13))))),
  (68, .inr (.inr (.inr (.inl (174, 1, 14))))),
  (69, .inr (.inr (.inr (.inl (108, 2, 13))))),
  (73, .inr (.inr (.inr (.inl (175, 2, 14))))),
  (74, .inr (.inr (.inr (.inl (109, 1, 13))))),
  (77, .inr (.inr (.inr (.inl (176, 1, 14))))),
  (78, .inr (.inr (.inr (.inl (110, 0, 13))))),
  (81, .inr (.inr (.inr (.inl (177, 0, 14))))),
  (82, .inr (.inr (.inr (.inl (111, 1, 13))))),
  (85, .inr (.inr (.inr (.inl (178, 1, 14))))),
  (86, .inr (.inr (.inr (.inl (112, 3, 13))))),
  (90, .inr (.inr (.inr (.inl (179, 3, 14))))),
  (91, .inr (.inr (.inr (.inl (1001, 4, 0))))),
  (94, .inr (.inr (.inr (.inl (180, 2, 14))))),
  (95, .inr (.inr (.inr (.inl (114, 0, 13))))),
  (99, .inr (.inr (.inr (.inl (181, 0, 14))))),
  (100, .inr (.inr (.inr (.inl (1002, 2, 0))))),
  (102, .inr (.inr (.inr (.inl (187, 0, 14))))),
  (103, .inr (.inr (.inr (.inl (1003, 2, 0))))),
  (105, .inr (.inr (.inr (.inl (189, 0, 14))))),
  (106, .inr (.inr (.inr (.inl (1004, 2, 0))))),
  (108, .inr (.inr (.inr (.inl (190, 0, 14)))))]
theorem lLf_7 (K : Nat → Nat) : gm_P K RL false 7 (.inr (.inr (.inr (.inl (105, 0, 13))))) := Or.inr (Or.inr (Or.inr (Or.inr (Or.inr ⟨by decide, gm_call_mk rfl ⟨⟨w_79, by decide, by decide, by decide +kernel, Or.inl w_603⟩, Or.inr (Or.inr ⟨w_604, 10, RX11, TX11, 7, rfl, rfl, w_605⟩)⟩⟩))))
theorem lLf_8 (K : Nat → Nat) : gm_P K RL false 8 (.inr (.inl (10, [.null, .int 0, .int 0, .int 0, .null, .null, .null]))) := ⟨RX11, TX11, 7, tyX11, rfl, cok_X11, w_109, w_110, w_79, rfl, by decide⟩
theorem lLf_19 (K : Nat → Nat) : gm_P K RL false 19 (.inr (.inr (.inr (.inl (113, 2, 13))))) := Or.inr (Or.inr (Or.inr (Or.inr (Or.inr ⟨by decide, gm_call_mk rfl ⟨⟨w_79, by decide, by decide, by decide +kernel, Or.inl w_1002⟩, Or.inr (Or.inr ⟨w_1003, 10, RX11, TX11, 7, rfl, rfl, w_1004⟩)⟩⟩))))
theorem lLf_25 (K : Nat → Nat) : gm_P K RL false 25 (.inr (.inr (.inr (.inl (115, 0, 13))))) := Or.inr (Or.inr (Or.inr (Or.inr (Or.inr ⟨by decide, gm_call_mk rfl ⟨⟨w_79, by decide, by decide, by decide +kernel, Or.inl w_1036⟩, Or.inr (Or.inr ⟨w_1037, 10, RX11, TX11, 7, rfl, rfl, w_1038⟩)⟩⟩))))
theorem lLf_28 (K : Nat → Nat) : gm_P K RL false 28 (.inr (.inr (.inr (.inl (116, 0, 13))))) := Or.inr (Or.inr (Or.inr (Or.inr (Or.inr ⟨by decide, gm_call_mk rfl ⟨⟨w_79, by decide, by decide, by decide +kernel, Or.inl w_1078⟩, Or.inr (Or.inr ⟨w_1079, 10, RX11, TX11, 7, rfl, rfl, w_1080⟩)⟩⟩))))
theorem lLf_31 (K : Nat → Nat) : gm_P K RL false 31 (.inr (.inr (.inr (.inl (117, 0, 13))))) := Or.inr (Or.inr (Or.inr (Or.inr (Or.inr ⟨by decide, gm_call_mk rfl ⟨⟨w_79, by decide, by decide, by decide +kernel, Or.inl w_1090⟩, Or.inr (Or.inr ⟨w_1091, 10, RX11, TX11, 7, rfl, rfl, w_1092⟩)⟩⟩))))
theorem lLf_36 (K : Nat → Nat) : gm_P K RL false 36 (.inr (.inr (.inr (.inl (102, 0, 1))))) := Or.inr (Or.inr (Or.inr (Or.inr (Or.inr ⟨by decide, gm_call_mk rfl ⟨⟨w_79, by decide, by decide, by decide +kernel, Or.inl w_111⟩, Or.inr (Or.inl ⟨rfl, rfl, w_112⟩)⟩⟩))))
theorem lLf_37 (K : Nat → Nat) : gm_P K RL false 37 (.inr (.inl (11, [.int 0, .null, .int 0, .null, .int 0, .int 0, .int 0, .int 0, .null, .int 0, .int 0, .int 0, .null, .null, .null, .null, .null, .null, .null, .null, .int 0, .null, .null, .int 0, .int 0, .null, .null, .null, .int 0, .null, .int 0, .null, .int 0, .null, .int 0, .null, .int 0, .null, .int 0, .null, .null, .int 0, .int 0, .int 0, .null, .null, .null, .null, .null, .null]))) := ⟨RX12, TX12, 50, tyX12, rfl, cok_X12, w_1113, w_1114, w_86, rfl, by decide⟩
theorem lLf_39 (K : Nat → Nat) : gm_P K RL false 39 (.inr (.inr (.inr (.inl (118, 0, 1))))) := Or.inr (Or.inr (Or.inr (Or.inr (Or.inr ⟨by decide, gm_call_mk rfl ⟨⟨w_86, by decide, by decide, by decide +kernel, Or.inl w_1115⟩, Or.inr (Or.inl ⟨rfl, rfl, w_1116⟩)⟩⟩))))
theorem lLf_40 (K : Nat → Nat) : gm_P K RL false 40 (.inr (.inr (.inr (.inr (1, .long (4294967295)))))) := ⟨_, rfl, w_1555⟩
theorem lLf_42 (K : Nat → Nat) : gm_P K RL false 42 (.inr (.inr (.inr (.inl (103, 1, 13))))) := Or.inr (Or.inr (Or.inr (Or.inr (Or.inr ⟨by decide, gm_call_mk rfl ⟨⟨w_79, by decide, by decide, by decide +kernel, Or.inl w_344⟩, Or.inr (Or.inr ⟨w_345, 10, RX11, TX11, 7, rfl, rfl, w_346⟩)⟩⟩))))
theorem lLf_46 (K : Nat → Nat) : gm_P K RL false 46 (.inr (.inr (.inr (.inl (121, 1, 14))))) := Or.inr (Or.inr (Or.inr (Or.inr (Or.inr ⟨by decide, gm_call_mk rfl ⟨⟨w_86, by decide, by decide, by decide +kernel, Or.inl w_1274⟩, Or.inr (Or.inr ⟨w_1275, 11, RX12, TX12, 50, rfl, rfl, w_1276⟩)⟩⟩))))
theorem lLf_47 (K : Nat → Nat) : gm_P K RL false 47 (.inr (.inr (.inr (.inl (104, 0, 13))))) := Or.inr (Or.inr (Or.inr (Or.inr (Or.inr ⟨by decide, gm_call_mk rfl ⟨⟨w_79, by decide, by decide, by decide +kernel, Or.inl w_348⟩, Or.inr (Or.inr ⟨w_349, 10, RX11, TX11, 7, rfl, rfl, w_350⟩)⟩⟩))))
theorem lLf_50 (K : Nat → Nat) : gm_P K RL false 50 (.inr (.inr (.inr (.inl (122, 0, 14))))) := Or.inr (Or.inr (Or.inr (Or.inr (Or.inr ⟨by decide, gm_call_mk rfl ⟨⟨w_86, by decide, by decide, by decide +kernel, Or.inl w_1279⟩, Or.inr (Or.inr ⟨w_1280, 11, RX12, TX12, 50, rfl, rfl, w_1281⟩)⟩⟩))))
theorem lLf_51 (K : Nat → Nat) : gm_P K RL false 51 (.inr (.inr (.inr (.inl (1000, 2, 0))))) := Or.inr (Or.inr (Or.inr (Or.inr (Or.inr ⟨by decide, fun _ _ _ _ _ _ _ _ h => (nomatch h)⟩))))
theorem lLf_56 (K : Nat → Nat) : gm_P K RL false 56 (.inr (.inr (.inr (.inl (167, 0, 14))))) := Or.inr (Or.inr (Or.inr (Or.inr (Or.inr ⟨by decide, gm_call_mk rfl ⟨⟨w_86, by decide, by decide, by decide +kernel, Or.inl w_1283⟩, Or.inr (Or.inr ⟨w_1284, 11, RX12, TX12, 50, rfl, rfl, w_1285⟩)⟩⟩))))
theorem lLf_57 (K : Nat → Nat) : gm_P K RL false 57 (.inr (.inr (.inr (.inl (119, 0, 14))))) := Or.inr (Or.inr (Or.inr (Or.inr (Or.inr ⟨by decide, gm_call_mk rfl ⟨⟨w_86, by decide, by decide, by decide +kernel, Or.inl w_1270⟩, Or.inr (Or.inr ⟨w_1271, 11, RX12, TX12, 50, rfl, rfl, w_1272⟩)⟩⟩))))
theorem lLf_60 (K : Nat → Nat) : gm_P K RL false 60 (.inr (.inr (.inr (.inl (106, 1, 13))))) := Or.inr (Or.inr (Or.inr (Or.inr (Or.inr ⟨by decide, gm_call_mk rfl ⟨⟨w_79, by decide, by decide, by decide +kernel, Or.inl w_352⟩, Or.inr (Or.inr ⟨w_353, 10, RX11, TX11, 7, rfl, rfl, w_354⟩)⟩⟩))))
theorem lLf_64 (K : Nat → Nat) : gm_P K RL false 64 (.inr (.inr (.inr (.inl (169, 1, 14))))) := Or.inr (Or.inr (Or.inr (Or.inr (Or.inr ⟨by decide, gm_call_mk rfl ⟨⟨w_86, by decide, by decide, by decide +kernel, Or.inl w_1459⟩, Or.inr (Or.inr ⟨w_1460, 11, RX12, TX12, 50, rfl, rfl, w_1461⟩)⟩⟩))))
theorem lLf_65 (K : Nat → Nat) : gm_P K RL false 65 (.inr (.inr (.inr (.inl (107, 1, 13))))) := Or.inr (Or.inr (Or.inr (Or.inr (Or.inr ⟨by decide, gm_call_mk rfl ⟨⟨w_79, by decide, by decide, by decide +kernel, Or.inl w_356⟩, Or.inr (Or.inr ⟨w_357, 10, RX11, TX11, 7, rfl, rfl, w_358⟩)⟩⟩))))
theorem lLf_68 (K : Nat → Nat) : gm_P K RL false 68 (.inr (.inr (.inr (.inl (174, 1, 14))))) := Or.inr (Or.inr (Or.inr (Or.inr (Or.inr ⟨by decide, gm_call_mk rfl ⟨⟨w_86, by decide, by decide, by decide +kernel, Or.inl w_1463⟩, Or.inr (Or.inr ⟨w_1464, 11, RX12, TX12, 50, rfl, rfl, w_1465⟩)⟩⟩))))
theorem lLf_69 (K : Nat → Nat) : gm_P K RL false 69 (.inr (.inr (.inr (.inl (108, 2, 13))))) := Or.inr (Or.inr (Or.inr (Or.inr (Or.inr ⟨by decide, gm_call_mk rfl ⟨⟨w_79, by decide, by decide, by decide +kernel, Or.inl w_360⟩, Or.inr (Or.inr ⟨w_361, 10, RX11, TX11, 7, rfl, rfl, w_362⟩)⟩⟩))))
theorem lLf_73 (K : Nat → Nat) : gm_P K RL false 73 (.inr (.inr (.inr (.inl (175, 2, 14))))) := Or.inr (Or.inr (Or.inr (Or.inr (Or.inr ⟨by decide, gm_call_mk rfl ⟨⟨w_86, by decide, by decide, by decide +kernel, Or.inl w_1467⟩, Or.inr (Or.inr ⟨w_1468, 11, RX12, TX12, 50, rfl, rfl, w_1469⟩)⟩⟩))))
theorem lLf_74 (K : Nat → Nat) : gm_P K RL false 74 (.inr (.inr (.inr (.inl (109, 1, 13))))) := Or.inr (Or.inr (Or.inr (Or.inr (Or.inr ⟨by decide, gm_call_mk rfl ⟨⟨w_79, by decide, by decide, by decide +kernel, Or.inl w_464⟩, Or.inr (Or.inr ⟨w_465, 10, RX11, TX11, 7, rfl, rfl, w_466⟩)⟩⟩))))
theorem lLf_77 (K : Nat → Nat) : gm_P K RL false 77 (.inr (.inr (.inr (.inl (176, 1, 14))))) := Or.inr (Or.inr (Or.inr (Or.inr (Or.inr ⟨by decide, gm_call_mk rfl ⟨⟨w_86, by decide, by decide, by decide +kernel, Or.inl w_1471⟩, Or.inr (Or.inr ⟨w_1472, 11, RX12, TX12, 50, rfl, rfl, w_1473⟩)⟩⟩))))
theorem lLf_78 (K : Nat → Nat) : gm_P K RL false 78 (.inr (.inr (.inr (.inl (110, 0, 13))))) := Or.inr (Or.inr (Or.inr (Or.inr (Or.inr ⟨by decide, gm_call_mk rfl ⟨⟨w_79, by decide, by decide, by decide +kernel, Or.inl w_477⟩, Or.inr (Or.inr ⟨w_478, 10, RX11, TX11, 7, rfl, rfl, w_479⟩)⟩⟩))))
theorem lLf_81 (K : Nat → Nat) : gm_P K RL false 81 (.inr (.inr (.inr (.inl (177, 0, 14))))) := Or.inr (Or.inr (Or.inr (Or.inr (Or.inr ⟨by decide, gm_call_mk rfl ⟨⟨w_86, by decide, by decide, by decide +kernel, Or.inl w_1483⟩, Or.inr (Or.inr ⟨w_1484, 11, RX12, TX12, 50, rfl, rfl, w_1485⟩)⟩⟩))))
theorem lLf_82 (K : Nat → Nat) : gm_P K RL false 82 (.inr (.inr (.inr (.inl (111, 1, 13))))) := Or.inr (Or.inr (Or.inr (Or.inr (Or.inr ⟨by decide, gm_call_mk rfl ⟨⟨w_79, by decide, by decide, by decide +kernel, Or.inl w_481⟩, Or.inr (Or.inr ⟨w_482, 10, RX11, TX11, 7, rfl, rfl, w_483⟩)⟩⟩))))
theorem lLf_85 (K : Nat → Nat) : gm_P K RL false 85 (.inr (.inr (.inr (.inl (178, 1, 14))))) := Or.inr (Or.inr (Or.inr (Or.inr (Or.inr ⟨by decide, gm_call_mk rfl ⟨⟨w_86, by decide, by decide, by decide +kernel, Or.inl w_1491⟩, Or.inr (Or.inr ⟨w_1492, 11, RX12, TX12, 50, rfl, rfl, w_1493⟩)⟩⟩))))
theorem lLf_86 (K : Nat → Nat) : gm_P K RL false 86 (.inr (.inr (.inr (.inl (112, 3, 13))))) := Or.inr (Or.inr (Or.inr (Or.inr (Or.inr ⟨by decide, gm_call_mk rfl ⟨⟨w_79, by decide, by decide, by decide +kernel, Or.inl w_494⟩, Or.inr (Or.inr ⟨w_495, 10, RX11, TX11, 7, rfl, rfl, w_496⟩)⟩⟩))))
theorem lLf_90 (K : Nat → Nat) : gm_P K RL false 90 (.inr (.inr (.inr (.inl (179, 3, 14))))) := Or.inr (Or.inr (Or.inr (Or.inr (Or.inr ⟨by decide, gm_call_mk rfl ⟨⟨w_86, by decide, by decide, by decide +kernel, Or.inl w_1499⟩, Or.inr (Or.inr ⟨w_1500, 11, RX12, TX12, 50, rfl, rfl, w_1501⟩)⟩⟩))))
theorem lLf_91 (K : Nat → Nat) : gm_P K RL false 91 (.inr (.inr (.inr (.inl (1001, 4, 0))))) := Or.inr (Or.inr (Or.inr (Or.inr (Or.inr ⟨by decide, fun _ _ _ _ _ _ _ _ h => (nomatch h)⟩))))
theorem lLf_94 (K : Nat → Nat) : gm_P K RL false 94 (.inr (.inr (.inr (.inl (180, 2, 14))))) := Or.inr (Or.inr (Or.inr (Or.inr (Or.inr ⟨by decide, gm_call_mk rfl ⟨⟨w_86, by decide, by decide, by decide +kernel, Or.inl w_1503⟩, Or.inr (Or.inr ⟨w_1504, 11, RX12, TX12, 50, rfl, rfl, w_1505⟩)⟩⟩))))
theorem lLf_95 (K : Nat → Nat) : gm_P K RL false 95 (.inr (.inr (.inr (.inl (114, 0, 13))))) := Or.inr (Or.inr (Or.inr (Or.inr (Or.inr ⟨by decide, gm_call_mk rfl ⟨⟨w_79, by decide, by decide, by decide +kernel, Or.inl w_502⟩, Or.inr (Or.inr ⟨w_503, 10, RX11, TX11, 7, rfl, rfl, w_504⟩)⟩⟩))))
theorem lLf_99 (K : Nat → Nat) : gm_P K RL false 99 (.inr (.inr (.inr (.inl (181, 0, 14))))) := Or.inr (Or.inr (Or.inr (Or.inr (Or.inr ⟨by decide, gm_call_mk rfl ⟨⟨w_86, by decide, by decide, by decide +kernel, Or.inl w_1515⟩, Or.inr (Or.inr ⟨w_1516, 11, RX12, TX12, 50, rfl, rfl, w_1517⟩)⟩⟩))))
theorem lLf_100 (K : Nat → Nat) : gm_P K RL false 100 (.inr (.inr (.inr (.inl (1002, 2, 0))))) := Or.inr (Or.inr (Or.inr (Or.inr (Or.inr ⟨by decide, fun _ _ _ _ _ _ _ _ h => (nomatch h)⟩))))
theorem lLf_102 (K : Nat → Nat) : gm_P K RL false 102 (.inr (.inr (.inr (.inl (187, 0, 14))))) := Or.inr (Or.inr (Or.inr (Or.inr (Or.inr ⟨by decide, gm_call_mk rfl ⟨⟨w_86, by decide, by decide, by decide +kernel, Or.inl w_1519⟩, Or.inr (Or.inr ⟨w_1520, 11, RX12, TX12, 50, rfl, rfl, w_1521⟩)⟩⟩))))
theorem lLf_103 (K : Nat → Nat) : gm_P K RL false 103 (.inr (.inr (.inr (.inl (1003, 2, 0))))) := Or.inr (Or.inr (Or.inr (Or.inr (Or.inr ⟨by decide, fun _ _ _ _ _ _ _ _ h => (nomatch h)⟩))))
theorem lLf_105 (K : Nat → Nat) : gm_P K RL false 105 (.inr (.inr (.inr (.inl (189, 0, 14))))) := Or.inr (Or.inr (Or.inr (Or.inr (Or.inr ⟨by decide, gm_call_mk rfl ⟨⟨w_86, by decide, by decide, by decide +kernel, Or.inl w_1543⟩, Or.inr (Or.inr ⟨w_1544, 11, RX12, TX12, 50, rfl, rfl, w_1545⟩)⟩⟩))))
theorem lLf_106 (K : Nat → Nat) : gm_P K RL false 106 (.inr (.inr (.inr (.inl (1004, 2, 0))))) := Or.inr (Or.inr (Or.inr (Or.inr (Or.inr ⟨by decide, fun _ _ _ _ _ _ _ _ h => (nomatch h)⟩))))
theorem lLf_108 (K : Nat → Nat) : gm_P K RL false 108 (.inr (.inr (.inr (.inl (190, 0, 14))))) := Or.inr (Or.inr (Or.inr (Or.inr (Or.inr ⟨by decide, gm_call_mk rfl ⟨⟨w_86, by decide, by decide, by decide +kernel, Or.inl w_1551⟩, Or.inr (Or.inr ⟨w_1552, 11, RX12, TX12, 50, rfl, rfl, w_1553⟩)⟩⟩))))
theorem lLf (K : Nat → Nat) : ∀ q ∈ lkL false K, gm_P K RL false q.1 q.2 := List.forall_mem_cons.mpr ⟨lLf_7 K, List.forall_mem_cons.mpr ⟨lLf_8 K, List.forall_mem_cons.mpr ⟨lLf_19 K, List.forall_mem_cons.mpr ⟨lLf_25 K, List.forall_mem_cons.mpr ⟨lLf_28 K, List.forall_mem_cons.mpr ⟨lLf_31 K, List.forall_mem_cons.mpr ⟨lLf_36 K, List.forall_mem_cons.mpr ⟨lLf_37 K, List.forall_mem_cons.mpr ⟨lLf_39 K, List.forall_mem_cons.mpr ⟨lLf_40 K, List.forall_mem_cons.mpr ⟨lLf_42 K, List.forall_mem_cons.mpr ⟨lLf_46 K, List.forall_mem_cons.mpr ⟨lLf_47 K, List.forall_mem_cons.mpr ⟨lLf_50 K, List.forall_mem_cons.mpr ⟨lLf_51 K, List.forall_mem_cons.mpr ⟨lLf_56 K, List.forall_mem_cons.mpr ⟨lLf_57 K, List.forall_mem_cons.mpr ⟨lLf_60 K, List.forall_mem_cons.mpr ⟨lLf_64 K, List.forall_mem_cons.mpr ⟨lLf_65 K, List.forall_mem_cons.mpr ⟨lLf_68 K, List.forall_mem_cons.mpr ⟨lLf_69 K, List.forall_mem_cons.mpr ⟨lLf_73 K, List.forall_mem_cons.mpr ⟨lLf_74 K, List.forall_mem_cons.mpr ⟨lLf_77 K, List.forall_mem_cons.mpr ⟨lLf_78 K, List.forall_mem_cons.mpr ⟨lLf_81 K, List.forall_mem_cons.mpr ⟨lLf_82 K, List.forall_mem_cons.mpr ⟨lLf_85 K, List.forall_mem_cons.mpr ⟨lLf_86 K, List.forall_mem_cons.mpr ⟨lLf_90 K, List.forall_mem_cons.mpr ⟨lLf_91 K, List.forall_mem_cons.mpr ⟨lLf_94 K, List.forall_mem_cons.mpr ⟨lLf_95 K, List.forall_mem_cons.mpr ⟨lLf_99 K, List.forall_mem_cons.mpr ⟨lLf_100 K, List.forall_mem_cons.mpr ⟨lLf_102 K, List.forall_mem_cons.mpr ⟨lLf_103 K, List.forall_mem_cons.mpr ⟨lLf_105 K, List.forall_mem_cons.mpr ⟨lLf_106 K, List.forall_mem_cons.mpr ⟨lLf_108 K, fun _ h => absurd h List.not_mem_nil⟩⟩⟩⟩⟩⟩⟩⟩⟩⟩⟩⟩⟩⟩⟩⟩⟩⟩⟩⟩⟩⟩⟩⟩⟩⟩⟩⟩⟩⟩⟩⟩⟩⟩⟩⟩⟩⟩⟩⟩⟩
theorem iLload_0 : gm_I cL_load 0 = some (.aload_n 1) := by decide +kernel
theorem iLload_1 : gm_I cL_load 1 = some (.iconst 0) := by decide +kernel
theorem iLload_2 : gm_I cL_load 2 = some (.aload_n 0) := by decide +kernel
theorem iLload_3 : gm_I cL_load 3 = some (.invokevirtual 7) := by decide +kernel
theorem iLload_6 : gm_I cL_load 6 = some (.i2l) := by decide +kernel
theorem iLload_7 : gm_I cL_load 7 = some (.lastore) := by decide +kernel
theorem iLload_8 : gm_I cL_load 8 = some (.goto 12) := by decide +kernel
theorem iLload_11 : gm_I cL_load 11 = some (.astore_n 2) := by decide +kernel
theorem iLload_12 : gm_I cL_load 12 = some (.iconst 1) := by decide +kernel
theorem iLload_13 : gm_I cL_load 13 = some (.ireturn) := by decide +kernel
theorem iLload_14 : gm_I cL_load 14 = some (.astore_n 2) := by decide +kernel
theorem iLload_15 : gm_I cL_load 15 = some (.iconst 2) := by decide +kernel
theorem iLload_16 : gm_I cL_load 16 = some (.ireturn) := by decide +kernel
theorem iLload_17 : gm_I cL_load 17 = some (.astore_n 2) := by decide +kernel
theorem iLload_18 : gm_I cL_load 18 = some (.iconst 3) := by decide +kernel
theorem iLload_19 : gm_I cL_load 19 = some (.ireturn) := by decide +kernel
theorem iLload_20 : gm_I cL_load 20 = some (.iconst 0) := by decide +kernel
theorem iLload_21 : gm_I cL_load 21 = some (.ireturn) := by decide +kernel
theorem iLplay_0 : gm_I cL_play 0 = some (.aload_n 3) := by decide +kernel
theorem iLplay_1 : gm_I cL_play 1 = some (.iconst 0) := by decide +kernel
theorem iLplay_2 : gm_I cL_play 2 = some (.aload_n 0) := by decide +kernel
theorem iLplay_3 : gm_I cL_play 3 = some (.iload_n 1) := by decide +kernel
theorem iLplay_4 : gm_I cL_play 4 = some (.iload_n 2) := by decide +kernel
theorem iLplay_5 : gm_I cL_play 5 = some (.invokevirtual 19) := by decide +kernel
theorem iLplay_8 : gm_I cL_play 8 = some (.i2l) := by decide +kernel
theorem iLplay_9 : gm_I cL_play 9 = some (.lastore) := by decide +kernel
theorem iLplay_10 : gm_I cL_play 10 = some (.goto 11) := by decide +kernel
theorem iLplay_13 : gm_I cL_play 13 = some (.astore 4) := by decide +kernel
theorem iLplay_15 : gm_I cL_play 15 = some (.iconst 1) := by decide +kernel
theorem iLplay_16 : gm_I cL_play 16 = some (.ireturn) := by decide +kernel
theorem iLplay_17 : gm_I cL_play 17 = some (.astore 4) := by decide +kernel
theorem iLplay_19 : gm_I cL_play 19 = some (.iconst 2) := by decide +kernel
theorem iLplay_20 : gm_I cL_play 20 = some (.ireturn) := by decide +kernel
theorem iLplay_21 : gm_I cL_play 21 = some (.iconst 0) := by decide +kernel
theorem iLplay_22 : gm_I cL_play 22 = some (.ireturn) := by decide +kernel
theorem iLaudit_0 : gm_I cL_audit 0 = some (.aload_n 1) := by decide +kernel
theorem iLaudit_1 : gm_I cL_audit 1 = some (.iconst 0) := by decide +kernel
theorem iLaudit_2 : gm_I cL_audit 2 = some (.aload_n 0) := by decide +kernel
theorem iLaudit_3 : gm_I cL_audit 3 = some (.invokevirtual 25) := by decide +kernel
theorem iLaudit_6 : gm_I cL_audit 6 = some (.i2l) := by decide +kernel
theorem iLaudit_7 : gm_I cL_audit 7 = some (.lastore) := by decide +kernel
theorem iLaudit_8 : gm_I cL_audit 8 = some (.goto 6) := by decide +kernel
theorem iLaudit_11 : gm_I cL_audit 11 = some (.astore_n 2) := by decide +kernel
theorem iLaudit_12 : gm_I cL_audit 12 = some (.iconst 1) := by decide +kernel
theorem iLaudit_13 : gm_I cL_audit 13 = some (.ireturn) := by decide +kernel
theorem iLaudit_14 : gm_I cL_audit 14 = some (.iconst 0) := by decide +kernel
theorem iLaudit_15 : gm_I cL_audit 15 = some (.ireturn) := by decide +kernel
theorem iLworth_0 : gm_I cL_worth 0 = some (.aload_n 1) := by decide +kernel
theorem iLworth_1 : gm_I cL_worth 1 = some (.iconst 0) := by decide +kernel
theorem iLworth_2 : gm_I cL_worth 2 = some (.aload_n 0) := by decide +kernel
theorem iLworth_3 : gm_I cL_worth 3 = some (.invokevirtual 28) := by decide +kernel
theorem iLworth_6 : gm_I cL_worth 6 = some (.i2l) := by decide +kernel
theorem iLworth_7 : gm_I cL_worth 7 = some (.lastore) := by decide +kernel
theorem iLworth_8 : gm_I cL_worth 8 = some (.goto 9) := by decide +kernel
theorem iLworth_11 : gm_I cL_worth 11 = some (.astore_n 2) := by decide +kernel
theorem iLworth_12 : gm_I cL_worth 12 = some (.iconst 1) := by decide +kernel
theorem iLworth_13 : gm_I cL_worth 13 = some (.ireturn) := by decide +kernel
theorem iLworth_14 : gm_I cL_worth 14 = some (.astore_n 2) := by decide +kernel
theorem iLworth_15 : gm_I cL_worth 15 = some (.iconst 2) := by decide +kernel
theorem iLworth_16 : gm_I cL_worth 16 = some (.ireturn) := by decide +kernel
theorem iLworth_17 : gm_I cL_worth 17 = some (.iconst 0) := by decide +kernel
theorem iLworth_18 : gm_I cL_worth 18 = some (.ireturn) := by decide +kernel
theorem iLbest_0 : gm_I cL_best 0 = some (.aload_n 1) := by decide +kernel
theorem iLbest_1 : gm_I cL_best 1 = some (.iconst 0) := by decide +kernel
theorem iLbest_2 : gm_I cL_best 2 = some (.aload_n 0) := by decide +kernel
theorem iLbest_3 : gm_I cL_best 3 = some (.invokevirtual 31) := by decide +kernel
theorem iLbest_6 : gm_I cL_best 6 = some (.i2l) := by decide +kernel
theorem iLbest_7 : gm_I cL_best 7 = some (.lastore) := by decide +kernel
theorem iLbest_8 : gm_I cL_best 8 = some (.goto 12) := by decide +kernel
theorem iLbest_11 : gm_I cL_best 11 = some (.astore_n 2) := by decide +kernel
theorem iLbest_12 : gm_I cL_best 12 = some (.iconst 1) := by decide +kernel
theorem iLbest_13 : gm_I cL_best 13 = some (.ireturn) := by decide +kernel
theorem iLbest_14 : gm_I cL_best 14 = some (.astore_n 2) := by decide +kernel
theorem iLbest_15 : gm_I cL_best 15 = some (.iconst 2) := by decide +kernel
theorem iLbest_16 : gm_I cL_best 16 = some (.ireturn) := by decide +kernel
theorem iLbest_17 : gm_I cL_best 17 = some (.astore_n 2) := by decide +kernel
theorem iLbest_18 : gm_I cL_best 18 = some (.iconst 3) := by decide +kernel
theorem iLbest_19 : gm_I cL_best 19 = some (.ireturn) := by decide +kernel
theorem iLbest_20 : gm_I cL_best 20 = some (.iconst 0) := by decide +kernel
theorem iLbest_21 : gm_I cL_best 21 = some (.ireturn) := by decide +kernel
theorem iL_0 : gm_I cL_law 0 = some (.new 8) := by decide +kernel
theorem iL_3 : gm_I cL_law 3 = some (.dup) := by decide +kernel
theorem iL_4 : gm_I cL_law 4 = some (.invokespecial 36) := by decide +kernel
theorem iL_7 : gm_I cL_law 7 = some (.astore_n 1) := by decide +kernel
theorem iL_8 : gm_I cL_law 8 = some (.new 37) := by decide +kernel
theorem iL_11 : gm_I cL_law 11 = some (.dup) := by decide +kernel
theorem iL_12 : gm_I cL_law 12 = some (.invokespecial 39) := by decide +kernel
theorem iL_15 : gm_I cL_law 15 = some (.astore_n 2) := by decide +kernel
theorem iL_16 : gm_I cL_law 16 = some (.iconst 1) := by decide +kernel
theorem iL_17 : gm_I cL_law 17 = some (.newarray .long) := by decide +kernel
theorem iL_19 : gm_I cL_law 19 = some (.astore_n 3) := by decide +kernel
theorem iL_20 : gm_I cL_law 20 = some (.iconst 0) := by decide +kernel
theorem iL_21 : gm_I cL_law 21 = some (.istore 4) := by decide +kernel
theorem iL_23 : gm_I cL_law 23 = some (.iload 4) := by decide +kernel
theorem iL_25 : gm_I cL_law 25 = some (.aload_n 0) := by decide +kernel
theorem iL_26 : gm_I cL_law 26 = some (.arraylength) := by decide +kernel
theorem iL_27 : gm_I cL_law 27 = some (.iconst 4) := by decide +kernel
theorem iL_28 : gm_I cL_law 28 = some (.isub) := by decide +kernel
theorem iL_29 : gm_I cL_law 29 = some (.if_icmp .gt 615) := by decide +kernel
theorem iL_32 : gm_I cL_law 32 = some (.aload_n 0) := by decide +kernel
theorem iL_33 : gm_I cL_law 33 = some (.iload 4) := by decide +kernel
theorem iL_35 : gm_I cL_law 35 = some (.iaload) := by decide +kernel
theorem iL_36 : gm_I cL_law 36 = some (.bipush 15) := by decide +kernel
theorem iL_38 : gm_I cL_law 38 = some (.iand) := by decide +kernel
theorem iL_39 : gm_I cL_law 39 = some (.tableswitch 599 0 14 #[73, 130, 141, 185, 210, 235, 274, 299, 312, 337, 386, 454, 467, 511, 555]) := by decide +kernel
theorem iL_112 : gm_I cL_law 112 = some (.aload_n 1) := by decide +kernel
theorem iL_113 : gm_I cL_law 113 = some (.aload_n 0) := by decide +kernel
theorem iL_114 : gm_I cL_law 114 = some (.iload 4) := by decide +kernel
theorem iL_116 : gm_I cL_law 116 = some (.iconst 1) := by decide +kernel
theorem iL_117 : gm_I cL_law 117 = some (.iadd) := by decide +kernel
theorem iL_118 : gm_I cL_law 118 = some (.iaload) := by decide +kernel
theorem iL_119 : gm_I cL_law 119 = some (.i2l) := by decide +kernel
theorem iL_120 : gm_I cL_law 120 = some (.bipush 32) := by decide +kernel
theorem iL_122 : gm_I cL_law 122 = some (.lshl) := by decide +kernel
theorem iL_123 : gm_I cL_law 123 = some (.aload_n 0) := by decide +kernel
theorem iL_124 : gm_I cL_law 124 = some (.iload 4) := by decide +kernel
theorem iL_126 : gm_I cL_law 126 = some (.iconst 2) := by decide +kernel
theorem iL_127 : gm_I cL_law 127 = some (.iadd) := by decide +kernel
theorem iL_128 : gm_I cL_law 128 = some (.iaload) := by decide +kernel
theorem iL_129 : gm_I cL_law 129 = some (.i2l) := by decide +kernel
theorem iL_130 : gm_I cL_law 130 = some (.ldc2_w 40) := by decide +kernel
theorem iL_133 : gm_I cL_law 133 = some (.land) := by decide +kernel
theorem iL_134 : gm_I cL_law 134 = some (.lor) := by decide +kernel
theorem iL_135 : gm_I cL_law 135 = some (.invokevirtual 42) := by decide +kernel
theorem iL_138 : gm_I cL_law 138 = some (.aload_n 2) := by decide +kernel
theorem iL_139 : gm_I cL_law 139 = some (.aload_n 0) := by decide +kernel
theorem iL_140 : gm_I cL_law 140 = some (.iload 4) := by decide +kernel
theorem iL_142 : gm_I cL_law 142 = some (.iconst 1) := by decide +kernel
theorem iL_143 : gm_I cL_law 143 = some (.iadd) := by decide +kernel
theorem iL_144 : gm_I cL_law 144 = some (.iaload) := by decide +kernel
theorem iL_145 : gm_I cL_law 145 = some (.i2l) := by decide +kernel
theorem iL_146 : gm_I cL_law 146 = some (.bipush 32) := by decide +kernel
theorem iL_148 : gm_I cL_law 148 = some (.lshl) := by decide +kernel
theorem iL_149 : gm_I cL_law 149 = some (.aload_n 0) := by decide +kernel
theorem iL_150 : gm_I cL_law 150 = some (.iload 4) := by decide +kernel
theorem iL_152 : gm_I cL_law 152 = some (.iconst 2) := by decide +kernel
theorem iL_153 : gm_I cL_law 153 = some (.iadd) := by decide +kernel
theorem iL_154 : gm_I cL_law 154 = some (.iaload) := by decide +kernel
theorem iL_155 : gm_I cL_law 155 = some (.i2l) := by decide +kernel
theorem iL_156 : gm_I cL_law 156 = some (.ldc2_w 40) := by decide +kernel
theorem iL_159 : gm_I cL_law 159 = some (.land) := by decide +kernel
theorem iL_160 : gm_I cL_law 160 = some (.lor) := by decide +kernel
theorem iL_161 : gm_I cL_law 161 = some (.invokevirtual 46) := by decide +kernel
theorem iL_164 : gm_I cL_law 164 = some (.if_icmp .eq 474) := by decide +kernel
theorem iL_167 : gm_I cL_law 167 = some (.iconst 0) := by decide +kernel
theorem iL_168 : gm_I cL_law 168 = some (.ireturn) := by decide +kernel
theorem iL_169 : gm_I cL_law 169 = some (.aload_n 1) := by decide +kernel
theorem iL_170 : gm_I cL_law 170 = some (.invokevirtual 47) := by decide +kernel
theorem iL_173 : gm_I cL_law 173 = some (.aload_n 2) := by decide +kernel
theorem iL_174 : gm_I cL_law 174 = some (.invokevirtual 50) := by decide +kernel
theorem iL_177 : gm_I cL_law 177 = some (.goto 461) := by decide +kernel
theorem iL_180 : gm_I cL_law 180 = some (.aload_n 1) := by decide +kernel
theorem iL_181 : gm_I cL_law 181 = some (.aload_n 3) := by decide +kernel
theorem iL_182 : gm_I cL_law 182 = some (.invokestatic 51) := by decide +kernel
theorem iL_185 : gm_I cL_law 185 = some (.istore 5) := by decide +kernel
theorem iL_187 : gm_I cL_law 187 = some (.aload_n 2) := by decide +kernel
theorem iL_188 : gm_I cL_law 188 = some (.invokevirtual 56) := by decide +kernel
theorem iL_191 : gm_I cL_law 191 = some (.istore 6) := by decide +kernel
theorem iL_193 : gm_I cL_law 193 = some (.aload_n 2) := by decide +kernel
theorem iL_194 : gm_I cL_law 194 = some (.invokevirtual 57) := by decide +kernel
theorem iL_197 : gm_I cL_law 197 = some (.iload 5) := by decide +kernel
theorem iL_199 : gm_I cL_law 199 = some (.if_icmp .eq 5) := by decide +kernel
theorem iL_202 : gm_I cL_law 202 = some (.iconst 0) := by decide +kernel
theorem iL_203 : gm_I cL_law 203 = some (.ireturn) := by decide +kernel
theorem iL_204 : gm_I cL_law 204 = some (.iload 5) := by decide +kernel
theorem iL_206 : gm_I cL_law 206 = some (.ifCond .ne 15) := by decide +kernel
theorem iL_209 : gm_I cL_law 209 = some (.aload_n 3) := by decide +kernel
theorem iL_210 : gm_I cL_law 210 = some (.iconst 0) := by decide +kernel
theorem iL_211 : gm_I cL_law 211 = some (.laload) := by decide +kernel
theorem iL_212 : gm_I cL_law 212 = some (.iload 6) := by decide +kernel
theorem iL_214 : gm_I cL_law 214 = some (.i2l) := by decide +kernel
theorem iL_215 : gm_I cL_law 215 = some (.lcmp) := by decide +kernel
theorem iL_216 : gm_I cL_law 216 = some (.ifCond .eq 5) := by decide +kernel
theorem iL_219 : gm_I cL_law 219 = some (.iconst 0) := by decide +kernel
theorem iL_220 : gm_I cL_law 220 = some (.ireturn) := by decide +kernel
theorem iL_221 : gm_I cL_law 221 = some (.goto 417) := by decide +kernel
theorem iL_224 : gm_I cL_law 224 = some (.aload_n 1) := by decide +kernel
theorem iL_225 : gm_I cL_law 225 = some (.aload_n 0) := by decide +kernel
theorem iL_226 : gm_I cL_law 226 = some (.iload 4) := by decide +kernel
theorem iL_228 : gm_I cL_law 228 = some (.iconst 1) := by decide +kernel
theorem iL_229 : gm_I cL_law 229 = some (.iadd) := by decide +kernel
theorem iL_230 : gm_I cL_law 230 = some (.iaload) := by decide +kernel
theorem iL_231 : gm_I cL_law 231 = some (.invokevirtual 60) := by decide +kernel
theorem iL_234 : gm_I cL_law 234 = some (.aload_n 2) := by decide +kernel
theorem iL_235 : gm_I cL_law 235 = some (.aload_n 0) := by decide +kernel
theorem iL_236 : gm_I cL_law 236 = some (.iload 4) := by decide +kernel
theorem iL_238 : gm_I cL_law 238 = some (.iconst 1) := by decide +kernel
theorem iL_239 : gm_I cL_law 239 = some (.iadd) := by decide +kernel
theorem iL_240 : gm_I cL_law 240 = some (.iaload) := by decide +kernel
theorem iL_241 : gm_I cL_law 241 = some (.invokevirtual 64) := by decide +kernel
theorem iL_244 : gm_I cL_law 244 = some (.if_icmp .eq 394) := by decide +kernel
theorem iL_247 : gm_I cL_law 247 = some (.iconst 0) := by decide +kernel
theorem iL_248 : gm_I cL_law 248 = some (.ireturn) := by decide +kernel
theorem iL_249 : gm_I cL_law 249 = some (.aload_n 1) := by decide +kernel
theorem iL_250 : gm_I cL_law 250 = some (.aload_n 0) := by decide +kernel
theorem iL_251 : gm_I cL_law 251 = some (.iload 4) := by decide +kernel
theorem iL_253 : gm_I cL_law 253 = some (.iconst 1) := by decide +kernel
theorem iL_254 : gm_I cL_law 254 = some (.iadd) := by decide +kernel
theorem iL_255 : gm_I cL_law 255 = some (.iaload) := by decide +kernel
theorem iL_256 : gm_I cL_law 256 = some (.invokevirtual 65) := by decide +kernel
theorem iL_259 : gm_I cL_law 259 = some (.aload_n 2) := by decide +kernel
theorem iL_260 : gm_I cL_law 260 = some (.aload_n 0) := by decide +kernel
theorem iL_261 : gm_I cL_law 261 = some (.iload 4) := by decide +kernel
theorem iL_263 : gm_I cL_law 263 = some (.iconst 1) := by decide +kernel
theorem iL_264 : gm_I cL_law 264 = some (.iadd) := by decide +kernel
theorem iL_265 : gm_I cL_law 265 = some (.iaload) := by decide +kernel
theorem iL_266 : gm_I cL_law 266 = some (.invokevirtual 68) := by decide +kernel
theorem iL_269 : gm_I cL_law 269 = some (.if_icmp .eq 369) := by decide +kernel
theorem iL_272 : gm_I cL_law 272 = some (.iconst 0) := by decide +kernel
theorem iL_273 : gm_I cL_law 273 = some (.ireturn) := by decide +kernel
theorem iL_274 : gm_I cL_law 274 = some (.aload_n 1) := by decide +kernel
theorem iL_275 : gm_I cL_law 275 = some (.aload_n 0) := by decide +kernel
theorem iL_276 : gm_I cL_law 276 = some (.iload 4) := by decide +kernel
theorem iL_278 : gm_I cL_law 278 = some (.iconst 1) := by decide +kernel
theorem iL_279 : gm_I cL_law 279 = some (.iadd) := by decide +kernel
theorem iL_280 : gm_I cL_law 280 = some (.iaload) := by decide +kernel
theorem iL_281 : gm_I cL_law 281 = some (.i2c) := by decide +kernel
theorem iL_282 : gm_I cL_law 282 = some (.aload_n 0) := by decide +kernel
theorem iL_283 : gm_I cL_law 283 = some (.iload 4) := by decide +kernel
theorem iL_285 : gm_I cL_law 285 = some (.iconst 2) := by decide +kernel
theorem iL_286 : gm_I cL_law 286 = some (.iadd) := by decide +kernel
theorem iL_287 : gm_I cL_law 287 = some (.iaload) := by decide +kernel
theorem iL_288 : gm_I cL_law 288 = some (.invokevirtual 69) := by decide +kernel
theorem iL_291 : gm_I cL_law 291 = some (.aload_n 2) := by decide +kernel
theorem iL_292 : gm_I cL_law 292 = some (.aload_n 0) := by decide +kernel
theorem iL_293 : gm_I cL_law 293 = some (.iload 4) := by decide +kernel
theorem iL_295 : gm_I cL_law 295 = some (.iconst 1) := by decide +kernel
theorem iL_296 : gm_I cL_law 296 = some (.iadd) := by decide +kernel
theorem iL_297 : gm_I cL_law 297 = some (.iaload) := by decide +kernel
theorem iL_298 : gm_I cL_law 298 = some (.i2c) := by decide +kernel
theorem iL_299 : gm_I cL_law 299 = some (.aload_n 0) := by decide +kernel
theorem iL_300 : gm_I cL_law 300 = some (.iload 4) := by decide +kernel
theorem iL_302 : gm_I cL_law 302 = some (.iconst 2) := by decide +kernel
theorem iL_303 : gm_I cL_law 303 = some (.iadd) := by decide +kernel
theorem iL_304 : gm_I cL_law 304 = some (.iaload) := by decide +kernel
theorem iL_305 : gm_I cL_law 305 = some (.invokevirtual 73) := by decide +kernel
theorem iL_308 : gm_I cL_law 308 = some (.if_icmp .eq 330) := by decide +kernel
theorem iL_311 : gm_I cL_law 311 = some (.iconst 0) := by decide +kernel
theorem iL_312 : gm_I cL_law 312 = some (.ireturn) := by decide +kernel
theorem iL_313 : gm_I cL_law 313 = some (.aload_n 1) := by decide +kernel
theorem iL_314 : gm_I cL_law 314 = some (.aload_n 0) := by decide +kernel
theorem iL_315 : gm_I cL_law 315 = some (.iload 4) := by decide +kernel
theorem iL_317 : gm_I cL_law 317 = some (.iconst 1) := by decide +kernel
theorem iL_318 : gm_I cL_law 318 = some (.iadd) := by decide +kernel
theorem iL_319 : gm_I cL_law 319 = some (.iaload) := by decide +kernel
theorem iL_320 : gm_I cL_law 320 = some (.invokevirtual 74) := by decide +kernel
theorem iL_323 : gm_I cL_law 323 = some (.aload_n 2) := by decide +kernel
theorem iL_324 : gm_I cL_law 324 = some (.aload_n 0) := by decide +kernel
theorem iL_325 : gm_I cL_law 325 = some (.iload 4) := by decide +kernel
theorem iL_327 : gm_I cL_law 327 = some (.iconst 1) := by decide +kernel
theorem iL_328 : gm_I cL_law 328 = some (.iadd) := by decide +kernel
theorem iL_329 : gm_I cL_law 329 = some (.iaload) := by decide +kernel
theorem iL_330 : gm_I cL_law 330 = some (.invokevirtual 77) := by decide +kernel
theorem iL_333 : gm_I cL_law 333 = some (.if_icmp .eq 305) := by decide +kernel
theorem iL_336 : gm_I cL_law 336 = some (.iconst 0) := by decide +kernel
theorem iL_337 : gm_I cL_law 337 = some (.ireturn) := by decide +kernel
theorem iL_338 : gm_I cL_law 338 = some (.aload_n 1) := by decide +kernel
theorem iL_339 : gm_I cL_law 339 = some (.invokevirtual 78) := by decide +kernel
theorem iL_342 : gm_I cL_law 342 = some (.aload_n 2) := by decide +kernel
theorem iL_343 : gm_I cL_law 343 = some (.invokevirtual 81) := by decide +kernel
theorem iL_346 : gm_I cL_law 346 = some (.if_icmp .eq 292) := by decide +kernel
theorem iL_349 : gm_I cL_law 349 = some (.iconst 0) := by decide +kernel
theorem iL_350 : gm_I cL_law 350 = some (.ireturn) := by decide +kernel
theorem iL_351 : gm_I cL_law 351 = some (.aload_n 1) := by decide +kernel
theorem iL_352 : gm_I cL_law 352 = some (.aload_n 0) := by decide +kernel
theorem iL_353 : gm_I cL_law 353 = some (.iload 4) := by decide +kernel
theorem iL_355 : gm_I cL_law 355 = some (.iconst 1) := by decide +kernel
theorem iL_356 : gm_I cL_law 356 = some (.iadd) := by decide +kernel
theorem iL_357 : gm_I cL_law 357 = some (.iaload) := by decide +kernel
theorem iL_358 : gm_I cL_law 358 = some (.invokevirtual 82) := by decide +kernel
theorem iL_361 : gm_I cL_law 361 = some (.aload_n 2) := by decide +kernel
theorem iL_362 : gm_I cL_law 362 = some (.aload_n 0) := by decide +kernel
theorem iL_363 : gm_I cL_law 363 = some (.iload 4) := by decide +kernel
theorem iL_365 : gm_I cL_law 365 = some (.iconst 1) := by decide +kernel
theorem iL_366 : gm_I cL_law 366 = some (.iadd) := by decide +kernel
theorem iL_367 : gm_I cL_law 367 = some (.iaload) := by decide +kernel
theorem iL_368 : gm_I cL_law 368 = some (.invokevirtual 85) := by decide +kernel
theorem iL_371 : gm_I cL_law 371 = some (.if_icmp .eq 267) := by decide +kernel
theorem iL_374 : gm_I cL_law 374 = some (.iconst 0) := by decide +kernel
theorem iL_375 : gm_I cL_law 375 = some (.ireturn) := by decide +kernel
theorem iL_376 : gm_I cL_law 376 = some (.aload_n 1) := by decide +kernel
theorem iL_377 : gm_I cL_law 377 = some (.aload_n 0) := by decide +kernel
theorem iL_378 : gm_I cL_law 378 = some (.iload 4) := by decide +kernel
theorem iL_380 : gm_I cL_law 380 = some (.iconst 1) := by decide +kernel
theorem iL_381 : gm_I cL_law 381 = some (.iadd) := by decide +kernel
theorem iL_382 : gm_I cL_law 382 = some (.iaload) := by decide +kernel
theorem iL_383 : gm_I cL_law 383 = some (.aload_n 0) := by decide +kernel
theorem iL_384 : gm_I cL_law 384 = some (.iload 4) := by decide +kernel
theorem iL_386 : gm_I cL_law 386 = some (.iconst 2) := by decide +kernel
theorem iL_387 : gm_I cL_law 387 = some (.iadd) := by decide +kernel
theorem iL_388 : gm_I cL_law 388 = some (.iaload) := by decide +kernel
theorem iL_389 : gm_I cL_law 389 = some (.aload_n 0) := by decide +kernel
theorem iL_390 : gm_I cL_law 390 = some (.iload 4) := by decide +kernel
theorem iL_392 : gm_I cL_law 392 = some (.iconst 3) := by decide +kernel
theorem iL_393 : gm_I cL_law 393 = some (.iadd) := by decide +kernel
theorem iL_394 : gm_I cL_law 394 = some (.iaload) := by decide +kernel
theorem iL_395 : gm_I cL_law 395 = some (.invokevirtual 86) := by decide +kernel
theorem iL_398 : gm_I cL_law 398 = some (.aload_n 2) := by decide +kernel
theorem iL_399 : gm_I cL_law 399 = some (.aload_n 0) := by decide +kernel
theorem iL_400 : gm_I cL_law 400 = some (.iload 4) := by decide +kernel
theorem iL_402 : gm_I cL_law 402 = some (.iconst 1) := by decide +kernel
theorem iL_403 : gm_I cL_law 403 = some (.iadd) := by decide +kernel
theorem iL_404 : gm_I cL_law 404 = some (.iaload) := by decide +kernel
theorem iL_405 : gm_I cL_law 405 = some (.aload_n 0) := by decide +kernel
theorem iL_406 : gm_I cL_law 406 = some (.iload 4) := by decide +kernel
theorem iL_408 : gm_I cL_law 408 = some (.iconst 2) := by decide +kernel
theorem iL_409 : gm_I cL_law 409 = some (.iadd) := by decide +kernel
theorem iL_410 : gm_I cL_law 410 = some (.iaload) := by decide +kernel
theorem iL_411 : gm_I cL_law 411 = some (.aload_n 0) := by decide +kernel
theorem iL_412 : gm_I cL_law 412 = some (.iload 4) := by decide +kernel
theorem iL_414 : gm_I cL_law 414 = some (.iconst 3) := by decide +kernel
theorem iL_415 : gm_I cL_law 415 = some (.iadd) := by decide +kernel
theorem iL_416 : gm_I cL_law 416 = some (.iaload) := by decide +kernel
theorem iL_417 : gm_I cL_law 417 = some (.invokevirtual 90) := by decide +kernel
theorem iL_420 : gm_I cL_law 420 = some (.if_icmp .eq 218) := by decide +kernel
theorem iL_423 : gm_I cL_law 423 = some (.iconst 0) := by decide +kernel
theorem iL_424 : gm_I cL_law 424 = some (.ireturn) := by decide +kernel
theorem iL_425 : gm_I cL_law 425 = some (.aload_n 1) := by decide +kernel
theorem iL_426 : gm_I cL_law 426 = some (.aload_n 0) := by decide +kernel
theorem iL_427 : gm_I cL_law 427 = some (.iload 4) := by decide +kernel
theorem iL_429 : gm_I cL_law 429 = some (.iconst 1) := by decide +kernel
theorem iL_430 : gm_I cL_law 430 = some (.iadd) := by decide +kernel
theorem iL_431 : gm_I cL_law 431 = some (.iaload) := by decide +kernel
theorem iL_432 : gm_I cL_law 432 = some (.aload_n 0) := by decide +kernel
theorem iL_433 : gm_I cL_law 433 = some (.iload 4) := by decide +kernel
theorem iL_435 : gm_I cL_law 435 = some (.iconst 2) := by decide +kernel
theorem iL_436 : gm_I cL_law 436 = some (.iadd) := by decide +kernel
theorem iL_437 : gm_I cL_law 437 = some (.iaload) := by decide +kernel
theorem iL_438 : gm_I cL_law 438 = some (.aload_n 3) := by decide +kernel
theorem iL_439 : gm_I cL_law 439 = some (.invokestatic 91) := by decide +kernel
theorem iL_442 : gm_I cL_law 442 = some (.istore 5) := by decide +kernel
theorem iL_444 : gm_I cL_law 444 = some (.aload_n 2) := by decide +kernel
theorem iL_445 : gm_I cL_law 445 = some (.aload_n 0) := by decide +kernel
theorem iL_446 : gm_I cL_law 446 = some (.iload 4) := by decide +kernel
theorem iL_448 : gm_I cL_law 448 = some (.iconst 1) := by decide +kernel
theorem iL_449 : gm_I cL_law 449 = some (.iadd) := by decide +kernel
theorem iL_450 : gm_I cL_law 450 = some (.iaload) := by decide +kernel
theorem iL_451 : gm_I cL_law 451 = some (.aload_n 0) := by decide +kernel
theorem iL_452 : gm_I cL_law 452 = some (.iload 4) := by decide +kernel
theorem iL_454 : gm_I cL_law 454 = some (.iconst 2) := by decide +kernel
theorem iL_455 : gm_I cL_law 455 = some (.iadd) := by decide +kernel
theorem iL_456 : gm_I cL_law 456 = some (.iaload) := by decide +kernel
theorem iL_457 : gm_I cL_law 457 = some (.invokevirtual 94) := by decide +kernel
theorem iL_460 : gm_I cL_law 460 = some (.istore 6) := by decide +kernel
theorem iL_462 : gm_I cL_law 462 = some (.aload_n 2) := by decide +kernel
theorem iL_463 : gm_I cL_law 463 = some (.invokevirtual 57) := by decide +kernel
theorem iL_466 : gm_I cL_law 466 = some (.iload 5) := by decide +kernel
theorem iL_468 : gm_I cL_law 468 = some (.if_icmp .eq 5) := by decide +kernel
theorem iL_471 : gm_I cL_law 471 = some (.iconst 0) := by decide +kernel
theorem iL_472 : gm_I cL_law 472 = some (.ireturn) := by decide +kernel
theorem iL_473 : gm_I cL_law 473 = some (.iload 5) := by decide +kernel
theorem iL_475 : gm_I cL_law 475 = some (.ifCond .ne 15) := by decide +kernel
theorem iL_478 : gm_I cL_law 478 = some (.aload_n 3) := by decide +kernel
theorem iL_479 : gm_I cL_law 479 = some (.iconst 0) := by decide +kernel
theorem iL_480 : gm_I cL_law 480 = some (.laload) := by decide +kernel
theorem iL_481 : gm_I cL_law 481 = some (.iload 6) := by decide +kernel
theorem iL_483 : gm_I cL_law 483 = some (.i2l) := by decide +kernel
theorem iL_484 : gm_I cL_law 484 = some (.lcmp) := by decide +kernel
theorem iL_485 : gm_I cL_law 485 = some (.ifCond .eq 5) := by decide +kernel
theorem iL_488 : gm_I cL_law 488 = some (.iconst 0) := by decide +kernel
theorem iL_489 : gm_I cL_law 489 = some (.ireturn) := by decide +kernel
theorem iL_490 : gm_I cL_law 490 = some (.goto 148) := by decide +kernel
theorem iL_493 : gm_I cL_law 493 = some (.aload_n 1) := by decide +kernel
theorem iL_494 : gm_I cL_law 494 = some (.invokevirtual 95) := by decide +kernel
theorem iL_497 : gm_I cL_law 497 = some (.aload_n 2) := by decide +kernel
theorem iL_498 : gm_I cL_law 498 = some (.invokevirtual 99) := by decide +kernel
theorem iL_501 : gm_I cL_law 501 = some (.if_icmp .eq 137) := by decide +kernel
theorem iL_504 : gm_I cL_law 504 = some (.iconst 0) := by decide +kernel
theorem iL_505 : gm_I cL_law 505 = some (.ireturn) := by decide +kernel
theorem iL_506 : gm_I cL_law 506 = some (.aload_n 1) := by decide +kernel
theorem iL_507 : gm_I cL_law 507 = some (.aload_n 3) := by decide +kernel
theorem iL_508 : gm_I cL_law 508 = some (.invokestatic 100) := by decide +kernel
theorem iL_511 : gm_I cL_law 511 = some (.istore 5) := by decide +kernel
theorem iL_513 : gm_I cL_law 513 = some (.aload_n 2) := by decide +kernel
theorem iL_514 : gm_I cL_law 514 = some (.invokevirtual 102) := by decide +kernel
theorem iL_517 : gm_I cL_law 517 = some (.istore 6) := by decide +kernel
theorem iL_519 : gm_I cL_law 519 = some (.aload_n 2) := by decide +kernel
theorem iL_520 : gm_I cL_law 520 = some (.invokevirtual 57) := by decide +kernel
theorem iL_523 : gm_I cL_law 523 = some (.iload 5) := by decide +kernel
theorem iL_525 : gm_I cL_law 525 = some (.if_icmp .eq 5) := by decide +kernel
theorem iL_528 : gm_I cL_law 528 = some (.iconst 0) := by decide +kernel
theorem iL_529 : gm_I cL_law 529 = some (.ireturn) := by decide +kernel
theorem iL_530 : gm_I cL_law 530 = some (.iload 5) := by decide +kernel
theorem iL_532 : gm_I cL_law 532 = some (.ifCond .ne 15) := by decide +kernel
theorem iL_535 : gm_I cL_law 535 = some (.aload_n 3) := by decide +kernel
theorem iL_536 : gm_I cL_law 536 = some (.iconst 0) := by decide +kernel
theorem iL_537 : gm_I cL_law 537 = some (.laload) := by decide +kernel
theorem iL_538 : gm_I cL_law 538 = some (.iload 6) := by decide +kernel
theorem iL_540 : gm_I cL_law 540 = some (.i2l) := by decide +kernel
theorem iL_541 : gm_I cL_law 541 = some (.lcmp) := by decide +kernel
theorem iL_542 : gm_I cL_law 542 = some (.ifCond .eq 5) := by decide +kernel
theorem iL_545 : gm_I cL_law 545 = some (.iconst 0) := by decide +kernel
theorem iL_546 : gm_I cL_law 546 = some (.ireturn) := by decide +kernel
theorem iL_547 : gm_I cL_law 547 = some (.goto 91) := by decide +kernel
theorem iL_550 : gm_I cL_law 550 = some (.aload_n 1) := by decide +kernel
theorem iL_551 : gm_I cL_law 551 = some (.aload_n 3) := by decide +kernel
theorem iL_552 : gm_I cL_law 552 = some (.invokestatic 103) := by decide +kernel
theorem iL_555 : gm_I cL_law 555 = some (.istore 5) := by decide +kernel
theorem iL_557 : gm_I cL_law 557 = some (.aload_n 2) := by decide +kernel
theorem iL_558 : gm_I cL_law 558 = some (.invokevirtual 105) := by decide +kernel
theorem iL_561 : gm_I cL_law 561 = some (.istore 6) := by decide +kernel
theorem iL_563 : gm_I cL_law 563 = some (.aload_n 2) := by decide +kernel
theorem iL_564 : gm_I cL_law 564 = some (.invokevirtual 57) := by decide +kernel
theorem iL_567 : gm_I cL_law 567 = some (.iload 5) := by decide +kernel
theorem iL_569 : gm_I cL_law 569 = some (.if_icmp .eq 5) := by decide +kernel
theorem iL_572 : gm_I cL_law 572 = some (.iconst 0) := by decide +kernel
theorem iL_573 : gm_I cL_law 573 = some (.ireturn) := by decide +kernel
theorem iL_574 : gm_I cL_law 574 = some (.iload 5) := by decide +kernel
theorem iL_576 : gm_I cL_law 576 = some (.ifCond .ne 15) := by decide +kernel
theorem iL_579 : gm_I cL_law 579 = some (.aload_n 3) := by decide +kernel
theorem iL_580 : gm_I cL_law 580 = some (.iconst 0) := by decide +kernel
theorem iL_581 : gm_I cL_law 581 = some (.laload) := by decide +kernel
theorem iL_582 : gm_I cL_law 582 = some (.iload 6) := by decide +kernel
theorem iL_584 : gm_I cL_law 584 = some (.i2l) := by decide +kernel
theorem iL_585 : gm_I cL_law 585 = some (.lcmp) := by decide +kernel
theorem iL_586 : gm_I cL_law 586 = some (.ifCond .eq 5) := by decide +kernel
theorem iL_589 : gm_I cL_law 589 = some (.iconst 0) := by decide +kernel
theorem iL_590 : gm_I cL_law 590 = some (.ireturn) := by decide +kernel
theorem iL_591 : gm_I cL_law 591 = some (.goto 47) := by decide +kernel
theorem iL_594 : gm_I cL_law 594 = some (.aload_n 1) := by decide +kernel
theorem iL_595 : gm_I cL_law 595 = some (.aload_n 3) := by decide +kernel
theorem iL_596 : gm_I cL_law 596 = some (.invokestatic 106) := by decide +kernel
theorem iL_599 : gm_I cL_law 599 = some (.istore 5) := by decide +kernel
theorem iL_601 : gm_I cL_law 601 = some (.aload_n 2) := by decide +kernel
theorem iL_602 : gm_I cL_law 602 = some (.invokevirtual 108) := by decide +kernel
theorem iL_605 : gm_I cL_law 605 = some (.istore 6) := by decide +kernel
theorem iL_607 : gm_I cL_law 607 = some (.aload_n 2) := by decide +kernel
theorem iL_608 : gm_I cL_law 608 = some (.invokevirtual 57) := by decide +kernel
theorem iL_611 : gm_I cL_law 611 = some (.iload 5) := by decide +kernel
theorem iL_613 : gm_I cL_law 613 = some (.if_icmp .eq 5) := by decide +kernel
theorem iL_616 : gm_I cL_law 616 = some (.iconst 0) := by decide +kernel
theorem iL_617 : gm_I cL_law 617 = some (.ireturn) := by decide +kernel
theorem iL_618 : gm_I cL_law 618 = some (.iload 5) := by decide +kernel
theorem iL_620 : gm_I cL_law 620 = some (.ifCond .ne 15) := by decide +kernel
theorem iL_623 : gm_I cL_law 623 = some (.aload_n 3) := by decide +kernel
theorem iL_624 : gm_I cL_law 624 = some (.iconst 0) := by decide +kernel
theorem iL_625 : gm_I cL_law 625 = some (.laload) := by decide +kernel
theorem iL_626 : gm_I cL_law 626 = some (.iload 6) := by decide +kernel
theorem iL_628 : gm_I cL_law 628 = some (.i2l) := by decide +kernel
theorem iL_629 : gm_I cL_law 629 = some (.lcmp) := by decide +kernel
theorem iL_630 : gm_I cL_law 630 = some (.ifCond .eq 5) := by decide +kernel
theorem iL_633 : gm_I cL_law 633 = some (.iconst 0) := by decide +kernel
theorem iL_634 : gm_I cL_law 634 = some (.ireturn) := by decide +kernel
theorem iL_635 : gm_I cL_law 635 = some (.goto 3) := by decide +kernel
theorem iL_638 : gm_I cL_law 638 = some (.iinc 4 4) := by decide +kernel
theorem iL_641 : gm_I cL_law 641 = some (.goto (-618)) := by decide +kernel
theorem iL_644 : gm_I cL_law 644 = some (.iconst 1) := by decide +kernel
theorem iL_645 : gm_I cL_law 645 = some (.ireturn) := by decide +kernel
def ra_Xs : List Cond := [Cond.castable "java/lang/IllegalArgumentException" "java/lang/IllegalArgumentException", Cond.castable "java/lang/UnsupportedOperationException" "java/lang/UnsupportedOperationException", Cond.castable "java/lang/IllegalStateException" "java/lang/IllegalStateException", Cond.castable "java/lang/IndexOutOfBoundsException" "java/lang/IndexOutOfBoundsException", Cond.castable "java/util/NoSuchElementException" "java/util/NoSuchElementException", Cond.declares (Bundle.init0 "java/lang/RuntimeException"), Cond.declares (Bundle.init0 "java/lang/Exception"), Cond.declares (Bundle.init0 "java/lang/Throwable")]
def ra_Cs : List (String × String) := [("java/lang/IllegalArgumentException", "java/lang/UnsupportedOperationException"), ("java/lang/IllegalArgumentException", "java/lang/IllegalStateException"), ("java/lang/IllegalArgumentException", "java/lang/IndexOutOfBoundsException"), ("java/lang/IllegalArgumentException", "java/util/NoSuchElementException"), ("java/lang/UnsupportedOperationException", "java/lang/IllegalArgumentException"), ("java/lang/UnsupportedOperationException", "java/lang/IllegalStateException"), ("java/lang/UnsupportedOperationException", "java/lang/IndexOutOfBoundsException"), ("java/lang/UnsupportedOperationException", "java/util/NoSuchElementException"), ("java/lang/IllegalStateException", "java/lang/IllegalArgumentException"), ("java/lang/IllegalStateException", "java/lang/UnsupportedOperationException"), ("java/lang/IllegalStateException", "java/lang/IndexOutOfBoundsException"), ("java/lang/IllegalStateException", "java/util/NoSuchElementException"), ("java/lang/IndexOutOfBoundsException", "java/lang/IllegalArgumentException"), ("java/lang/IndexOutOfBoundsException", "java/lang/UnsupportedOperationException"), ("java/lang/IndexOutOfBoundsException", "java/lang/IllegalStateException"), ("java/lang/IndexOutOfBoundsException", "java/util/NoSuchElementException"), ("java/util/NoSuchElementException", "java/lang/IllegalArgumentException"), ("java/util/NoSuchElementException", "java/lang/UnsupportedOperationException"), ("java/util/NoSuchElementException", "java/lang/IllegalStateException"), ("java/util/NoSuchElementException", "java/lang/IndexOutOfBoundsException")]
def ra_wt : gm_Wt := fun mi => match mi with
  | 1000 => some (105, false, fun e => match e with
      | 0 => some 1
      | 1 => some 2
      | 2 => some 3
      | _ => none)
  | 1001 => some (113, true, fun e => match e with
      | 2 => some 1
      | 3 => some 2
      | _ => none)
  | 1002 => some (115, false, fun e => match e with
      | 2 => some 1
      | _ => none)
  | 1003 => some (116, false, fun e => match e with
      | 2 => some 1
      | 1 => some 2
      | _ => none)
  | 1004 => some (117, false, fun e => match e with
      | 2 => some 1
      | 1 => some 2
      | 4 => some 3
      | _ => none)
  | _ => none
theorem gm_dec_lt {cc : ByteArray} {pc : Nat} {r : Instr × Nat} (h : decode cc pc = .ok r) : pc < cc.size := by
  rcases Nat.lt_or_ge pc cc.size with q | q
  · exact q
  · exfalso
    have h1 : (Reader.u1 : Reader DecodeError Nat) cc pc = .error (HasTruncated.truncated pc) := by
      have hn : ¬ pc < cc.size := by omega
      show (if h : pc < cc.size then _ else _ : ReaderT ByteArray (StateT Nat (Except DecodeError)) Nat) cc pc = _
      rw [dif_neg hn]
      rfl
    have h2 : (Decoder.instr pc) cc pc = .error (HasTruncated.truncated pc) := by
      unfold Decoder.instr
      show (Reader.u1 cc pc >>= _) = _
      rw [h1]
      rfl
    have h3 : decode cc pc = .error (HasTruncated.truncated pc) := by
      unfold decode
      show ((Decoder.instr pc) cc pc >>= _) = _
      rw [h2]
      rfl
    rw [h3] at h
    cases h
theorem gm_I_lt {cc : ByteArray} {pc : Nat} {i : Instr} (h : gm_I cc pc = some i) : pc < cc.size := by
  obtain ⟨len, hd, -⟩ := gm_I_dec h
  exact gm_dec_lt hd
theorem gm_tw {L : List Cond} (h : L.all (fun w => (decide (w ∈ lw_tbl) && goodWord w) || decide (w ∈ ra_Xs)) = true) : ∀ w ∈ L, w ∈ ra_Tg ∨ w ∈ ra_Xs := by
  intro w hw
  have h1 := List.all_eq_true.mp h w hw
  rw [Bool.or_eq_true, Bool.and_eq_true, decide_eq_true_eq, decide_eq_true_eq] at h1
  exact h1.imp (fun q => List.mem_filter.mpr q) id
theorem gm_thw_all {cc : ByteArray} {N : Nat} {P : List (Nat × Nat)} (hN : cc.size ≤ N) (h : (List.range N).all (fun pc => match gm_I cc pc with | some (.new ix) => decide ((pc, ix) ∈ P) | _ => true) = true) {pc ix : Nat} (hi : gm_I cc pc = some (.new ix)) : (pc, ix) ∈ P := by
  have hlt : pc < cc.size := gm_I_lt hi
  have h1 := List.all_eq_true.mp h pc (List.mem_range.mpr (by omega))
  rw [hi] at h1
  exact of_decide_eq_true h1
theorem tw_54 : ∀ w ∈ vx_at0 RX11 54 "java/lang/IllegalArgumentException" gm_xn, w ∈ ra_Tg ∨ w ∈ ra_Xs := gm_tw (by decide +kernel)
theorem tw_78 : ∀ w ∈ vx_at0 RX11 78 "java/lang/IllegalStateException" gm_xn, w ∈ ra_Tg ∨ w ∈ ra_Xs := gm_tw (by decide +kernel)
theorem tw_150 : ∀ w ∈ vx_at0 RX11 150 "java/lang/IndexOutOfBoundsException" gm_xn, w ∈ ra_Tg ∨ w ∈ ra_Xs := gm_tw (by decide +kernel)
theorem tw_66 : ∀ w ∈ vx_at0 RX11 66 "java/lang/UnsupportedOperationException" gm_xn, w ∈ ra_Tg ∨ w ∈ ra_Xs := gm_tw (by decide +kernel)
theorem tw_168 : ∀ w ∈ vx_at0 RX11 168 "java/util/NoSuchElementException" gm_xn, w ∈ ra_Tg ∨ w ∈ ra_Xs := gm_tw (by decide +kernel)
theorem tq_load {pc ix : Nat} (hi : gm_I cX11_load pc = some (.new ix)) : (pc, ix) ∈ ([(53, 52), (96, 64), (114, 67), (128, 76)] : List (Nat × Nat)) := gm_thw_all (N := 400) (by decide +kernel) (by decide +kernel) hi
theorem th_load (K : Nat → Nat) : gm_thw ra_Tg ra_Xs RX11 cX11_load (gm_I cX11_load) (gm_lkf (lkX11 false K)) := by
  intro pc ix e E hi hl he
  have hm := tq_load hi
  simp only [List.mem_cons, List.not_mem_nil, or_false, Prod.mk.injEq] at hm
  rcases hm with ⟨rfl, rfl⟩ | ⟨rfl, rfl⟩ | ⟨rfl, rfl⟩ | ⟨rfl, rfl⟩
  · cases hl
    have he2 : e = 0 := Option.some.inj (he.symm.trans (by decide +kernel))
    subst he2
    exact ⟨rfl, by decide +kernel, 54, by decide +kernel, by decide +kernel, by decide +kernel, w_767, w_101, tw_54⟩
  · cases hl
    have he2 : e = 1 := Option.some.inj (he.symm.trans (by decide +kernel))
    subst he2
    exact ⟨rfl, by decide +kernel, 66, by decide +kernel, by decide +kernel, by decide +kernel, w_882, w_102, tw_66⟩
  · cases hl
  · cases hl
    have he2 : e = 2 := Option.some.inj (he.symm.trans (by decide +kernel))
    subst he2
    exact ⟨rfl, by decide +kernel, 78, by decide +kernel, by decide +kernel, by decide +kernel, w_979, w_106, tw_78⟩
theorem tq_play {pc ix : Nat} (hi : gm_I cX11_play pc = some (.new ix)) : (pc, ix) ∈ ([(34, 76), (72, 148), (92, 76)] : List (Nat × Nat)) := gm_thw_all (N := 400) (by decide +kernel) (by decide +kernel) hi
theorem th_play (K : Nat → Nat) : gm_thw ra_Tg ra_Xs RX11 cX11_play (gm_I cX11_play) (gm_lkf (lkX11 false K)) := by
  intro pc ix e E hi hl he
  have hm := tq_play hi
  simp only [List.mem_cons, List.not_mem_nil, or_false, Prod.mk.injEq] at hm
  rcases hm with ⟨rfl, rfl⟩ | ⟨rfl, rfl⟩ | ⟨rfl, rfl⟩
  · cases hl
    have he2 : e = 2 := Option.some.inj (he.symm.trans (by decide +kernel))
    subst he2
    exact ⟨rfl, by decide +kernel, 78, by decide +kernel, by decide +kernel, by decide +kernel, w_979, w_106, tw_78⟩
  · cases hl
    have he2 : e = 3 := Option.some.inj (he.symm.trans (by decide +kernel))
    subst he2
    exact ⟨rfl, by decide +kernel, 150, by decide +kernel, by decide +kernel, by decide +kernel, w_1006, w_107, tw_150⟩
  · cases hl
    have he2 : e = 2 := Option.some.inj (he.symm.trans (by decide +kernel))
    subst he2
    exact ⟨rfl, by decide +kernel, 78, by decide +kernel, by decide +kernel, by decide +kernel, w_979, w_106, tw_78⟩
theorem tq_audit {pc ix : Nat} (hi : gm_I cX11_audit pc = some (.new ix)) : (pc, ix) ∈ ([(10, 76)] : List (Nat × Nat)) := gm_thw_all (N := 400) (by decide +kernel) (by decide +kernel) hi
theorem th_audit (K : Nat → Nat) : gm_thw ra_Tg ra_Xs RX11 cX11_audit (gm_I cX11_audit) (gm_lkf (lkX11 false K)) := by
  intro pc ix e E hi hl he
  have hm := tq_audit hi
  simp only [List.mem_cons, List.not_mem_nil, or_false, Prod.mk.injEq] at hm
  obtain ⟨rfl, rfl⟩ := hm
  · cases hl
    have he2 : e = 2 := Option.some.inj (he.symm.trans (by decide +kernel))
    subst he2
    exact ⟨rfl, by decide +kernel, 78, by decide +kernel, by decide +kernel, by decide +kernel, w_979, w_106, tw_78⟩
theorem tq_worth {pc ix : Nat} (hi : gm_I cX11_worth pc = some (.new ix)) : (pc, ix) ∈ ([(10, 76), (32, 64)] : List (Nat × Nat)) := gm_thw_all (N := 400) (by decide +kernel) (by decide +kernel) hi
theorem th_worth (K : Nat → Nat) : gm_thw ra_Tg ra_Xs RX11 cX11_worth (gm_I cX11_worth) (gm_lkf (lkX11 false K)) := by
  intro pc ix e E hi hl he
  have hm := tq_worth hi
  simp only [List.mem_cons, List.not_mem_nil, or_false, Prod.mk.injEq] at hm
  rcases hm with ⟨rfl, rfl⟩ | ⟨rfl, rfl⟩
  · cases hl
    have he2 : e = 2 := Option.some.inj (he.symm.trans (by decide +kernel))
    subst he2
    exact ⟨rfl, by decide +kernel, 78, by decide +kernel, by decide +kernel, by decide +kernel, w_979, w_106, tw_78⟩
  · cases hl
    have he2 : e = 1 := Option.some.inj (he.symm.trans (by decide +kernel))
    subst he2
    exact ⟨rfl, by decide +kernel, 66, by decide +kernel, by decide +kernel, by decide +kernel, w_882, w_102, tw_66⟩
theorem tq_best {pc ix : Nat} (hi : gm_I cX11_best pc = some (.new ix)) : (pc, ix) ∈ ([(10, 76), (32, 64), (50, 166)] : List (Nat × Nat)) := gm_thw_all (N := 400) (by decide +kernel) (by decide +kernel) hi
theorem th_best (K : Nat → Nat) : gm_thw ra_Tg ra_Xs RX11 cX11_best (gm_I cX11_best) (gm_lkf (lkX11 false K)) := by
  intro pc ix e E hi hl he
  have hm := tq_best hi
  simp only [List.mem_cons, List.not_mem_nil, or_false, Prod.mk.injEq] at hm
  rcases hm with ⟨rfl, rfl⟩ | ⟨rfl, rfl⟩ | ⟨rfl, rfl⟩
  · cases hl
    have he2 : e = 2 := Option.some.inj (he.symm.trans (by decide +kernel))
    subst he2
    exact ⟨rfl, by decide +kernel, 78, by decide +kernel, by decide +kernel, by decide +kernel, w_979, w_106, tw_78⟩
  · cases hl
    have he2 : e = 1 := Option.some.inj (he.symm.trans (by decide +kernel))
    subst he2
    exact ⟨rfl, by decide +kernel, 66, by decide +kernel, by decide +kernel, by decide +kernel, w_882, w_102, tw_66⟩
  · cases hl
    have he2 : e = 4 := Option.some.inj (he.symm.trans (by decide +kernel))
    subst he2
    exact ⟨rfl, by decide +kernel, 168, by decide +kernel, by decide +kernel, by decide +kernel, w_1094, w_108, tw_168⟩
