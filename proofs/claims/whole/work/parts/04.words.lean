theorem lwm {w : Cond} (i : Nat) (h : lw_tbl[i]? = some w) (hg : goodWord w = true) : w ∈ lw_g := lw_gi (List.mem_of_getElem? h) hg
theorem ww_fl_X0_9 : Cond.fieldLink RX0 9 "LockTable$Gates" "entries" "[I" ∈ lw_g := lwm 190 (by decide +kernel) rfl
theorem ww_fl_X0_18 : Cond.fieldLink RX0 18 "LockTable$Gates" "inside" "[I" ∈ lw_g := lwm 194 (by decide +kernel) rfl
theorem ww_fl_X0_15 : Cond.fieldLink RX0 15 "LockTable$Gates" "deepest" "[I" ∈ lw_g := lwm 192 (by decide +kernel) rfl
theorem ww_ml_X0_21 : Cond.methodLink RX0 21 Lib.Math.max.name ∈ lw_g := lwm 583 (by decide +kernel) rfl
theorem ww_mx_s : Cond.static Lib.Math.max.name ∈ lw_g := lwm 584 (by decide +kernel) rfl
theorem ww_mx_i : Cond.initialized "java/lang/Math" ∈ lw_g := lwm 74 (by decide +kernel) rfl
theorem ww_mx_c : Cond.code Lib.Math.max.name Lib.Math.max.code 2 (some .int) ∈ lw_g := lwm 585 (by decide +kernel) rfl
theorem ww_fl_X1_15 : Cond.fieldLink RX1 15 "LockTable$Lists" "sizes" "[I" ∈ lw_g := lwm 260 (by decide +kernel) rfl
theorem ww_fl_X1_9 : Cond.fieldLink RX1 9 "LockTable$Lists" "cells" "[I" ∈ lw_g := lwm 258 (by decide +kernel) rfl
theorem ww_ini_RX1 : Cond.initialized RX1 ∈ lw_g := lwm 71 (by decide +kernel) rfl
theorem ww_code_yX1_cell : Cond.code yX1_cell cX1_cell 2 (some .int) ∈ lw_g := lwm 687 (by decide +kernel) rfl
theorem ww_ml_X1_18 : Cond.methodLink RX1 18 yX1_cell ∈ lw_g := lwm 685 (by decide +kernel) rfl
theorem ww_static_yX1_cell : Cond.static yX1_cell ∈ lw_g := lwm 686 (by decide +kernel) rfl
theorem ww_fl_X2_7 : Cond.fieldLink RX2 7 "LockTable$Lot" "seed" "I" ∈ lw_g := lwm 179 (by decide +kernel) rfl
theorem ww_cst_X2_13 : Cond.constant RX2 13 (nI 1103515245) ∈ lw_g := lwm 564 (by decide +kernel) rfl
theorem ww_cst_X2_14 : Cond.constant RX2 14 (nI 2147483647) ∈ lw_g := lwm 565 (by decide +kernel) rfl
theorem ww_cst_X2_15 : Cond.constant RX2 15 (nI 65536) ∈ lw_g := lwm 566 (by decide +kernel) rfl
theorem ww_fl_X3_9 : Cond.fieldLink RX3 9 "LockTable$Paper" "length" "I" ∈ lw_g := lwm 243 (by decide +kernel) rfl
theorem ww_fl_X3_15 : Cond.fieldLink RX3 15 "LockTable$Paper" "bytes" "[B" ∈ lw_g := lwm 245 (by decide +kernel) rfl
theorem ww_ini_RX3 : Cond.initialized RX3 ∈ lw_g := lwm 70 (by decide +kernel) rfl
theorem ww_code_yX3_put : Cond.code yX3_put cX3_put 2 none ∈ lw_g := lwm 666 (by decide +kernel) rfl
theorem ww_ml_X3_23 : Cond.methodLink RX3 23 yX3_put ∈ lw_g := lwm 663 (by decide +kernel) rfl
theorem ww_instanceMethod_yX3_put : Cond.instanceMethod yX3_put ∈ lw_g := lwm 665 (by decide +kernel) rfl
theorem ww_sel_yX3_put : Cond.selects RX3 yX3_put yX3_put ∈ lw_g := lwm 14 (by decide +kernel) rfl
theorem ww_cst_X3_30 : Cond.constant RX3 30 (nI 1000000000) ∈ lw_g := lwm 662 (by decide +kernel) rfl
theorem ww_code_yX3_putNumber : Cond.code yX3_putNumber cX3_putNumber 3 none ∈ lw_g := lwm 661 (by decide +kernel) rfl
theorem ww_ml_X3_19 : Cond.methodLink RX3 19 yX3_putNumber ∈ lw_g := lwm 658 (by decide +kernel) rfl
theorem ww_instanceMethod_yX3_putNumber : Cond.instanceMethod yX3_putNumber ∈ lw_g := lwm 660 (by decide +kernel) rfl
theorem ww_sel_yX3_putNumber : Cond.selects RX3 yX3_putNumber yX3_putNumber ∈ lw_g := lwm 13 (by decide +kernel) rfl
theorem ww_code_yX3_letterOf : Cond.code yX3_letterOf cX3_letterOf 1 (some .int) ∈ lw_g := lwm 669 (by decide +kernel) rfl
theorem ww_ml_X3_26 : Cond.methodLink RX3 26 yX3_letterOf ∈ lw_g := lwm 667 (by decide +kernel) rfl
theorem ww_static_yX3_letterOf : Cond.static yX3_letterOf ∈ lw_g := lwm 668 (by decide +kernel) rfl
theorem ww_fl_X4_25 : Cond.fieldLink RX4 25 "LockTable$Table" "rows" "I" ∈ lw_g := lwm 108 (by decide +kernel) rfl
theorem ww_fl_X4_15 : Cond.fieldLink RX4 15 "LockTable$Player" "onWay" "I" ∈ lw_g := lwm 158 (by decide +kernel) rfl
theorem ww_fl_X4_30 : Cond.fieldLink RX4 30 "LockTable$Table" "rowOwner" "[I" ∈ lw_g := lwm 111 (by decide +kernel) rfl
theorem ww_fl_X4_9 : Cond.fieldLink RX4 9 "LockTable$Player" "nextRow" "[I" ∈ lw_g := lwm 157 (by decide +kernel) rfl
theorem ww_fl_X4_19 : Cond.fieldLink RX4 19 "LockTable$Player" "rounds" "I" ∈ lw_g := lwm 160 (by decide +kernel) rfl
theorem ww_fl_X4_22 : Cond.fieldLink RX4 22 "LockTable$Player" "broken" "I" ∈ lw_g := lwm 162 (by decide +kernel) rfl
theorem ww_fl_X5_37 : Cond.fieldLink RX5 37 "LockTable$Table" "askMode" "[I" ∈ lw_g := lwm 105 (by decide +kernel) rfl
theorem ww_fl_X5_15 : Cond.fieldLink RX5 15 "LockTable$Table" "whole" "[I" ∈ lw_g := lwm 91 (by decide +kernel) rfl
theorem ww_fl_X5_25 : Cond.fieldLink RX5 25 "LockTable$Table" "holding" "[I" ∈ lw_g := lwm 97 (by decide +kernel) rfl
theorem ww_fl_X5_34 : Cond.fieldLink RX5 34 "LockTable$Table" "askThing" "[I" ∈ lw_g := lwm 103 (by decide +kernel) rfl
theorem ww_fl_X5_28 : Cond.fieldLink RX5 28 "LockTable$Table" "waiting" "I" ∈ lw_g := lwm 99 (by decide +kernel) rfl
theorem ww_fl_X5_31 : Cond.fieldLink RX5 31 "LockTable$Table" "line" "[I" ∈ lw_g := lwm 101 (by decide +kernel) rfl
theorem ww_ini_RX5 : Cond.initialized RX5 ∈ lw_g := lwm 65 (by decide +kernel) rfl
theorem ww_code_yX5_barring : Cond.code yX5_barring cX5_barring 10 (some .int) ∈ lw_g := lwm 357 (by decide +kernel) rfl
theorem ww_ml_X5_82 : Cond.methodLink RX5 82 yX5_barring ∈ lw_g := lwm 354 (by decide +kernel) rfl
theorem ww_instanceMethod_yX5_barring : Cond.instanceMethod yX5_barring ∈ lw_g := lwm 356 (by decide +kernel) rfl
theorem ww_sel_yX5_barring : Cond.selects RX5 yX5_barring yX5_barring ∈ lw_g := lwm 0 (by decide +kernel) rfl
theorem ww_code_yX5_isRaise : Cond.code yX5_isRaise cX5_isRaise 5 (some .boolean) ∈ lw_g := lwm 365 (by decide +kernel) rfl
theorem ww_ml_X5_86 : Cond.methodLink RX5 86 yX5_isRaise ∈ lw_g := lwm 362 (by decide +kernel) rfl
theorem ww_instanceMethod_yX5_isRaise : Cond.instanceMethod yX5_isRaise ∈ lw_g := lwm 363 (by decide +kernel) rfl
theorem ww_sel_yX5_isRaise : Cond.selects RX5 yX5_isRaise yX5_isRaise ∈ lw_g := lwm 364 (by decide +kernel) rfl
theorem ww_code_yX5_standingAhead : Cond.code yX5_standingAhead cX5_standingAhead 8 (some .int) ∈ lw_g := lwm 369 (by decide +kernel) rfl
theorem ww_ml_X5_90 : Cond.methodLink RX5 90 yX5_standingAhead ∈ lw_g := lwm 366 (by decide +kernel) rfl
theorem ww_instanceMethod_yX5_standingAhead : Cond.instanceMethod yX5_standingAhead ∈ lw_g := lwm 368 (by decide +kernel) rfl
theorem ww_sel_yX5_standingAhead : Cond.selects RX5 yX5_standingAhead yX5_standingAhead ∈ lw_g := lwm 1 (by decide +kernel) rfl
theorem ww_code_yX5_isWaiting : Cond.code yX5_isWaiting cX5_isWaiting 2 (some .boolean) ∈ lw_g := lwm 334 (by decide +kernel) rfl
theorem ww_ml_X5_75 : Cond.methodLink RX5 75 yX5_isWaiting ∈ lw_g := lwm 331 (by decide +kernel) rfl
theorem ww_instanceMethod_yX5_isWaiting : Cond.instanceMethod yX5_isWaiting ∈ lw_g := lwm 332 (by decide +kernel) rfl
theorem ww_sel_yX5_isWaiting : Cond.selects RX5 yX5_isWaiting yX5_isWaiting ∈ lw_g := lwm 333 (by decide +kernel) rfl
theorem ww_code_yX5_hindrances : Cond.code yX5_hindrances cX5_hindrances 5 (some .int) ∈ lw_g := lwm 353 (by decide +kernel) rfl
theorem ww_ml_X5_103 : Cond.methodLink RX5 103 yX5_hindrances ∈ lw_g := lwm 350 (by decide +kernel) rfl
theorem ww_instanceMethod_yX5_hindrances : Cond.instanceMethod yX5_hindrances ∈ lw_g := lwm 351 (by decide +kernel) rfl
theorem ww_sel_yX5_hindrances : Cond.selects RX5 yX5_hindrances yX5_hindrances ∈ lw_g := lwm 352 (by decide +kernel) rfl
theorem ww_fl_X5_55 : Cond.fieldLink RX5 55 "LockTable$Table" "reach" "[I" ∈ lw_g := lwm 118 (by decide +kernel) rfl
theorem ww_ini_RX7 : Cond.initialized RX7 ∈ lw_g := lwm 64 (by decide +kernel) rfl
theorem ww_code_yX7_hasBit : Cond.code yX7_hasBit cX7_hasBit 2 (some .boolean) ∈ lw_g := lwm 442 (by decide +kernel) rfl
theorem ww_static_yX7_hasBit : Cond.static yX7_hasBit ∈ lw_g := lwm 441 (by decide +kernel) rfl
theorem ww_code_yX5_waitsForBits : Cond.code yX5_waitsForBits cX5_waitsForBits 2 (some .int) ∈ lw_g := lwm 439 (by decide +kernel) rfl
theorem ww_ml_X5_134 : Cond.methodLink RX5 134 yX5_waitsForBits ∈ lw_g := lwm 436 (by decide +kernel) rfl
theorem ww_instanceMethod_yX5_waitsForBits : Cond.instanceMethod yX5_waitsForBits ∈ lw_g := lwm 437 (by decide +kernel) rfl
theorem ww_sel_yX5_waitsForBits : Cond.selects RX5 yX5_waitsForBits yX5_waitsForBits ∈ lw_g := lwm 438 (by decide +kernel) rfl
theorem ww_code_yX5_cell : Cond.code yX5_cell cX5_cell 3 (some .int) ∈ lw_g := lwm 380 (by decide +kernel) rfl
theorem ww_ml_X5_116 : Cond.methodLink RX5 116 yX5_cell ∈ lw_g := lwm 378 (by decide +kernel) rfl
theorem ww_static_yX5_cell : Cond.static yX5_cell ∈ lw_g := lwm 379 (by decide +kernel) rfl
theorem ww_code_yX5_row : Cond.code yX5_row cX5_row 2 (some .int) ∈ lw_g := lwm 383 (by decide +kernel) rfl
theorem ww_ml_X5_78 : Cond.methodLink RX5 78 yX5_row ∈ lw_g := lwm 381 (by decide +kernel) rfl
theorem ww_static_yX5_row : Cond.static yX5_row ∈ lw_g := lwm 382 (by decide +kernel) rfl
theorem ww_fl_X5_22 : Cond.fieldLink RX5 22 "LockTable$Table" "counts" "[I" ∈ lw_g := lwm 95 (by decide +kernel) rfl
theorem ww_code_yX5_shiftCounts : Cond.code yX5_shiftCounts cX5_shiftCounts 10 none ∈ lw_g := lwm 377 (by decide +kernel) rfl
theorem ww_ml_X5_119 : Cond.methodLink RX5 119 yX5_shiftCounts ∈ lw_g := lwm 374 (by decide +kernel) rfl
theorem ww_instanceMethod_yX5_shiftCounts : Cond.instanceMethod yX5_shiftCounts ∈ lw_g := lwm 376 (by decide +kernel) rfl
theorem ww_sel_yX5_shiftCounts : Cond.selects RX5 yX5_shiftCounts yX5_shiftCounts ∈ lw_g := lwm 3 (by decide +kernel) rfl
theorem ww_fl_X5_52 : Cond.fieldLink RX5 52 "LockTable$Table" "grants" "I" ∈ lw_g := lwm 116 (by decide +kernel) rfl
theorem ww_code_yX5_nextToServe : Cond.code yX5_nextToServe cX5_nextToServe 4 (some .int) ∈ lw_g := lwm 407 (by decide +kernel) rfl
theorem ww_ml_X5_131 : Cond.methodLink RX5 131 yX5_nextToServe ∈ lw_g := lwm 404 (by decide +kernel) rfl
theorem ww_instanceMethod_yX5_nextToServe : Cond.instanceMethod yX5_nextToServe ∈ lw_g := lwm 406 (by decide +kernel) rfl
theorem ww_sel_yX5_nextToServe : Cond.selects RX5 yX5_nextToServe yX5_nextToServe ∈ lw_g := lwm 5 (by decide +kernel) rfl
theorem ww_code_yX5_grant : Cond.code yX5_grant cX5_grant 4 none ∈ lw_g := lwm 373 (by decide +kernel) rfl
theorem ww_ml_X5_106 : Cond.methodLink RX5 106 yX5_grant ∈ lw_g := lwm 370 (by decide +kernel) rfl
theorem ww_instanceMethod_yX5_grant : Cond.instanceMethod yX5_grant ∈ lw_g := lwm 372 (by decide +kernel) rfl
theorem ww_sel_yX5_grant : Cond.selects RX5 yX5_grant yX5_grant ∈ lw_g := lwm 2 (by decide +kernel) rfl
theorem ww_code_yX5_quitLine : Cond.code yX5_quitLine cX5_quitLine 4 none ∈ lw_g := lwm 411 (by decide +kernel) rfl
theorem ww_ml_X5_127 : Cond.methodLink RX5 127 yX5_quitLine ∈ lw_g := lwm 408 (by decide +kernel) rfl
theorem ww_instanceMethod_yX5_quitLine : Cond.instanceMethod yX5_quitLine ∈ lw_g := lwm 409 (by decide +kernel) rfl
theorem ww_sel_yX5_quitLine : Cond.selects RX5 yX5_quitLine yX5_quitLine ∈ lw_g := lwm 410 (by decide +kernel) rfl
theorem ww_fl_X5_9 : Cond.fieldLink RX5 9 "LockTable$Table" "things" "I" ∈ lw_g := lwm 89 (by decide +kernel) rfl
theorem ww_code_yX5_serve : Cond.code yX5_serve cX5_serve 4 (some .int) ∈ lw_g := lwm 403 (by decide +kernel) rfl
theorem ww_ml_X5_123 : Cond.methodLink RX5 123 yX5_serve ∈ lw_g := lwm 400 (by decide +kernel) rfl
theorem ww_instanceMethod_yX5_serve : Cond.instanceMethod yX5_serve ∈ lw_g := lwm 401 (by decide +kernel) rfl
theorem ww_sel_yX5_serve : Cond.selects RX5 yX5_serve yX5_serve ∈ lw_g := lwm 402 (by decide +kernel) rfl
theorem ww_code_yX5_askedCounts : Cond.code yX5_askedCounts cX5_askedCounts 5 (some .int) ∈ lw_g := lwm 450 (by decide +kernel) rfl
theorem ww_ml_X5_140 : Cond.methodLink RX5 140 yX5_askedCounts ∈ lw_g := lwm 447 (by decide +kernel) rfl
theorem ww_instanceMethod_yX5_askedCounts : Cond.instanceMethod yX5_askedCounts ∈ lw_g := lwm 448 (by decide +kernel) rfl
theorem ww_sel_yX5_askedCounts : Cond.selects RX5 yX5_askedCounts yX5_askedCounts ∈ lw_g := lwm 449 (by decide +kernel) rfl
theorem ww_code_yX7_isOwner : Cond.code yX7_isOwner cX7_isOwner 1 (some .boolean) ∈ lw_g := lwm 349 (by decide +kernel) rfl
theorem ww_static_yX7_isOwner : Cond.static yX7_isOwner ∈ lw_g := lwm 348 (by decide +kernel) rfl
theorem ww_code_yX5_isThing : Cond.code yX5_isThing cX5_isThing 2 (some .boolean) ∈ lw_g := lwm 309 (by decide +kernel) rfl
theorem ww_ml_X5_68 : Cond.methodLink RX5 68 yX5_isThing ∈ lw_g := lwm 306 (by decide +kernel) rfl
theorem ww_instanceMethod_yX5_isThing : Cond.instanceMethod yX5_isThing ∈ lw_g := lwm 307 (by decide +kernel) rfl
theorem ww_sel_yX5_isThing : Cond.selects RX5 yX5_isThing yX5_isThing ∈ lw_g := lwm 308 (by decide +kernel) rfl
theorem ww_code_yX5_joinLine : Cond.code yX5_joinLine cX5_joinLine 4 none ∈ lw_g := lwm 391 (by decide +kernel) rfl
theorem ww_ml_X5_113 : Cond.methodLink RX5 113 yX5_joinLine ∈ lw_g := lwm 388 (by decide +kernel) rfl
theorem ww_instanceMethod_yX5_joinLine : Cond.instanceMethod yX5_joinLine ∈ lw_g := lwm 389 (by decide +kernel) rfl
theorem ww_sel_yX5_joinLine : Cond.selects RX5 yX5_joinLine yX5_joinLine ∈ lw_g := lwm 390 (by decide +kernel) rfl
theorem ww_code_yX5_isAsk : Cond.code yX5_isAsk cX5_isAsk 4 (some .boolean) ∈ lw_g := lwm 346 (by decide +kernel) rfl
theorem ww_ml_X5_99 : Cond.methodLink RX5 99 yX5_isAsk ∈ lw_g := lwm 343 (by decide +kernel) rfl
theorem ww_instanceMethod_yX5_isAsk : Cond.instanceMethod yX5_isAsk ∈ lw_g := lwm 344 (by decide +kernel) rfl
theorem ww_sel_yX5_isAsk : Cond.selects RX5 yX5_isAsk yX5_isAsk ∈ lw_g := lwm 345 (by decide +kernel) rfl
theorem ww_code_yX5_raiseWaits : Cond.code yX5_raiseWaits cX5_raiseWaits 3 (some .boolean) ∈ lw_g := lwm 387 (by decide +kernel) rfl
theorem ww_ml_X5_110 : Cond.methodLink RX5 110 yX5_raiseWaits ∈ lw_g := lwm 384 (by decide +kernel) rfl
theorem ww_instanceMethod_yX5_raiseWaits : Cond.instanceMethod yX5_raiseWaits ∈ lw_g := lwm 386 (by decide +kernel) rfl
theorem ww_sel_yX5_raiseWaits : Cond.selects RX5 yX5_raiseWaits yX5_raiseWaits ∈ lw_g := lwm 4 (by decide +kernel) rfl
theorem ww_code_yX5_ringBits : Cond.code yX5_ringBits cX5_ringBits 3 (some .int) ∈ lw_g := lwm 435 (by decide +kernel) rfl
theorem ww_ml_X4_59 : Cond.methodLink RX4 59 yX5_ringBits ∈ lw_g := lwm 550 (by decide +kernel) rfl
theorem ww_instanceMethod_yX5_ringBits : Cond.instanceMethod yX5_ringBits ∈ lw_g := lwm 433 (by decide +kernel) rfl
theorem ww_sel_yX5_ringBits : Cond.selects RX5 yX5_ringBits yX5_ringBits ∈ lw_g := lwm 434 (by decide +kernel) rfl
theorem ww_code_yX5_leastOf : Cond.code yX5_leastOf cX5_leastOf 6 (some .int) ∈ lw_g := lwm 446 (by decide +kernel) rfl
theorem ww_ml_X4_63 : Cond.methodLink RX4 63 yX5_leastOf ∈ lw_g := lwm 551 (by decide +kernel) rfl
theorem ww_instanceMethod_yX5_leastOf : Cond.instanceMethod yX5_leastOf ∈ lw_g := lwm 444 (by decide +kernel) rfl
theorem ww_sel_yX5_leastOf : Cond.selects RX5 yX5_leastOf yX5_leastOf ∈ lw_g := lwm 445 (by decide +kernel) rfl
theorem ww_code_yX5_giveUpAll : Cond.code yX5_giveUpAll cX5_giveUpAll 4 (some .int) ∈ lw_g := lwm 420 (by decide +kernel) rfl
theorem ww_ml_X4_55 : Cond.methodLink RX4 55 yX5_giveUpAll ∈ lw_g := lwm 549 (by decide +kernel) rfl
theorem ww_instanceMethod_yX5_giveUpAll : Cond.instanceMethod yX5_giveUpAll ∈ lw_g := lwm 418 (by decide +kernel) rfl
theorem ww_sel_yX5_giveUpAll : Cond.selects RX5 yX5_giveUpAll yX5_giveUpAll ∈ lw_g := lwm 419 (by decide +kernel) rfl
theorem ww_ml_X4_37 : Cond.methodLink RX4 37 yX5_isWaiting ∈ lw_g := lwm 543 (by decide +kernel) rfl
theorem ww_ini_RX4 : Cond.initialized RX4 ∈ lw_g := lwm 66 (by decide +kernel) rfl
theorem ww_code_yX4_takeRow : Cond.code yX4_takeRow cX4_takeRow 4 (some .int) ∈ lw_g := lwm 547 (by decide +kernel) rfl
theorem ww_ml_X4_41 : Cond.methodLink RX4 41 yX4_takeRow ∈ lw_g := lwm 544 (by decide +kernel) rfl
theorem ww_instanceMethod_yX4_takeRow : Cond.instanceMethod yX4_takeRow ∈ lw_g := lwm 546 (by decide +kernel) rfl
theorem ww_sel_yX4_takeRow : Cond.selects RX4 yX4_takeRow yX4_takeRow ∈ lw_g := lwm 6 (by decide +kernel) rfl
theorem ww_fl_X4_45 : Cond.fieldLink RX4 45 "LockTable$Table" "rowThing" "[I" ∈ lw_g := lwm 113 (by decide +kernel) rfl
theorem ww_fl_X4_48 : Cond.fieldLink RX4 48 "LockTable$Table" "rowMode" "[I" ∈ lw_g := lwm 115 (by decide +kernel) rfl
theorem ww_code_yX5_request : Cond.code yX5_request cX5_request 4 (some .int) ∈ lw_g := lwm 342 (by decide +kernel) rfl
theorem ww_ml_X4_51 : Cond.methodLink RX4 51 yX5_request ∈ lw_g := lwm 548 (by decide +kernel) rfl
theorem ww_instanceMethod_yX5_request : Cond.instanceMethod yX5_request ∈ lw_g := lwm 340 (by decide +kernel) rfl
theorem ww_sel_yX5_request : Cond.selects RX5 yX5_request yX5_request ∈ lw_g := lwm 341 (by decide +kernel) rfl
theorem ww_ml_X5_58 : Cond.methodLink RX5 58 arraycopyName ∈ lw_g := lwm 508 (by decide +kernel) rfl
theorem ww_cp_n : Cond.native arraycopyName ∈ lw_g := lwm 510 (by decide +kernel) rfl
theorem ww_cp_s : Cond.static arraycopyName ∈ lw_g := lwm 509 (by decide +kernel) rfl
theorem ww_cp_i : Cond.initialized "java/lang/System" ∈ lw_g := lwm 73 (by decide +kernel) rfl
theorem ww_fl_X5_19 : Cond.fieldLink RX5 19 "LockTable$Table" "bare" "[I" ∈ lw_g := lwm 93 (by decide +kernel) rfl
theorem ww_fl_X5_40 : Cond.fieldLink RX5 40 "LockTable$Table" "rows" "I" ∈ lw_g := lwm 107 (by decide +kernel) rfl
theorem ww_fl_X5_43 : Cond.fieldLink RX5 43 "LockTable$Table" "rowOwner" "[I" ∈ lw_g := lwm 110 (by decide +kernel) rfl
theorem ww_fl_X5_46 : Cond.fieldLink RX5 46 "LockTable$Table" "rowThing" "[I" ∈ lw_g := lwm 112 (by decide +kernel) rfl
theorem ww_fl_X5_49 : Cond.fieldLink RX5 49 "LockTable$Table" "rowMode" "[I" ∈ lw_g := lwm 114 (by decide +kernel) rfl
theorem ww_code_yX5_countsAt : Cond.code yX5_countsAt cX5_countsAt 5 (some .int) ∈ lw_g := lwm 326 (by decide +kernel) rfl
theorem ww_ml_X5_71 : Cond.methodLink RX5 71 yX5_countsAt ∈ lw_g := lwm 497 (by decide +kernel) rfl
theorem ww_instanceMethod_yX5_countsAt : Cond.instanceMethod yX5_countsAt ∈ lw_g := lwm 324 (by decide +kernel) rfl
theorem ww_sel_yX5_countsAt : Cond.selects RX5 yX5_countsAt yX5_countsAt ∈ lw_g := lwm 325 (by decide +kernel) rfl
theorem ww_fl_X6_9 : Cond.fieldLink RX6 9 "LockTable$Tape" "length" "I" ∈ lw_g := lwm 209 (by decide +kernel) rfl
theorem ww_fl_X6_15 : Cond.fieldLink RX6 15 "LockTable$Tape" "bytes" "[B" ∈ lw_g := lwm 211 (by decide +kernel) rfl
theorem ww_fl_X6_19 : Cond.fieldLink RX6 19 "LockTable$Tape" "at" "I" ∈ lw_g := lwm 212 (by decide +kernel) rfl
theorem ww_ini_RX6 : Cond.initialized RX6 ∈ lw_g := lwm 69 (by decide +kernel) rfl
theorem ww_code_yX6_peek : Cond.code yX6_peek cX6_peek 1 (some .int) ∈ lw_g := lwm 628 (by decide +kernel) rfl
theorem ww_ml_X6_42 : Cond.methodLink RX6 42 yX6_peek ∈ lw_g := lwm 625 (by decide +kernel) rfl
theorem ww_instanceMethod_yX6_peek : Cond.instanceMethod yX6_peek ∈ lw_g := lwm 627 (by decide +kernel) rfl
theorem ww_sel_yX6_peek : Cond.selects RX6 yX6_peek yX6_peek ∈ lw_g := lwm 10 (by decide +kernel) rfl
theorem ww_code_yX6_isFigure : Cond.code yX6_isFigure cX6_isFigure 1 (some .boolean) ∈ lw_g := lwm 635 (by decide +kernel) rfl
theorem ww_ml_X6_56 : Cond.methodLink RX6 56 yX6_isFigure ∈ lw_g := lwm 633 (by decide +kernel) rfl
theorem ww_static_yX6_isFigure : Cond.static yX6_isFigure ∈ lw_g := lwm 634 (by decide +kernel) rfl
theorem ww_fl_X6_29 : Cond.fieldLink RX6 29 "LockTable$Tape" "mode" "[I" ∈ lw_g := lwm 216 (by decide +kernel) rfl
theorem ww_code_yX6_modeOf : Cond.code yX6_modeOf cX6_modeOf 1 (some .int) ∈ lw_g := lwm 642 (by decide +kernel) rfl
theorem ww_ml_X6_52 : Cond.methodLink RX6 52 yX6_modeOf ∈ lw_g := lwm 640 (by decide +kernel) rfl
theorem ww_static_yX6_modeOf : Cond.static yX6_modeOf ∈ lw_g := lwm 641 (by decide +kernel) rfl
theorem ww_fl_X6_32 : Cond.fieldLink RX6 32 "LockTable$Tape" "owner" "[I" ∈ lw_g := lwm 217 (by decide +kernel) rfl
theorem ww_fl_X6_35 : Cond.fieldLink RX6 35 "LockTable$Tape" "number" "[I" ∈ lw_g := lwm 218 (by decide +kernel) rfl
theorem ww_code_yX6_parseNumber : Cond.code yX6_parseNumber cX6_parseNumber 2 (some .int) ∈ lw_g := lwm 632 (by decide +kernel) rfl
theorem ww_ml_X6_46 : Cond.methodLink RX6 46 yX6_parseNumber ∈ lw_g := lwm 629 (by decide +kernel) rfl
theorem ww_instanceMethod_yX6_parseNumber : Cond.instanceMethod yX6_parseNumber ∈ lw_g := lwm 631 (by decide +kernel) rfl
theorem ww_sel_yX6_parseNumber : Cond.selects RX6 yX6_parseNumber yX6_parseNumber ∈ lw_g := lwm 11 (by decide +kernel) rfl
theorem ww_code_yX6_parseAsk : Cond.code yX6_parseAsk cX6_parseAsk 2 (some .boolean) ∈ lw_g := lwm 639 (by decide +kernel) rfl
theorem ww_ml_X6_49 : Cond.methodLink RX6 49 yX6_parseAsk ∈ lw_g := lwm 636 (by decide +kernel) rfl
theorem ww_instanceMethod_yX6_parseAsk : Cond.instanceMethod yX6_parseAsk ∈ lw_g := lwm 638 (by decide +kernel) rfl
theorem ww_sel_yX6_parseAsk : Cond.selects RX6 yX6_parseAsk yX6_parseAsk ∈ lw_g := lwm 12 (by decide +kernel) rfl
theorem ww_fl_X6_26 : Cond.fieldLink RX6 26 "LockTable$Tape" "kind" "[I" ∈ lw_g := lwm 215 (by decide +kernel) rfl
theorem ww_fl_X6_22 : Cond.fieldLink RX6 22 "LockTable$Tape" "start" "[I" ∈ lw_g := lwm 213 (by decide +kernel) rfl
theorem ww_code_yX6_parseStatement : Cond.code yX6_parseStatement cX6_parseStatement 3 (some .boolean) ∈ lw_g := lwm 624 (by decide +kernel) rfl
theorem ww_ml_X6_38 : Cond.methodLink RX6 38 yX6_parseStatement ∈ lw_g := lwm 621 (by decide +kernel) rfl
theorem ww_instanceMethod_yX6_parseStatement : Cond.instanceMethod yX6_parseStatement ∈ lw_g := lwm 623 (by decide +kernel) rfl
theorem ww_sel_yX6_parseStatement : Cond.selects RX6 yX6_parseStatement yX6_parseStatement ∈ lw_g := lwm 9 (by decide +kernel) rfl
theorem ww_code_yX5_giveUp : Cond.code yX5_giveUp cX5_giveUp 4 (some .int) ∈ lw_g := lwm 399 (by decide +kernel) rfl
theorem ww_ml_X6_65 : Cond.methodLink RX6 65 yX5_giveUp ∈ lw_g := lwm 648 (by decide +kernel) rfl
theorem ww_instanceMethod_yX5_giveUp : Cond.instanceMethod yX5_giveUp ∈ lw_g := lwm 397 (by decide +kernel) rfl
theorem ww_sel_yX5_giveUp : Cond.selects RX5 yX5_giveUp yX5_giveUp ∈ lw_g := lwm 398 (by decide +kernel) rfl
theorem ww_code_yX5_addThing : Cond.code yX5_addThing cX5_addThing 3 (some .int) ∈ lw_g := lwm 305 (by decide +kernel) rfl
theorem ww_ml_X6_59 : Cond.methodLink RX6 59 yX5_addThing ∈ lw_g := lwm 647 (by decide +kernel) rfl
theorem ww_instanceMethod_yX5_addThing : Cond.instanceMethod yX5_addThing ∈ lw_g := lwm 303 (by decide +kernel) rfl
theorem ww_sel_yX5_addThing : Cond.selects RX5 yX5_addThing yX5_addThing ∈ lw_g := lwm 304 (by decide +kernel) rfl
theorem ww_ml_X6_69 : Cond.methodLink RX6 69 yX5_request ∈ lw_g := lwm 649 (by decide +kernel) rfl
theorem ww_fl_X7_12 : Cond.fieldLink RX7 12 "LockTable" "truth" "LLockTable$Table;" ∈ lw_g := lwm 267 (by decide +kernel) rfl
theorem ww_ml_X7_70 : Cond.methodLink RX7 70 yX5_addThing ∈ lw_g := lwm 302 (by decide +kernel) rfl
theorem ww_ml_X7_74 : Cond.methodLink RX7 74 yX5_isThing ∈ lw_g := lwm 314 (by decide +kernel) rfl
theorem ww_fl_X7_78 : Cond.fieldLink RX7 78 "LockTable$Table" "whole" "[I" ∈ lw_g := lwm 92 (by decide +kernel) rfl
theorem ww_fl_X7_82 : Cond.fieldLink RX7 82 "LockTable$Table" "bare" "[I" ∈ lw_g := lwm 94 (by decide +kernel) rfl
theorem ww_code_yX5_wholesAbove : Cond.code yX5_wholesAbove cX5_wholesAbove 4 (some .int) ∈ lw_g := lwm 318 (by decide +kernel) rfl
theorem ww_ml_X7_85 : Cond.methodLink RX7 85 yX5_wholesAbove ∈ lw_g := lwm 315 (by decide +kernel) rfl
theorem ww_instanceMethod_yX5_wholesAbove : Cond.instanceMethod yX5_wholesAbove ∈ lw_g := lwm 316 (by decide +kernel) rfl
theorem ww_sel_yX5_wholesAbove : Cond.selects RX5 yX5_wholesAbove yX5_wholesAbove ∈ lw_g := lwm 317 (by decide +kernel) rfl
theorem ww_code_yX5_partBits : Cond.code yX5_partBits cX5_partBits 4 (some .int) ∈ lw_g := lwm 322 (by decide +kernel) rfl
theorem ww_ml_X7_89 : Cond.methodLink RX7 89 yX5_partBits ∈ lw_g := lwm 319 (by decide +kernel) rfl
theorem ww_instanceMethod_yX5_partBits : Cond.instanceMethod yX5_partBits ∈ lw_g := lwm 320 (by decide +kernel) rfl
theorem ww_sel_yX5_partBits : Cond.selects RX5 yX5_partBits yX5_partBits ∈ lw_g := lwm 321 (by decide +kernel) rfl
theorem ww_ml_X7_92 : Cond.methodLink RX7 92 yX5_countsAt ∈ lw_g := lwm 323 (by decide +kernel) rfl
theorem ww_code_yX5_asksFor : Cond.code yX5_asksFor cX5_asksFor 4 (some .int) ∈ lw_g := lwm 330 (by decide +kernel) rfl
theorem ww_ml_X7_95 : Cond.methodLink RX7 95 yX5_asksFor ∈ lw_g := lwm 327 (by decide +kernel) rfl
theorem ww_instanceMethod_yX5_asksFor : Cond.instanceMethod yX5_asksFor ∈ lw_g := lwm 328 (by decide +kernel) rfl
theorem ww_sel_yX5_asksFor : Cond.selects RX5 yX5_asksFor yX5_asksFor ∈ lw_g := lwm 329 (by decide +kernel) rfl
theorem ww_ml_X7_98 : Cond.methodLink RX7 98 yX5_request ∈ lw_g := lwm 339 (by decide +kernel) rfl
theorem ww_ml_X7_102 : Cond.methodLink RX7 102 yX5_giveUp ∈ lw_g := lwm 396 (by decide +kernel) rfl
theorem ww_ml_X7_105 : Cond.methodLink RX7 105 yX7_isOwner ∈ lw_g := lwm 416 (by decide +kernel) rfl
theorem ww_ml_X7_108 : Cond.methodLink RX7 108 yX5_giveUpAll ∈ lw_g := lwm 417 (by decide +kernel) rfl
theorem ww_ml_X7_111 : Cond.methodLink RX7 111 yX5_isWaiting ∈ lw_g := lwm 425 (by decide +kernel) rfl
theorem ww_ml_X7_114 : Cond.methodLink RX7 114 yX5_quitLine ∈ lw_g := lwm 426 (by decide +kernel) rfl
theorem ww_ml_X7_118 : Cond.methodLink RX7 118 yX5_serve ∈ lw_g := lwm 427 (by decide +kernel) rfl
theorem ww_ml_X7_122 : Cond.methodLink RX7 122 yX5_ringBits ∈ lw_g := lwm 432 (by decide +kernel) rfl
theorem ww_ml_X7_125 : Cond.methodLink RX7 125 yX5_leastOf ∈ lw_g := lwm 443 (by decide +kernel) rfl
theorem ww_code_yX7_isMode : Cond.code yX7_isMode cX7_isMode 1 (some .boolean) ∈ lw_g := lwm 459 (by decide +kernel) rfl
theorem ww_ml_X7_128 : Cond.methodLink RX7 128 yX7_isMode ∈ lw_g := lwm 457 (by decide +kernel) rfl
theorem ww_static_yX7_isMode : Cond.static yX7_isMode ∈ lw_g := lwm 458 (by decide +kernel) rfl
theorem ww_fl_X7_131 : Cond.fieldLink RX7 131 "LockTable$Table" "counts" "[I" ∈ lw_g := lwm 96 (by decide +kernel) rfl
theorem ww_ml_X7_134 : Cond.methodLink RX7 134 yX5_cell ∈ lw_g := lwm 460 (by decide +kernel) rfl
theorem ww_fl_X7_140 : Cond.fieldLink RX7 140 "LockTable$Table" "holding" "[I" ∈ lw_g := lwm 98 (by decide +kernel) rfl
theorem ww_ml_X7_143 : Cond.methodLink RX7 143 yX5_row ∈ lw_g := lwm 469 (by decide +kernel) rfl
theorem ww_code_yX5_holdersInAny : Cond.code yX5_holdersInAny cX5_holdersInAny 4 (some .int) ∈ lw_g := lwm 468 (by decide +kernel) rfl
theorem ww_ml_X7_137 : Cond.methodLink RX7 137 yX5_holdersInAny ∈ lw_g := lwm 465 (by decide +kernel) rfl
theorem ww_instanceMethod_yX5_holdersInAny : Cond.instanceMethod yX5_holdersInAny ∈ lw_g := lwm 466 (by decide +kernel) rfl
theorem ww_sel_yX5_holdersInAny : Cond.selects RX5 yX5_holdersInAny yX5_holdersInAny ∈ lw_g := lwm 467 (by decide +kernel) rfl
theorem ww_fl_X7_146 : Cond.fieldLink RX7 146 "LockTable$Table" "askThing" "[I" ∈ lw_g := lwm 104 (by decide +kernel) rfl
theorem ww_fl_X7_149 : Cond.fieldLink RX7 149 "LockTable$Table" "askMode" "[I" ∈ lw_g := lwm 106 (by decide +kernel) rfl
theorem ww_ml_X7_152 : Cond.methodLink RX7 152 yX5_isRaise ∈ lw_g := lwm 474 (by decide +kernel) rfl
theorem ww_fl_X7_156 : Cond.fieldLink RX7 156 "LockTable$Table" "waiting" "I" ∈ lw_g := lwm 100 (by decide +kernel) rfl
theorem ww_fl_X7_160 : Cond.fieldLink RX7 160 "LockTable$Table" "line" "[I" ∈ lw_g := lwm 102 (by decide +kernel) rfl
theorem ww_ml_X7_163 : Cond.methodLink RX7 163 yX5_waitsForBits ∈ lw_g := lwm 483 (by decide +kernel) rfl
theorem ww_ml_X7_166 : Cond.methodLink RX7 166 yX5_askedCounts ∈ lw_g := lwm 488 (by decide +kernel) rfl
theorem ww_fl_X7_169 : Cond.fieldLink RX7 169 "LockTable$Table" "things" "I" ∈ lw_g := lwm 90 (by decide +kernel) rfl
theorem ww_code_yX5_allCounts : Cond.code yX5_allCounts cX5_allCounts 3 (some .int) ∈ lw_g := lwm 496 (by decide +kernel) rfl
theorem ww_ml_X7_172 : Cond.methodLink RX7 172 yX5_allCounts ∈ lw_g := lwm 493 (by decide +kernel) rfl
theorem ww_instanceMethod_yX5_allCounts : Cond.instanceMethod yX5_allCounts ∈ lw_g := lwm 494 (by decide +kernel) rfl
theorem ww_sel_yX5_allCounts : Cond.selects RX5 yX5_allCounts yX5_allCounts ∈ lw_g := lwm 495 (by decide +kernel) rfl
theorem ww_fl_X7_175 : Cond.fieldLink RX7 175 "LockTable$Table" "rows" "I" ∈ lw_g := lwm 109 (by decide +kernel) rfl
theorem ww_fl_X7_52 : Cond.fieldLink RX7 52 "LockTable" "tape" "LLockTable$Tape;" ∈ lw_g := lwm 274 (by decide +kernel) rfl
theorem ww_fl_X7_178 : Cond.fieldLink RX7 178 "LockTable$Tape" "length" "I" ∈ lw_g := lwm 210 (by decide +kernel) rfl
theorem ww_fl_X7_59 : Cond.fieldLink RX7 59 "LockTable" "sheet" "LLockTable$Paper;" ∈ lw_g := lwm 275 (by decide +kernel) rfl
theorem ww_fl_X7_181 : Cond.fieldLink RX7 181 "LockTable$Paper" "length" "I" ∈ lw_g := lwm 244 (by decide +kernel) rfl
theorem ww_fl_X7_182 : Cond.fieldLink RX7 182 "LockTable$Table" "grants" "I" ∈ lw_g := lwm 117 (by decide +kernel) rfl
theorem ww_ml_X7_185 : Cond.methodLink RX7 185 yX5_isAsk ∈ lw_g := lwm 502 (by decide +kernel) rfl
theorem ww_ml_X7_189 : Cond.methodLink RX7 189 yX5_hindrances ∈ lw_g := lwm 503 (by decide +kernel) rfl
theorem ww_fl_X7_18 : Cond.fieldLink RX7 18 "LockTable" "thought" "LLockTable$Table;" ∈ lw_g := lwm 268 (by decide +kernel) rfl
theorem ww_code_yX5_copyFrom : Cond.code yX5_copyFrom cX5_copyFrom 2 none ∈ lw_g := lwm 507 (by decide +kernel) rfl
theorem ww_ml_X7_192 : Cond.methodLink RX7 192 yX5_copyFrom ∈ lw_g := lwm 504 (by decide +kernel) rfl
theorem ww_instanceMethod_yX5_copyFrom : Cond.instanceMethod yX5_copyFrom ∈ lw_g := lwm 505 (by decide +kernel) rfl
theorem ww_sel_yX5_copyFrom : Cond.selects RX5 yX5_copyFrom yX5_copyFrom ∈ lw_g := lwm 506 (by decide +kernel) rfl
theorem ww_ml_X7_196 : Cond.methodLink RX7 196 yX5_joinLine ∈ lw_g := lwm 511 (by decide +kernel) rfl
theorem ww_ml_X7_200 : Cond.methodLink RX7 200 yX7_hasBit ∈ lw_g := lwm 512 (by decide +kernel) rfl
theorem ww_fl_X7_203 : Cond.fieldLink RX7 203 "LockTable" "ASKED_MODES" "[I" ∈ lw_g := lwm 521 (by decide +kernel) rfl
theorem ww_code_yX5_addRow : Cond.code yX5_addRow cX5_addRow 4 (some .int) ∈ lw_g := lwm 529 (by decide +kernel) rfl
theorem ww_ml_X7_206 : Cond.methodLink RX7 206 yX5_addRow ∈ lw_g := lwm 526 (by decide +kernel) rfl
theorem ww_instanceMethod_yX5_addRow : Cond.instanceMethod yX5_addRow ∈ lw_g := lwm 527 (by decide +kernel) rfl
theorem ww_sel_yX5_addRow : Cond.selects RX5 yX5_addRow yX5_addRow ∈ lw_g := lwm 528 (by decide +kernel) rfl
theorem ww_fl_X7_31 : Cond.fieldLink RX7 31 "LockTable" "player" "LLockTable$Player;" ∈ lw_g := lwm 271 (by decide +kernel) rfl
theorem ww_fl_X7_212 : Cond.fieldLink RX7 212 "LockTable$Player" "onWay" "I" ∈ lw_g := lwm 159 (by decide +kernel) rfl
theorem ww_fl_X7_218 : Cond.fieldLink RX7 218 "LockTable$Player" "rounds" "I" ∈ lw_g := lwm 161 (by decide +kernel) rfl
theorem ww_fl_X7_221 : Cond.fieldLink RX7 221 "LockTable$Player" "broken" "I" ∈ lw_g := lwm 163 (by decide +kernel) rfl
theorem ww_code_yX4_playRound : Cond.code yX4_playRound cX4_playRound 4 none ∈ lw_g := lwm 541 (by decide +kernel) rfl
theorem ww_ml_X7_215 : Cond.methodLink RX7 215 yX4_playRound ∈ lw_g := lwm 538 (by decide +kernel) rfl
theorem ww_instanceMethod_yX4_playRound : Cond.instanceMethod yX4_playRound ∈ lw_g := lwm 539 (by decide +kernel) rfl
theorem ww_sel_yX4_playRound : Cond.selects RX4 yX4_playRound yX4_playRound ∈ lw_g := lwm 540 (by decide +kernel) rfl
theorem ww_code_yX4_start : Cond.code yX4_start cX4_start 3 none ∈ lw_g := lwm 537 (by decide +kernel) rfl
theorem ww_ml_X7_209 : Cond.methodLink RX7 209 yX4_start ∈ lw_g := lwm 534 (by decide +kernel) rfl
theorem ww_instanceMethod_yX4_start : Cond.instanceMethod yX4_start ∈ lw_g := lwm 535 (by decide +kernel) rfl
theorem ww_sel_yX4_start : Cond.selects RX4 yX4_start yX4_start ∈ lw_g := lwm 536 (by decide +kernel) rfl
theorem ww_fl_X7_38 : Cond.fieldLink RX7 38 "LockTable" "lot" "LLockTable$Lot;" ∈ lw_g := lwm 272 (by decide +kernel) rfl
theorem ww_ini_RX2 : Cond.initialized RX2 ∈ lw_g := lwm 67 (by decide +kernel) rfl
theorem ww_code_yX2_below : Cond.code yX2_below cX2_below 2 (some .int) ∈ lw_g := lwm 563 (by decide +kernel) rfl
theorem ww_ml_X7_230 : Cond.methodLink RX7 230 yX2_below ∈ lw_g := lwm 560 (by decide +kernel) rfl
theorem ww_instanceMethod_yX2_below : Cond.instanceMethod yX2_below ∈ lw_g := lwm 561 (by decide +kernel) rfl
theorem ww_sel_yX2_below : Cond.selects RX2 yX2_below yX2_below ∈ lw_g := lwm 562 (by decide +kernel) rfl
theorem ww_code_yX7_askByLot : Cond.code yX7_askByLot cX7_askByLot 3 (some .int) ∈ lw_g := lwm 559 (by decide +kernel) rfl
theorem ww_ml_X7_227 : Cond.methodLink RX7 227 yX7_askByLot ∈ lw_g := lwm 556 (by decide +kernel) rfl
theorem ww_instanceMethod_yX7_askByLot : Cond.instanceMethod yX7_askByLot ∈ lw_g := lwm 558 (by decide +kernel) rfl
theorem ww_sel_yX7_askByLot : Cond.selects RX7 yX7_askByLot yX7_askByLot ∈ lw_g := lwm 7 (by decide +kernel) rfl
theorem ww_fl_X7_224 : Cond.fieldLink RX7 224 "LockTable$Lot" "seed" "I" ∈ lw_g := lwm 180 (by decide +kernel) rfl
theorem ww_code_yX5_isBare : Cond.code yX5_isBare cX5_isBare 2 (some .boolean) ∈ lw_g := lwm 578 (by decide +kernel) rfl
theorem ww_ml_X7_246 : Cond.methodLink RX7 246 yX5_isBare ∈ lw_g := lwm 575 (by decide +kernel) rfl
theorem ww_instanceMethod_yX5_isBare : Cond.instanceMethod yX5_isBare ∈ lw_g := lwm 576 (by decide +kernel) rfl
theorem ww_sel_yX5_isBare : Cond.selects RX5 yX5_isBare yX5_isBare ∈ lw_g := lwm 577 (by decide +kernel) rfl
theorem ww_ini_RX0 : Cond.initialized RX0 ∈ lw_g := lwm 68 (by decide +kernel) rfl
theorem ww_code_yX0_enter : Cond.code yX0_enter cX0_enter 2 none ∈ lw_g := lwm 582 (by decide +kernel) rfl
theorem ww_ml_X7_236 : Cond.methodLink RX7 236 yX0_enter ∈ lw_g := lwm 579 (by decide +kernel) rfl
theorem ww_instanceMethod_yX0_enter : Cond.instanceMethod yX0_enter ∈ lw_g := lwm 580 (by decide +kernel) rfl
theorem ww_sel_yX0_enter : Cond.selects RX0 yX0_enter yX0_enter ∈ lw_g := lwm 581 (by decide +kernel) rfl
theorem ww_code_yX7_weighInside : Cond.code yX7_weighInside cX7_weighInside 8 (some .int) ∈ lw_g := lwm 588 (by decide +kernel) rfl
theorem ww_ml_X7_239 : Cond.methodLink RX7 239 yX7_weighInside ∈ lw_g := lwm 586 (by decide +kernel) rfl
theorem ww_static_yX7_weighInside : Cond.static yX7_weighInside ∈ lw_g := lwm 587 (by decide +kernel) rfl
theorem ww_code_yX0_leave : Cond.code yX0_leave cX0_leave 2 none ∈ lw_g := lwm 592 (by decide +kernel) rfl
theorem ww_ml_X7_243 : Cond.methodLink RX7 243 yX0_leave ∈ lw_g := lwm 589 (by decide +kernel) rfl
theorem ww_instanceMethod_yX0_leave : Cond.instanceMethod yX0_leave ∈ lw_g := lwm 590 (by decide +kernel) rfl
theorem ww_sel_yX0_leave : Cond.selects RX0 yX0_leave yX0_leave ∈ lw_g := lwm 591 (by decide +kernel) rfl
theorem ww_code_yX7_gateRefusal : Cond.code yX7_gateRefusal cX7_gateRefusal 2 (some .int) ∈ lw_g := lwm 574 (by decide +kernel) rfl
theorem ww_ml_X7_233 : Cond.methodLink RX7 233 yX7_gateRefusal ∈ lw_g := lwm 571 (by decide +kernel) rfl
theorem ww_instanceMethod_yX7_gateRefusal : Cond.instanceMethod yX7_gateRefusal ∈ lw_g := lwm 573 (by decide +kernel) rfl
theorem ww_sel_yX7_gateRefusal : Cond.selects RX7 yX7_gateRefusal yX7_gateRefusal ∈ lw_g := lwm 8 (by decide +kernel) rfl
theorem ww_fl_X7_45 : Cond.fieldLink RX7 45 "LockTable" "gates" "LLockTable$Gates;" ∈ lw_g := lwm 273 (by decide +kernel) rfl
theorem ww_fl_X7_249 : Cond.fieldLink RX7 249 "LockTable$Gates" "entries" "[I" ∈ lw_g := lwm 191 (by decide +kernel) rfl
theorem ww_fl_X7_252 : Cond.fieldLink RX7 252 "LockTable$Gates" "deepest" "[I" ∈ lw_g := lwm 193 (by decide +kernel) rfl
theorem ww_fl_X7_255 : Cond.fieldLink RX7 255 "LockTable$Gates" "inside" "[I" ∈ lw_g := lwm 195 (by decide +kernel) rfl
theorem ww_code_yX6_append : Cond.code yX6_append cX6_append 2 none ∈ lw_g := lwm 612 (by decide +kernel) rfl
theorem ww_ml_X7_258 : Cond.methodLink RX7 258 yX6_append ∈ lw_g := lwm 609 (by decide +kernel) rfl
theorem ww_instanceMethod_yX6_append : Cond.instanceMethod yX6_append ∈ lw_g := lwm 610 (by decide +kernel) rfl
theorem ww_sel_yX6_append : Cond.selects RX6 yX6_append yX6_append ∈ lw_g := lwm 611 (by decide +kernel) rfl
theorem ww_code_yX6_perform : Cond.code yX6_perform cX6_perform 3 (some .int) ∈ lw_g := lwm 646 (by decide +kernel) rfl
theorem ww_ml_X7_264 : Cond.methodLink RX7 264 yX6_perform ∈ lw_g := lwm 643 (by decide +kernel) rfl
theorem ww_instanceMethod_yX6_perform : Cond.instanceMethod yX6_perform ∈ lw_g := lwm 644 (by decide +kernel) rfl
theorem ww_sel_yX6_perform : Cond.selects RX6 yX6_perform yX6_perform ∈ lw_g := lwm 645 (by decide +kernel) rfl
theorem ww_fl_X7_268 : Cond.fieldLink RX7 268 "LockTable$Tape" "start" "[I" ∈ lw_g := lwm 214 (by decide +kernel) rfl
theorem ww_code_yX6_parse : Cond.code yX6_parse cX6_parse 2 (some .int) ∈ lw_g := lwm 620 (by decide +kernel) rfl
theorem ww_ml_X7_261 : Cond.methodLink RX7 261 yX6_parse ∈ lw_g := lwm 617 (by decide +kernel) rfl
theorem ww_instanceMethod_yX6_parse : Cond.instanceMethod yX6_parse ∈ lw_g := lwm 618 (by decide +kernel) rfl
theorem ww_sel_yX6_parse : Cond.selects RX6 yX6_parse yX6_parse ∈ lw_g := lwm 619 (by decide +kernel) rfl
theorem ww_code_yX3_putHold : Cond.code yX3_putHold cX3_putHold 5 none ∈ lw_g := lwm 657 (by decide +kernel) rfl
theorem ww_ml_X7_270 : Cond.methodLink RX7 270 yX3_putHold ∈ lw_g := lwm 654 (by decide +kernel) rfl
theorem ww_instanceMethod_yX3_putHold : Cond.instanceMethod yX3_putHold ∈ lw_g := lwm 655 (by decide +kernel) rfl
theorem ww_sel_yX3_putHold : Cond.selects RX3 yX3_putHold yX3_putHold ∈ lw_g := lwm 656 (by decide +kernel) rfl
theorem ww_fl_X7_274 : Cond.fieldLink RX7 274 "LockTable$Paper" "bytes" "[B" ∈ lw_g := lwm 246 (by decide +kernel) rfl
theorem ww_code_yX1_isList : Cond.code yX1_isList cX1_isList 1 (some .boolean) ∈ lw_g := lwm 680 (by decide +kernel) rfl
theorem ww_ml_X7_278 : Cond.methodLink RX7 278 yX1_isList ∈ lw_g := lwm 678 (by decide +kernel) rfl
theorem ww_static_yX1_isList : Cond.static yX1_isList ∈ lw_g := lwm 679 (by decide +kernel) rfl
theorem ww_fl_X7_66 : Cond.fieldLink RX7 66 "LockTable" "lists" "LLockTable$Lists;" ∈ lw_g := lwm 276 (by decide +kernel) rfl
theorem ww_code_yX1_make : Cond.code yX1_make cX1_make 4 none ∈ lw_g := lwm 684 (by decide +kernel) rfl
theorem ww_ml_X7_281 : Cond.methodLink RX7 281 yX1_make ∈ lw_g := lwm 681 (by decide +kernel) rfl
theorem ww_instanceMethod_yX1_make : Cond.instanceMethod yX1_make ∈ lw_g := lwm 682 (by decide +kernel) rfl
theorem ww_sel_yX1_make : Cond.selects RX1 yX1_make yX1_make ∈ lw_g := lwm 683 (by decide +kernel) rfl
theorem ww_code_yX1_holdsRow : Cond.code yX1_holdsRow cX1_holdsRow 2 (some .boolean) ∈ lw_g := lwm 695 (by decide +kernel) rfl
theorem ww_ml_X7_285 : Cond.methodLink RX7 285 yX1_holdsRow ∈ lw_g := lwm 692 (by decide +kernel) rfl
theorem ww_instanceMethod_yX1_holdsRow : Cond.instanceMethod yX1_holdsRow ∈ lw_g := lwm 693 (by decide +kernel) rfl
theorem ww_sel_yX1_holdsRow : Cond.selects RX1 yX1_holdsRow yX1_holdsRow ∈ lw_g := lwm 694 (by decide +kernel) rfl
theorem ww_code_yX1_hasPlace : Cond.code yX1_hasPlace cX1_hasPlace 3 (some .boolean) ∈ lw_g := lwm 699 (by decide +kernel) rfl
theorem ww_ml_X7_288 : Cond.methodLink RX7 288 yX1_hasPlace ∈ lw_g := lwm 696 (by decide +kernel) rfl
theorem ww_instanceMethod_yX1_hasPlace : Cond.instanceMethod yX1_hasPlace ∈ lw_g := lwm 697 (by decide +kernel) rfl
theorem ww_sel_yX1_hasPlace : Cond.selects RX1 yX1_hasPlace yX1_hasPlace ∈ lw_g := lwm 698 (by decide +kernel) rfl
theorem ww_fl_X7_291 : Cond.fieldLink RX7 291 "LockTable$Lists" "cells" "[I" ∈ lw_g := lwm 259 (by decide +kernel) rfl
theorem ww_ml_X7_294 : Cond.methodLink RX7 294 yX1_cell ∈ lw_g := lwm 700 (by decide +kernel) rfl
theorem ww_cst_X7_296 : Cond.constantLong RX7 296 (-9223372036854775808 : Int64) ∈ lw_g := lwm 705 (by decide +kernel) rfl
theorem ww_fl_X7_298 : Cond.fieldLink RX7 298 "LockTable$Lists" "sizes" "[I" ∈ lw_g := lwm 261 (by decide +kernel) rfl
theorem ww_fl_X7_21 : Cond.fieldLink RX7 21 "LockTable" "kept" "LLockTable$Table;" ∈ lw_g := lwm 269 (by decide +kernel) rfl
theorem ww_fl_X7_24 : Cond.fieldLink RX7 24 "LockTable" "isKept" "Z" ∈ lw_g := lwm 270 (by decide +kernel) rfl
theorem ww_code_yX0_closeFrom : Cond.code yX0_closeFrom cX0_closeFrom 3 none ∈ lw_g := lwm 725 (by decide +kernel) rfl
theorem ww_ml_X7_301 : Cond.methodLink RX7 301 yX0_closeFrom ∈ lw_g := lwm 722 (by decide +kernel) rfl
theorem ww_instanceMethod_yX0_closeFrom : Cond.instanceMethod yX0_closeFrom ∈ lw_g := lwm 723 (by decide +kernel) rfl
theorem ww_sel_yX0_closeFrom : Cond.selects RX0 yX0_closeFrom yX0_closeFrom ∈ lw_g := lwm 724 (by decide +kernel) rfl
theorem ww_fl_X8_15 : Cond.fieldLink RX8 15 "LockTableModel" "g" "[I" ∈ lw_g := lwm 732 (by decide +kernel) rfl
theorem ww_fl_X8_19 : Cond.fieldLink RX8 19 "LockTableModel" "aside" "[I" ∈ lw_g := lwm 733 (by decide +kernel) rfl
theorem ww_ini_RX8 : Cond.initialized RX8 ∈ lw_g := lwm 72 (by decide +kernel) rfl
theorem ww_code_yX8_copies : Cond.code yX8_copies cX8_copies 3 none ∈ lw_g := lwm 1021 (by decide +kernel) rfl
theorem ww_ml_X8_52 : Cond.methodLink RX8 52 yX8_copies ∈ lw_g := lwm 1019 (by decide +kernel) rfl
theorem ww_static_yX8_copies : Cond.static yX8_copies ∈ lw_g := lwm 1020 (by decide +kernel) rfl
theorem ww_fl_X8_56 : Cond.fieldLink RX8 56 "LockTableModel" "granted" "I" ∈ lw_g := lwm 735 (by decide +kernel) rfl
theorem ww_fl_X8_59 : Cond.fieldLink RX8 59 "LockTableModel" "grantedAside" "I" ∈ lw_g := lwm 736 (by decide +kernel) rfl
theorem ww_code_yX8_in : Cond.code yX8_in cX8_in 3 (some .boolean) ∈ lw_g := lwm 829 (by decide +kernel) rfl
theorem ww_ml_X8_62 : Cond.methodLink RX8 62 yX8_in ∈ lw_g := lwm 827 (by decide +kernel) rfl
theorem ww_static_yX8_in : Cond.static yX8_in ∈ lw_g := lwm 828 (by decide +kernel) rfl
theorem ww_code_yX8_isOwner : Cond.code yX8_isOwner cX8_isOwner 1 (some .boolean) ∈ lw_g := lwm 863 (by decide +kernel) rfl
theorem ww_ml_X8_66 : Cond.methodLink RX8 66 yX8_isOwner ∈ lw_g := lwm 861 (by decide +kernel) rfl
theorem ww_static_yX8_isOwner : Cond.static yX8_isOwner ∈ lw_g := lwm 862 (by decide +kernel) rfl
theorem ww_code_yX8_isThing : Cond.code yX8_isThing cX8_isThing 2 (some .boolean) ∈ lw_g := lwm 826 (by decide +kernel) rfl
theorem ww_ml_X8_70 : Cond.methodLink RX8 70 yX8_isThing ∈ lw_g := lwm 823 (by decide +kernel) rfl
theorem ww_instanceMethod_yX8_isThing : Cond.instanceMethod yX8_isThing ∈ lw_g := lwm 825 (by decide +kernel) rfl
theorem ww_sel_yX8_isThing : Cond.selects RX8 yX8_isThing yX8_isThing ∈ lw_g := lwm 15 (by decide +kernel) rfl
theorem ww_code_yX8_isAsked : Cond.code yX8_isAsked cX8_isAsked 1 (some .boolean) ∈ lw_g := lwm 866 (by decide +kernel) rfl
theorem ww_ml_X8_73 : Cond.methodLink RX8 73 yX8_isAsked ∈ lw_g := lwm 864 (by decide +kernel) rfl
theorem ww_static_yX8_isAsked : Cond.static yX8_isAsked ∈ lw_g := lwm 865 (by decide +kernel) rfl
theorem ww_code_yX8_together : Cond.code yX8_together cX8_together 1 (some .int) ∈ lw_g := lwm 896 (by decide +kernel) rfl
theorem ww_ml_X8_76 : Cond.methodLink RX8 76 yX8_together ∈ lw_g := lwm 894 (by decide +kernel) rfl
theorem ww_static_yX8_together : Cond.static yX8_together ∈ lw_g := lwm 895 (by decide +kernel) rfl
theorem ww_code_yX8_has : Cond.code yX8_has cX8_has 2 (some .boolean) ∈ lw_g := lwm 899 (by decide +kernel) rfl
theorem ww_ml_X8_80 : Cond.methodLink RX8 80 yX8_has ∈ lw_g := lwm 897 (by decide +kernel) rfl
theorem ww_static_yX8_has : Cond.static yX8_has ∈ lw_g := lwm 898 (by decide +kernel) rfl
theorem ww_code_yX8_at : Cond.code yX8_at cX8_at 3 (some .int) ∈ lw_g := lwm 832 (by decide +kernel) rfl
theorem ww_ml_X8_84 : Cond.methodLink RX8 84 yX8_at ∈ lw_g := lwm 830 (by decide +kernel) rfl
theorem ww_static_yX8_at : Cond.static yX8_at ∈ lw_g := lwm 831 (by decide +kernel) rfl
theorem ww_fl_X8_25 : Cond.fieldLink RX8 25 "LockTableModel" "entries" "[I" ∈ lw_g := lwm 737 (by decide +kernel) rfl
theorem ww_fl_X8_28 : Cond.fieldLink RX8 28 "LockTableModel" "deepest" "[I" ∈ lw_g := lwm 738 (by decide +kernel) rfl
theorem ww_code_yX8_wholes : Cond.code yX8_wholes cX8_wholes 4 (some .int) ∈ lw_g := lwm 840 (by decide +kernel) rfl
theorem ww_ml_X8_88 : Cond.methodLink RX8 88 yX8_wholes ∈ lw_g := lwm 837 (by decide +kernel) rfl
theorem ww_instanceMethod_yX8_wholes : Cond.instanceMethod yX8_wholes ∈ lw_g := lwm 839 (by decide +kernel) rfl
theorem ww_sel_yX8_wholes : Cond.selects RX8 yX8_wholes yX8_wholes ∈ lw_g := lwm 16 (by decide +kernel) rfl
theorem ww_code_yX8_partsOf : Cond.code yX8_partsOf cX8_partsOf 4 (some .int) ∈ lw_g := lwm 844 (by decide +kernel) rfl
theorem ww_ml_X8_91 : Cond.methodLink RX8 91 yX8_partsOf ∈ lw_g := lwm 841 (by decide +kernel) rfl
theorem ww_instanceMethod_yX8_partsOf : Cond.instanceMethod yX8_partsOf ∈ lw_g := lwm 843 (by decide +kernel) rfl
theorem ww_sel_yX8_partsOf : Cond.selects RX8 yX8_partsOf yX8_partsOf ∈ lw_g := lwm 17 (by decide +kernel) rfl
theorem ww_code_yX8_countsAt : Cond.code yX8_countsAt cX8_countsAt 5 (some .int) ∈ lw_g := lwm 848 (by decide +kernel) rfl
theorem ww_ml_X8_94 : Cond.methodLink RX8 94 yX8_countsAt ∈ lw_g := lwm 845 (by decide +kernel) rfl
theorem ww_instanceMethod_yX8_countsAt : Cond.instanceMethod yX8_countsAt ∈ lw_g := lwm 847 (by decide +kernel) rfl
theorem ww_sel_yX8_countsAt : Cond.selects RX8 yX8_countsAt yX8_countsAt ∈ lw_g := lwm 18 (by decide +kernel) rfl
theorem ww_code_yX8_askers : Cond.code yX8_askers cX8_askers 4 (some .int) ∈ lw_g := lwm 852 (by decide +kernel) rfl
theorem ww_ml_X8_97 : Cond.methodLink RX8 97 yX8_askers ∈ lw_g := lwm 849 (by decide +kernel) rfl
theorem ww_instanceMethod_yX8_askers : Cond.instanceMethod yX8_askers ∈ lw_g := lwm 851 (by decide +kernel) rfl
theorem ww_sel_yX8_askers : Cond.selects RX8 yX8_askers yX8_askers ∈ lw_g := lwm 19 (by decide +kernel) rfl
theorem ww_code_yX8_goTogether : Cond.code yX8_goTogether cX8_goTogether 2 (some .boolean) ∈ lw_g := lwm 893 (by decide +kernel) rfl
theorem ww_ml_X8_100 : Cond.methodLink RX8 100 yX8_goTogether ∈ lw_g := lwm 891 (by decide +kernel) rfl
theorem ww_static_yX8_goTogether : Cond.static yX8_goTogether ∈ lw_g := lwm 892 (by decide +kernel) rfl
theorem ww_code_yX8_above : Cond.code yX8_above cX8_above 1 (some .int) ∈ lw_g := lwm 902 (by decide +kernel) rfl
theorem ww_ml_X8_106 : Cond.methodLink RX8 106 yX8_above ∈ lw_g := lwm 900 (by decide +kernel) rfl
theorem ww_static_yX8_above : Cond.static yX8_above ∈ lw_g := lwm 901 (by decide +kernel) rfl
theorem ww_code_yX8_isBarredAt : Cond.code yX8_isBarredAt cX8_isBarredAt 5 (some .boolean) ∈ lw_g := lwm 890 (by decide +kernel) rfl
theorem ww_ml_X8_103 : Cond.methodLink RX8 103 yX8_isBarredAt ∈ lw_g := lwm 887 (by decide +kernel) rfl
theorem ww_instanceMethod_yX8_isBarredAt : Cond.instanceMethod yX8_isBarredAt ∈ lw_g := lwm 889 (by decide +kernel) rfl
theorem ww_sel_yX8_isBarredAt : Cond.selects RX8 yX8_isBarredAt yX8_isBarredAt ∈ lw_g := lwm 26 (by decide +kernel) rfl
theorem ww_code_yX8_placeOf : Cond.code yX8_placeOf cX8_placeOf 3 (some .int) ∈ lw_g := lwm 874 (by decide +kernel) rfl
theorem ww_ml_X8_109 : Cond.methodLink RX8 109 yX8_placeOf ∈ lw_g := lwm 871 (by decide +kernel) rfl
theorem ww_instanceMethod_yX8_placeOf : Cond.instanceMethod yX8_placeOf ∈ lw_g := lwm 873 (by decide +kernel) rfl
theorem ww_sel_yX8_placeOf : Cond.selects RX8 yX8_placeOf yX8_placeOf ∈ lw_g := lwm 22 (by decide +kernel) rfl
theorem ww_code_yX8_isRaise : Cond.code yX8_isRaise cX8_isRaise 3 (some .boolean) ∈ lw_g := lwm 906 (by decide +kernel) rfl
theorem ww_ml_X8_115 : Cond.methodLink RX8 115 yX8_isRaise ∈ lw_g := lwm 903 (by decide +kernel) rfl
theorem ww_instanceMethod_yX8_isRaise : Cond.instanceMethod yX8_isRaise ∈ lw_g := lwm 905 (by decide +kernel) rfl
theorem ww_sel_yX8_isRaise : Cond.selects RX8 yX8_isRaise yX8_isRaise ∈ lw_g := lwm 27 (by decide +kernel) rfl
theorem ww_code_yX8_isBarred : Cond.code yX8_isBarred cX8_isBarred 5 (some .boolean) ∈ lw_g := lwm 886 (by decide +kernel) rfl
theorem ww_ml_X8_112 : Cond.methodLink RX8 112 yX8_isBarred ∈ lw_g := lwm 883 (by decide +kernel) rfl
theorem ww_instanceMethod_yX8_isBarred : Cond.instanceMethod yX8_isBarred ∈ lw_g := lwm 885 (by decide +kernel) rfl
theorem ww_sel_yX8_isBarred : Cond.selects RX8 yX8_isBarred yX8_isBarred ∈ lw_g := lwm 25 (by decide +kernel) rfl
theorem ww_code_yX8_barring : Cond.code yX8_barring cX8_barring 7 (some .int) ∈ lw_g := lwm 882 (by decide +kernel) rfl
theorem ww_ml_X8_118 : Cond.methodLink RX8 118 yX8_barring ∈ lw_g := lwm 879 (by decide +kernel) rfl
theorem ww_instanceMethod_yX8_barring : Cond.instanceMethod yX8_barring ∈ lw_g := lwm 881 (by decide +kernel) rfl
theorem ww_sel_yX8_barring : Cond.selects RX8 yX8_barring yX8_barring ∈ lw_g := lwm 24 (by decide +kernel) rfl
theorem ww_code_yX8_changes : Cond.code yX8_changes cX8_changes 6 none ∈ lw_g := lwm 914 (by decide +kernel) rfl
theorem ww_ml_X8_122 : Cond.methodLink RX8 122 yX8_changes ∈ lw_g := lwm 911 (by decide +kernel) rfl
theorem ww_instanceMethod_yX8_changes : Cond.instanceMethod yX8_changes ∈ lw_g := lwm 913 (by decide +kernel) rfl
theorem ww_sel_yX8_changes : Cond.selects RX8 yX8_changes yX8_changes ∈ lw_g := lwm 29 (by decide +kernel) rfl
theorem ww_code_yX8_barringAt : Cond.code yX8_barringAt cX8_barringAt 2 (some .int) ∈ lw_g := lwm 934 (by decide +kernel) rfl
theorem ww_ml_X8_126 : Cond.methodLink RX8 126 yX8_barringAt ∈ lw_g := lwm 931 (by decide +kernel) rfl
theorem ww_instanceMethod_yX8_barringAt : Cond.instanceMethod yX8_barringAt ∈ lw_g := lwm 933 (by decide +kernel) rfl
theorem ww_sel_yX8_barringAt : Cond.selects RX8 yX8_barringAt yX8_barringAt ∈ lw_g := lwm 33 (by decide +kernel) rfl
theorem ww_code_yX8_leavesLine : Cond.code yX8_leavesLine cX8_leavesLine 3 none ∈ lw_g := lwm 938 (by decide +kernel) rfl
theorem ww_ml_X8_133 : Cond.methodLink RX8 133 yX8_leavesLine ∈ lw_g := lwm 935 (by decide +kernel) rfl
theorem ww_instanceMethod_yX8_leavesLine : Cond.instanceMethod yX8_leavesLine ∈ lw_g := lwm 937 (by decide +kernel) rfl
theorem ww_sel_yX8_leavesLine : Cond.selects RX8 yX8_leavesLine yX8_leavesLine ∈ lw_g := lwm 34 (by decide +kernel) rfl
theorem ww_code_yX8_grants : Cond.code yX8_grants cX8_grants 4 none ∈ lw_g := lwm 910 (by decide +kernel) rfl
theorem ww_ml_X8_137 : Cond.methodLink RX8 137 yX8_grants ∈ lw_g := lwm 907 (by decide +kernel) rfl
theorem ww_instanceMethod_yX8_grants : Cond.instanceMethod yX8_grants ∈ lw_g := lwm 909 (by decide +kernel) rfl
theorem ww_sel_yX8_grants : Cond.selects RX8 yX8_grants yX8_grants ∈ lw_g := lwm 28 (by decide +kernel) rfl
theorem ww_code_yX8_nextServed : Cond.code yX8_nextServed cX8_nextServed 3 (some .int) ∈ lw_g := lwm 930 (by decide +kernel) rfl
theorem ww_ml_X8_129 : Cond.methodLink RX8 129 yX8_nextServed ∈ lw_g := lwm 927 (by decide +kernel) rfl
theorem ww_instanceMethod_yX8_nextServed : Cond.instanceMethod yX8_nextServed ∈ lw_g := lwm 929 (by decide +kernel) rfl
theorem ww_sel_yX8_nextServed : Cond.selects RX8 yX8_nextServed yX8_nextServed ∈ lw_g := lwm 32 (by decide +kernel) rfl
theorem ww_code_yX8_isAsk : Cond.code yX8_isAsk cX8_isAsk 4 (some .boolean) ∈ lw_g := lwm 860 (by decide +kernel) rfl
theorem ww_ml_X8_141 : Cond.methodLink RX8 141 yX8_isAsk ∈ lw_g := lwm 857 (by decide +kernel) rfl
theorem ww_instanceMethod_yX8_isAsk : Cond.instanceMethod yX8_isAsk ∈ lw_g := lwm 859 (by decide +kernel) rfl
theorem ww_sel_yX8_isAsk : Cond.selects RX8 yX8_isAsk yX8_isAsk ∈ lw_g := lwm 20 (by decide +kernel) rfl
theorem ww_code_yX8_isInLine : Cond.code yX8_isInLine cX8_isInLine 2 (some .boolean) ∈ lw_g := lwm 870 (by decide +kernel) rfl
theorem ww_ml_X8_144 : Cond.methodLink RX8 144 yX8_isInLine ∈ lw_g := lwm 867 (by decide +kernel) rfl
theorem ww_instanceMethod_yX8_isInLine : Cond.instanceMethod yX8_isInLine ∈ lw_g := lwm 869 (by decide +kernel) rfl
theorem ww_sel_yX8_isInLine : Cond.selects RX8 yX8_isInLine yX8_isInLine ∈ lw_g := lwm 21 (by decide +kernel) rfl
theorem ww_code_yX8_canBe : Cond.code yX8_canBe cX8_canBe 4 (some .boolean) ∈ lw_g := lwm 878 (by decide +kernel) rfl
theorem ww_ml_X8_147 : Cond.methodLink RX8 147 yX8_canBe ∈ lw_g := lwm 875 (by decide +kernel) rfl
theorem ww_instanceMethod_yX8_canBe : Cond.instanceMethod yX8_canBe ∈ lw_g := lwm 877 (by decide +kernel) rfl
theorem ww_sel_yX8_canBe : Cond.selects RX8 yX8_canBe yX8_canBe ∈ lw_g := lwm 23 (by decide +kernel) rfl
theorem ww_code_yX8_isOtherRaise : Cond.code yX8_isOtherRaise cX8_isOtherRaise 5 (some .boolean) ∈ lw_g := lwm 918 (by decide +kernel) rfl
theorem ww_ml_X8_150 : Cond.methodLink RX8 150 yX8_isOtherRaise ∈ lw_g := lwm 915 (by decide +kernel) rfl
theorem ww_instanceMethod_yX8_isOtherRaise : Cond.instanceMethod yX8_isOtherRaise ∈ lw_g := lwm 917 (by decide +kernel) rfl
theorem ww_sel_yX8_isOtherRaise : Cond.selects RX8 yX8_isOtherRaise yX8_isOtherRaise ∈ lw_g := lwm 30 (by decide +kernel) rfl
theorem ww_code_yX8_serves : Cond.code yX8_serves cX8_serves 6 (some .int) ∈ lw_g := lwm 926 (by decide +kernel) rfl
theorem ww_ml_X8_153 : Cond.methodLink RX8 153 yX8_serves ∈ lw_g := lwm 923 (by decide +kernel) rfl
theorem ww_instanceMethod_yX8_serves : Cond.instanceMethod yX8_serves ∈ lw_g := lwm 925 (by decide +kernel) rfl
theorem ww_sel_yX8_serves : Cond.selects RX8 yX8_serves yX8_serves ∈ lw_g := lwm 31 (by decide +kernel) rfl
theorem ww_code_yX8_emptiesOwner : Cond.code yX8_emptiesOwner cX8_emptiesOwner 5 none ∈ lw_g := lwm 950 (by decide +kernel) rfl
theorem ww_ml_X8_156 : Cond.methodLink RX8 156 yX8_emptiesOwner ∈ lw_g := lwm 947 (by decide +kernel) rfl
theorem ww_instanceMethod_yX8_emptiesOwner : Cond.instanceMethod yX8_emptiesOwner ∈ lw_g := lwm 949 (by decide +kernel) rfl
theorem ww_sel_yX8_emptiesOwner : Cond.selects RX8 yX8_emptiesOwner yX8_emptiesOwner ∈ lw_g := lwm 36 (by decide +kernel) rfl
theorem ww_code_yX8_leavesAll : Cond.code yX8_leavesAll cX8_leavesAll 2 (some .int) ∈ lw_g := lwm 946 (by decide +kernel) rfl
theorem ww_ml_X8_159 : Cond.methodLink RX8 159 yX8_leavesAll ∈ lw_g := lwm 943 (by decide +kernel) rfl
theorem ww_instanceMethod_yX8_leavesAll : Cond.instanceMethod yX8_leavesAll ∈ lw_g := lwm 945 (by decide +kernel) rfl
theorem ww_sel_yX8_leavesAll : Cond.selects RX8 yX8_leavesAll yX8_leavesAll ∈ lw_g := lwm 35 (by decide +kernel) rfl
theorem ww_code_yX8_waitsForNow : Cond.code yX8_waitsForNow cX8_waitsForNow 3 (some .int) ∈ lw_g := lwm 970 (by decide +kernel) rfl
theorem ww_ml_X8_162 : Cond.methodLink RX8 162 yX8_waitsForNow ∈ lw_g := lwm 967 (by decide +kernel) rfl
theorem ww_instanceMethod_yX8_waitsForNow : Cond.instanceMethod yX8_waitsForNow ∈ lw_g := lwm 969 (by decide +kernel) rfl
theorem ww_sel_yX8_waitsForNow : Cond.selects RX8 yX8_waitsForNow yX8_waitsForNow ∈ lw_g := lwm 39 (by decide +kernel) rfl
theorem ww_code_yX8_comesTo : Cond.code yX8_comesTo cX8_comesTo 5 (some .int) ∈ lw_g := lwm 966 (by decide +kernel) rfl
theorem ww_ml_X8_165 : Cond.methodLink RX8 165 yX8_comesTo ∈ lw_g := lwm 963 (by decide +kernel) rfl
theorem ww_instanceMethod_yX8_comesTo : Cond.instanceMethod yX8_comesTo ∈ lw_g := lwm 965 (by decide +kernel) rfl
theorem ww_sel_yX8_comesTo : Cond.selects RX8 yX8_comesTo yX8_comesTo ∈ lw_g := lwm 38 (by decide +kernel) rfl
theorem ww_code_yX8_countsOf : Cond.code yX8_countsOf cX8_countsOf 4 (some .int) ∈ lw_g := lwm 978 (by decide +kernel) rfl
theorem ww_ml_X8_168 : Cond.methodLink RX8 168 yX8_countsOf ∈ lw_g := lwm 975 (by decide +kernel) rfl
theorem ww_instanceMethod_yX8_countsOf : Cond.instanceMethod yX8_countsOf ∈ lw_g := lwm 977 (by decide +kernel) rfl
theorem ww_sel_yX8_countsOf : Cond.selects RX8 yX8_countsOf yX8_countsOf ∈ lw_g := lwm 41 (by decide +kernel) rfl
theorem ww_code_yX8_ringNow : Cond.code yX8_ringNow cX8_ringNow 3 (some .int) ∈ lw_g := lwm 962 (by decide +kernel) rfl
theorem ww_ml_X8_171 : Cond.methodLink RX8 171 yX8_ringNow ∈ lw_g := lwm 959 (by decide +kernel) rfl
theorem ww_instanceMethod_yX8_ringNow : Cond.instanceMethod yX8_ringNow ∈ lw_g := lwm 961 (by decide +kernel) rfl
theorem ww_sel_yX8_ringNow : Cond.selects RX8 yX8_ringNow yX8_ringNow ∈ lw_g := lwm 37 (by decide +kernel) rfl
theorem ww_code_yX8_leastOf : Cond.code yX8_leastOf cX8_leastOf 4 (some .int) ∈ lw_g := lwm 974 (by decide +kernel) rfl
theorem ww_ml_X8_174 : Cond.methodLink RX8 174 yX8_leastOf ∈ lw_g := lwm 971 (by decide +kernel) rfl
theorem ww_instanceMethod_yX8_leastOf : Cond.instanceMethod yX8_leastOf ∈ lw_g := lwm 973 (by decide +kernel) rfl
theorem ww_sel_yX8_leastOf : Cond.selects RX8 yX8_leastOf yX8_leastOf ∈ lw_g := lwm 40 (by decide +kernel) rfl
theorem ww_code_yX8_allCounts : Cond.code yX8_allCounts cX8_allCounts 3 (some .int) ∈ lw_g := lwm 1010 (by decide +kernel) rfl
theorem ww_ml_X8_177 : Cond.methodLink RX8 177 yX8_allCounts ∈ lw_g := lwm 1007 (by decide +kernel) rfl
theorem ww_instanceMethod_yX8_allCounts : Cond.instanceMethod yX8_allCounts ∈ lw_g := lwm 1009 (by decide +kernel) rfl
theorem ww_sel_yX8_allCounts : Cond.selects RX8 yX8_allCounts yX8_allCounts ∈ lw_g := lwm 42 (by decide +kernel) rfl
theorem ww_fl_X8_180 : Cond.fieldLink RX8 180 "LockTableModel" "taped" "I" ∈ lw_g := lwm 747 (by decide +kernel) rfl
theorem ww_fl_X8_183 : Cond.fieldLink RX8 183 "LockTableModel" "papered" "I" ∈ lw_g := lwm 755 (by decide +kernel) rfl
theorem ww_code_yX8_laysAside : Cond.code yX8_laysAside cX8_laysAside 1 none ∈ lw_g := lwm 1018 (by decide +kernel) rfl
theorem ww_ml_X8_186 : Cond.methodLink RX8 186 yX8_laysAside ∈ lw_g := lwm 1015 (by decide +kernel) rfl
theorem ww_instanceMethod_yX8_laysAside : Cond.instanceMethod yX8_laysAside ∈ lw_g := lwm 1017 (by decide +kernel) rfl
theorem ww_sel_yX8_laysAside : Cond.selects RX8 yX8_laysAside yX8_laysAside ∈ lw_g := lwm 43 (by decide +kernel) rfl
theorem ww_code_yX8_laysBack : Cond.code yX8_laysBack cX8_laysBack 1 none ∈ lw_g := lwm 1025 (by decide +kernel) rfl
theorem ww_ml_X8_189 : Cond.methodLink RX8 189 yX8_laysBack ∈ lw_g := lwm 1022 (by decide +kernel) rfl
theorem ww_instanceMethod_yX8_laysBack : Cond.instanceMethod yX8_laysBack ∈ lw_g := lwm 1024 (by decide +kernel) rfl
theorem ww_sel_yX8_laysBack : Cond.selects RX8 yX8_laysBack yX8_laysBack ∈ lw_g := lwm 44 (by decide +kernel) rfl
theorem ww_code_yX8_bits : Cond.code yX8_bits cX8_bits 3 (some .int) ∈ lw_g := lwm 1032 (by decide +kernel) rfl
theorem ww_ml_X8_192 : Cond.methodLink RX8 192 yX8_bits ∈ lw_g := lwm 1030 (by decide +kernel) rfl
theorem ww_static_yX8_bits : Cond.static yX8_bits ∈ lw_g := lwm 1031 (by decide +kernel) rfl
theorem ww_code_yX8_couldBe : Cond.code yX8_couldBe cX8_couldBe 6 (some .boolean) ∈ lw_g := lwm 1036 (by decide +kernel) rfl
theorem ww_ml_X8_195 : Cond.methodLink RX8 195 yX8_couldBe ∈ lw_g := lwm 1033 (by decide +kernel) rfl
theorem ww_instanceMethod_yX8_couldBe : Cond.instanceMethod yX8_couldBe ∈ lw_g := lwm 1035 (by decide +kernel) rfl
theorem ww_sel_yX8_couldBe : Cond.selects RX8 yX8_couldBe yX8_couldBe ∈ lw_g := lwm 45 (by decide +kernel) rfl
theorem ww_fl_X8_34 : Cond.fieldLink RX8 34 "LockTableModel" "nextRow" "[I" ∈ lw_g := lwm 740 (by decide +kernel) rfl
theorem ww_code_yX8_rowFrom : Cond.code yX8_rowFrom cX8_rowFrom 4 (some .int) ∈ lw_g := lwm 1052 (by decide +kernel) rfl
theorem ww_ml_X8_199 : Cond.methodLink RX8 199 yX8_rowFrom ∈ lw_g := lwm 1049 (by decide +kernel) rfl
theorem ww_instanceMethod_yX8_rowFrom : Cond.instanceMethod yX8_rowFrom ∈ lw_g := lwm 1051 (by decide +kernel) rfl
theorem ww_sel_yX8_rowFrom : Cond.selects RX8 yX8_rowFrom yX8_rowFrom ∈ lw_g := lwm 46 (by decide +kernel) rfl
theorem ww_code_yX8_ask : Cond.code yX8_ask cX8_ask 5 (some .int) ∈ lw_g := lwm 856 (by decide +kernel) rfl
theorem ww_ml_X8_206 : Cond.methodLink RX8 206 yX8_ask ∈ lw_g := lwm 1061 (by decide +kernel) rfl
theorem ww_instanceMethod_yX8_ask : Cond.instanceMethod yX8_ask ∈ lw_g := lwm 854 (by decide +kernel) rfl
theorem ww_sel_yX8_ask : Cond.selects RX8 yX8_ask yX8_ask ∈ lw_g := lwm 855 (by decide +kernel) rfl
theorem ww_fl_X8_203 : Cond.fieldLink RX8 203 "LockTableModel" "through" "I" ∈ lw_g := lwm 741 (by decide +kernel) rfl
theorem ww_fl_X8_215 : Cond.fieldLink RX8 215 "LockTableModel" "brokenTimes" "I" ∈ lw_g := lwm 743 (by decide +kernel) rfl
theorem ww_fl_X8_209 : Cond.fieldLink RX8 209 "LockTableModel" "withRows" "I" ∈ lw_g := lwm 742 (by decide +kernel) rfl
theorem ww_code_yX8_goesOn : Cond.code yX8_goesOn cX8_goesOn 3 none ∈ lw_g := lwm 1060 (by decide +kernel) rfl
theorem ww_ml_X8_212 : Cond.methodLink RX8 212 yX8_goesOn ∈ lw_g := lwm 1057 (by decide +kernel) rfl
theorem ww_instanceMethod_yX8_goesOn : Cond.instanceMethod yX8_goesOn ∈ lw_g := lwm 1059 (by decide +kernel) rfl
theorem ww_sel_yX8_goesOn : Cond.selects RX8 yX8_goesOn yX8_goesOn ∈ lw_g := lwm 48 (by decide +kernel) rfl
theorem ww_code_yX8_round : Cond.code yX8_round cX8_round 2 none ∈ lw_g := lwm 1056 (by decide +kernel) rfl
theorem ww_ml_X8_218 : Cond.methodLink RX8 218 yX8_round ∈ lw_g := lwm 1053 (by decide +kernel) rfl
theorem ww_instanceMethod_yX8_round : Cond.instanceMethod yX8_round ∈ lw_g := lwm 1055 (by decide +kernel) rfl
theorem ww_sel_yX8_round : Cond.selects RX8 yX8_round yX8_round ∈ lw_g := lwm 47 (by decide +kernel) rfl
theorem ww_fl_X8_221 : Cond.fieldLink RX8 221 "LockTableModel" "lot" "I" ∈ lw_g := lwm 744 (by decide +kernel) rfl
theorem ww_cst_X8_224 : Cond.constant RX8 224 (nI 1103515245) ∈ lw_g := lwm 1070 (by decide +kernel) rfl
theorem ww_cst_X8_225 : Cond.constant RX8 225 (nI 2147483647) ∈ lw_g := lwm 1071 (by decide +kernel) rfl
theorem ww_cst_X8_226 : Cond.constant RX8 226 (nI 65536) ∈ lw_g := lwm 1072 (by decide +kernel) rfl
theorem ww_code_yX8_draw : Cond.code yX8_draw cX8_draw 2 (some .int) ∈ lw_g := lwm 1069 (by decide +kernel) rfl
theorem ww_ml_X8_227 : Cond.methodLink RX8 227 yX8_draw ∈ lw_g := lwm 1066 (by decide +kernel) rfl
theorem ww_instanceMethod_yX8_draw : Cond.instanceMethod yX8_draw ∈ lw_g := lwm 1068 (by decide +kernel) rfl
theorem ww_sel_yX8_draw : Cond.selects RX8 yX8_draw yX8_draw ∈ lw_g := lwm 49 (by decide +kernel) rfl
theorem ww_code_yX8_modeOf : Cond.code yX8_modeOf cX8_modeOf 1 (some .int) ∈ lw_g := lwm 1075 (by decide +kernel) rfl
theorem ww_ml_X8_230 : Cond.methodLink RX8 230 yX8_modeOf ∈ lw_g := lwm 1073 (by decide +kernel) rfl
theorem ww_static_yX8_modeOf : Cond.static yX8_modeOf ∈ lw_g := lwm 1074 (by decide +kernel) rfl
theorem ww_fl_X8_31 : Cond.fieldLink RX8 31 "LockTableModel" "inside" "[I" ∈ lw_g := lwm 739 (by decide +kernel) rfl
theorem ww_ml_X8_233 : Cond.methodLink RX8 233 Lib.Math.max.name ∈ lw_g := lwm 1088 (by decide +kernel) rfl
theorem ww_fl_X8_238 : Cond.fieldLink RX8 238 "LockTableModel" "isStopped" "Z" ∈ lw_g := lwm 745 (by decide +kernel) rfl
theorem ww_code_yX8_goesInto : Cond.code yX8_goesInto cX8_goesInto 2 none ∈ lw_g := lwm 1087 (by decide +kernel) rfl
theorem ww_ml_X8_242 : Cond.methodLink RX8 242 yX8_goesInto ∈ lw_g := lwm 1084 (by decide +kernel) rfl
theorem ww_instanceMethod_yX8_goesInto : Cond.instanceMethod yX8_goesInto ∈ lw_g := lwm 1086 (by decide +kernel) rfl
theorem ww_sel_yX8_goesInto : Cond.selects RX8 yX8_goesInto yX8_goesInto ∈ lw_g := lwm 51 (by decide +kernel) rfl
theorem ww_code_yX8_weighsFrom : Cond.code yX8_weighsFrom cX8_weighsFrom 5 (some .int) ∈ lw_g := lwm 1092 (by decide +kernel) rfl
theorem ww_ml_X8_245 : Cond.methodLink RX8 245 yX8_weighsFrom ∈ lw_g := lwm 1089 (by decide +kernel) rfl
theorem ww_instanceMethod_yX8_weighsFrom : Cond.instanceMethod yX8_weighsFrom ∈ lw_g := lwm 1091 (by decide +kernel) rfl
theorem ww_sel_yX8_weighsFrom : Cond.selects RX8 yX8_weighsFrom yX8_weighsFrom ∈ lw_g := lwm 52 (by decide +kernel) rfl
theorem ww_code_yX8_isBare : Cond.code yX8_isBare cX8_isBare 2 (some .boolean) ∈ lw_g := lwm 1083 (by decide +kernel) rfl
theorem ww_ml_X8_248 : Cond.methodLink RX8 248 yX8_isBare ∈ lw_g := lwm 1080 (by decide +kernel) rfl
theorem ww_instanceMethod_yX8_isBare : Cond.instanceMethod yX8_isBare ∈ lw_g := lwm 1082 (by decide +kernel) rfl
theorem ww_sel_yX8_isBare : Cond.selects RX8 yX8_isBare yX8_isBare ∈ lw_g := lwm 50 (by decide +kernel) rfl
theorem ww_fl_X8_37 : Cond.fieldLink RX8 37 "LockTableModel" "tape" "[I" ∈ lw_g := lwm 746 (by decide +kernel) rfl
theorem ww_fl_X8_251 : Cond.fieldLink RX8 251 "LockTableModel" "place" "I" ∈ lw_g := lwm 748 (by decide +kernel) rfl
theorem ww_code_yX8_here : Cond.code yX8_here cX8_here 1 (some .int) ∈ lw_g := lwm 1124 (by decide +kernel) rfl
theorem ww_ml_X8_257 : Cond.methodLink RX8 257 yX8_here ∈ lw_g := lwm 1121 (by decide +kernel) rfl
theorem ww_instanceMethod_yX8_here : Cond.instanceMethod yX8_here ∈ lw_g := lwm 1123 (by decide +kernel) rfl
theorem ww_sel_yX8_here : Cond.selects RX8 yX8_here yX8_here ∈ lw_g := lwm 55 (by decide +kernel) rfl
theorem ww_code_yX8_isFigure : Cond.code yX8_isFigure cX8_isFigure 1 (some .boolean) ∈ lw_g := lwm 1131 (by decide +kernel) rfl
theorem ww_ml_X8_260 : Cond.methodLink RX8 260 yX8_isFigure ∈ lw_g := lwm 1129 (by decide +kernel) rfl
theorem ww_static_yX8_isFigure : Cond.static yX8_isFigure ∈ lw_g := lwm 1130 (by decide +kernel) rfl
theorem ww_fl_X8_254 : Cond.fieldLink RX8 254 "LockTableModel" "toldNumber" "I" ∈ lw_g := lwm 753 (by decide +kernel) rfl
theorem ww_fl_X8_269 : Cond.fieldLink RX8 269 "LockTableModel" "isWrong" "Z" ∈ lw_g := lwm 749 (by decide +kernel) rfl
theorem ww_fl_X8_272 : Cond.fieldLink RX8 272 "LockTableModel" "toldOwner" "I" ∈ lw_g := lwm 752 (by decide +kernel) rfl
theorem ww_code_yX8_number : Cond.code yX8_number cX8_number 2 none ∈ lw_g := lwm 1135 (by decide +kernel) rfl
theorem ww_ml_X8_275 : Cond.methodLink RX8 275 yX8_number ∈ lw_g := lwm 1132 (by decide +kernel) rfl
theorem ww_instanceMethod_yX8_number : Cond.instanceMethod yX8_number ∈ lw_g := lwm 1134 (by decide +kernel) rfl
theorem ww_sel_yX8_number : Cond.selects RX8 yX8_number yX8_number ∈ lw_g := lwm 57 (by decide +kernel) rfl
theorem ww_fl_X8_266 : Cond.fieldLink RX8 266 "LockTableModel" "verb" "I" ∈ lw_g := lwm 750 (by decide +kernel) rfl
theorem ww_fl_X8_263 : Cond.fieldLink RX8 263 "LockTableModel" "isGiving" "Z" ∈ lw_g := lwm 751 (by decide +kernel) rfl
theorem ww_code_yX8_asking : Cond.code yX8_asking cX8_asking 1 none ∈ lw_g := lwm 1128 (by decide +kernel) rfl
theorem ww_ml_X8_278 : Cond.methodLink RX8 278 yX8_asking ∈ lw_g := lwm 1125 (by decide +kernel) rfl
theorem ww_instanceMethod_yX8_asking : Cond.instanceMethod yX8_asking ∈ lw_g := lwm 1127 (by decide +kernel) rfl
theorem ww_sel_yX8_asking : Cond.selects RX8 yX8_asking yX8_asking ∈ lw_g := lwm 56 (by decide +kernel) rfl
theorem ww_code_yX8_thing : Cond.code yX8_thing cX8_thing 6 (some .int) ∈ lw_g := lwm 822 (by decide +kernel) rfl
theorem ww_ml_X8_281 : Cond.methodLink RX8 281 yX8_thing ∈ lw_g := lwm 1140 (by decide +kernel) rfl
theorem ww_instanceMethod_yX8_thing : Cond.instanceMethod yX8_thing ∈ lw_g := lwm 820 (by decide +kernel) rfl
theorem ww_sel_yX8_thing : Cond.selects RX8 yX8_thing yX8_thing ∈ lw_g := lwm 821 (by decide +kernel) rfl
theorem ww_code_yX8_modeTold : Cond.code yX8_modeTold cX8_modeTold 1 (some .int) ∈ lw_g := lwm 1144 (by decide +kernel) rfl
theorem ww_ml_X8_284 : Cond.methodLink RX8 284 yX8_modeTold ∈ lw_g := lwm 1141 (by decide +kernel) rfl
theorem ww_instanceMethod_yX8_modeTold : Cond.instanceMethod yX8_modeTold ∈ lw_g := lwm 1143 (by decide +kernel) rfl
theorem ww_sel_yX8_modeTold : Cond.selects RX8 yX8_modeTold yX8_modeTold ∈ lw_g := lwm 59 (by decide +kernel) rfl
theorem ww_code_yX8_give : Cond.code yX8_give cX8_give 4 (some .int) ∈ lw_g := lwm 922 (by decide +kernel) rfl
theorem ww_ml_X8_287 : Cond.methodLink RX8 287 yX8_give ∈ lw_g := lwm 1145 (by decide +kernel) rfl
theorem ww_instanceMethod_yX8_give : Cond.instanceMethod yX8_give ∈ lw_g := lwm 920 (by decide +kernel) rfl
theorem ww_sel_yX8_give : Cond.selects RX8 yX8_give yX8_give ∈ lw_g := lwm 921 (by decide +kernel) rfl
theorem ww_code_yX8_statement : Cond.code yX8_statement cX8_statement 1 none ∈ lw_g := lwm 1120 (by decide +kernel) rfl
theorem ww_ml_X8_290 : Cond.methodLink RX8 290 yX8_statement ∈ lw_g := lwm 1117 (by decide +kernel) rfl
theorem ww_instanceMethod_yX8_statement : Cond.instanceMethod yX8_statement ∈ lw_g := lwm 1119 (by decide +kernel) rfl
theorem ww_sel_yX8_statement : Cond.selects RX8 yX8_statement yX8_statement ∈ lw_g := lwm 54 (by decide +kernel) rfl
theorem ww_code_yX8_does : Cond.code yX8_does cX8_does 1 (some .int) ∈ lw_g := lwm 1139 (by decide +kernel) rfl
theorem ww_ml_X8_293 : Cond.methodLink RX8 293 yX8_does ∈ lw_g := lwm 1136 (by decide +kernel) rfl
theorem ww_instanceMethod_yX8_does : Cond.instanceMethod yX8_does ∈ lw_g := lwm 1138 (by decide +kernel) rfl
theorem ww_sel_yX8_does : Cond.selects RX8 yX8_does yX8_does ∈ lw_g := lwm 58 (by decide +kernel) rfl
theorem ww_fl_X8_22 : Cond.fieldLink RX8 22 "LockTableModel" "within" "[I" ∈ lw_g := lwm 734 (by decide +kernel) rfl
theorem ww_code_yX8_goesThrough : Cond.code yX8_goesThrough cX8_goesThrough 4 (some .int) ∈ lw_g := lwm 1116 (by decide +kernel) rfl
theorem ww_ml_X8_296 : Cond.methodLink RX8 296 yX8_goesThrough ∈ lw_g := lwm 1113 (by decide +kernel) rfl
theorem ww_instanceMethod_yX8_goesThrough : Cond.instanceMethod yX8_goesThrough ∈ lw_g := lwm 1115 (by decide +kernel) rfl
theorem ww_sel_yX8_goesThrough : Cond.selects RX8 yX8_goesThrough yX8_goesThrough ∈ lw_g := lwm 53 (by decide +kernel) rfl
theorem ww_fl_X8_40 : Cond.fieldLink RX8 40 "LockTableModel" "paper" "[I" ∈ lw_g := lwm 754 (by decide +kernel) rfl
theorem ww_code_yX8_writes : Cond.code yX8_writes cX8_writes 2 none ∈ lw_g := lwm 1161 (by decide +kernel) rfl
theorem ww_ml_X8_303 : Cond.methodLink RX8 303 yX8_writes ∈ lw_g := lwm 1158 (by decide +kernel) rfl
theorem ww_instanceMethod_yX8_writes : Cond.instanceMethod yX8_writes ∈ lw_g := lwm 1160 (by decide +kernel) rfl
theorem ww_sel_yX8_writes : Cond.selects RX8 yX8_writes yX8_writes ∈ lw_g := lwm 62 (by decide +kernel) rfl
theorem ww_code_yX8_writesNumber : Cond.code yX8_writesNumber cX8_writesNumber 2 none ∈ lw_g := lwm 1157 (by decide +kernel) rfl
theorem ww_ml_X8_300 : Cond.methodLink RX8 300 yX8_writesNumber ∈ lw_g := lwm 1154 (by decide +kernel) rfl
theorem ww_instanceMethod_yX8_writesNumber : Cond.instanceMethod yX8_writesNumber ∈ lw_g := lwm 1156 (by decide +kernel) rfl
theorem ww_sel_yX8_writesNumber : Cond.selects RX8 yX8_writesNumber yX8_writesNumber ∈ lw_g := lwm 61 (by decide +kernel) rfl
theorem ww_code_yX8_letterOf : Cond.code yX8_letterOf cX8_letterOf 1 (some .int) ∈ lw_g := lwm 1164 (by decide +kernel) rfl
theorem ww_ml_X8_306 : Cond.methodLink RX8 306 yX8_letterOf ∈ lw_g := lwm 1162 (by decide +kernel) rfl
theorem ww_static_yX8_letterOf : Cond.static yX8_letterOf ∈ lw_g := lwm 1163 (by decide +kernel) rfl
theorem ww_code_yX8_writesHold : Cond.code yX8_writesHold cX8_writesHold 5 none ∈ lw_g := lwm 1153 (by decide +kernel) rfl
theorem ww_ml_X8_309 : Cond.methodLink RX8 309 yX8_writesHold ∈ lw_g := lwm 1150 (by decide +kernel) rfl
theorem ww_instanceMethod_yX8_writesHold : Cond.instanceMethod yX8_writesHold ∈ lw_g := lwm 1152 (by decide +kernel) rfl
theorem ww_sel_yX8_writesHold : Cond.selects RX8 yX8_writesHold yX8_writesHold ∈ lw_g := lwm 60 (by decide +kernel) rfl
theorem ww_fl_X8_46 : Cond.fieldLink RX8 46 "LockTableModel" "items" "[I" ∈ lw_g := lwm 757 (by decide +kernel) rfl
theorem ww_code_yX8_isList : Cond.code yX8_isList cX8_isList 1 (some .boolean) ∈ lw_g := lwm 1175 (by decide +kernel) rfl
theorem ww_ml_X8_312 : Cond.methodLink RX8 312 yX8_isList ∈ lw_g := lwm 1173 (by decide +kernel) rfl
theorem ww_static_yX8_isList : Cond.static yX8_isList ∈ lw_g := lwm 1174 (by decide +kernel) rfl
theorem ww_fl_X8_43 : Cond.fieldLink RX8 43 "LockTableModel" "sizes" "[I" ∈ lw_g := lwm 756 (by decide +kernel) rfl
theorem ww_cst_X8_315 : Cond.constantLong RX8 315 (-9223372036854775808 : Int64) ∈ lw_g := lwm 1184 (by decide +kernel) rfl
theorem ww_fl_X8_49 : Cond.fieldLink RX8 49 "LockTableModel" "kept" "[I" ∈ lw_g := lwm 758 (by decide +kernel) rfl
theorem ww_fl_X8_317 : Cond.fieldLink RX8 317 "LockTableModel" "isKept" "Z" ∈ lw_g := lwm 759 (by decide +kernel) rfl
theorem ww_code_yX7_thing : Cond.code yX7_thing cX7_thing 3 (some .int) ∈ lw_g := lwm 301 (by decide +kernel) rfl
theorem ww_ml_L_13 : Cond.methodLink RL 13 yX7_thing ∈ lw_g := lwm 298 (by decide +kernel) rfl
theorem ww_instanceMethod_yX7_thing : Cond.instanceMethod yX7_thing ∈ lw_g := lwm 299 (by decide +kernel) rfl
theorem ww_sel_yX7_thing : Cond.selects RX7 yX7_thing yX7_thing ∈ lw_g := lwm 300 (by decide +kernel) rfl
theorem ww_ml_L_17 : Cond.methodLink RL 17 yX8_thing ∈ lw_g := lwm 819 (by decide +kernel) rfl
theorem ww_code_yX7_thingOf : Cond.code yX7_thingOf cX7_thingOf 3 (some .int) ∈ lw_g := lwm 313 (by decide +kernel) rfl
theorem ww_ml_L_18 : Cond.methodLink RL 18 yX7_thingOf ∈ lw_g := lwm 310 (by decide +kernel) rfl
theorem ww_instanceMethod_yX7_thingOf : Cond.instanceMethod yX7_thingOf ∈ lw_g := lwm 311 (by decide +kernel) rfl
theorem ww_sel_yX7_thingOf : Cond.selects RX7 yX7_thingOf yX7_thingOf ∈ lw_g := lwm 312 (by decide +kernel) rfl
theorem ww_code_yX8_thingOf : Cond.code yX8_thingOf cX8_thingOf 3 (some .int) ∈ lw_g := lwm 836 (by decide +kernel) rfl
theorem ww_ml_L_21 : Cond.methodLink RL 21 yX8_thingOf ∈ lw_g := lwm 833 (by decide +kernel) rfl
theorem ww_instanceMethod_yX8_thingOf : Cond.instanceMethod yX8_thingOf ∈ lw_g := lwm 834 (by decide +kernel) rfl
theorem ww_sel_yX8_thingOf : Cond.selects RX8 yX8_thingOf yX8_thingOf ∈ lw_g := lwm 835 (by decide +kernel) rfl
theorem ww_code_yX7_ask : Cond.code yX7_ask cX7_ask 4 (some .int) ∈ lw_g := lwm 338 (by decide +kernel) rfl
theorem ww_ml_L_22 : Cond.methodLink RL 22 yX7_ask ∈ lw_g := lwm 335 (by decide +kernel) rfl
theorem ww_instanceMethod_yX7_ask : Cond.instanceMethod yX7_ask ∈ lw_g := lwm 336 (by decide +kernel) rfl
theorem ww_sel_yX7_ask : Cond.selects RX7 yX7_ask yX7_ask ∈ lw_g := lwm 337 (by decide +kernel) rfl
theorem ww_ml_L_26 : Cond.methodLink RL 26 yX8_ask ∈ lw_g := lwm 853 (by decide +kernel) rfl
theorem ww_code_yX7_give : Cond.code yX7_give cX7_give 4 (some .int) ∈ lw_g := lwm 395 (by decide +kernel) rfl
theorem ww_ml_L_27 : Cond.methodLink RL 27 yX7_give ∈ lw_g := lwm 392 (by decide +kernel) rfl
theorem ww_instanceMethod_yX7_give : Cond.instanceMethod yX7_give ∈ lw_g := lwm 393 (by decide +kernel) rfl
theorem ww_sel_yX7_give : Cond.selects RX7 yX7_give yX7_give ∈ lw_g := lwm 394 (by decide +kernel) rfl
theorem ww_ml_L_30 : Cond.methodLink RL 30 yX8_give ∈ lw_g := lwm 919 (by decide +kernel) rfl
theorem ww_code_yX7_leaves : Cond.code yX7_leaves cX7_leaves 2 (some .int) ∈ lw_g := lwm 415 (by decide +kernel) rfl
theorem ww_ml_L_31 : Cond.methodLink RL 31 yX7_leaves ∈ lw_g := lwm 412 (by decide +kernel) rfl
theorem ww_instanceMethod_yX7_leaves : Cond.instanceMethod yX7_leaves ∈ lw_g := lwm 413 (by decide +kernel) rfl
theorem ww_sel_yX7_leaves : Cond.selects RX7 yX7_leaves yX7_leaves ∈ lw_g := lwm 414 (by decide +kernel) rfl
theorem ww_code_yX8_leaves : Cond.code yX8_leaves cX8_leaves 2 (some .int) ∈ lw_g := lwm 942 (by decide +kernel) rfl
theorem ww_ml_L_35 : Cond.methodLink RL 35 yX8_leaves ∈ lw_g := lwm 939 (by decide +kernel) rfl
theorem ww_instanceMethod_yX8_leaves : Cond.instanceMethod yX8_leaves ∈ lw_g := lwm 940 (by decide +kernel) rfl
theorem ww_sel_yX8_leaves : Cond.selects RX8 yX8_leaves yX8_leaves ∈ lw_g := lwm 941 (by decide +kernel) rfl
theorem ww_code_yX7_forgets : Cond.code yX7_forgets cX7_forgets 2 (some .int) ∈ lw_g := lwm 424 (by decide +kernel) rfl
theorem ww_ml_L_36 : Cond.methodLink RL 36 yX7_forgets ∈ lw_g := lwm 421 (by decide +kernel) rfl
theorem ww_instanceMethod_yX7_forgets : Cond.instanceMethod yX7_forgets ∈ lw_g := lwm 422 (by decide +kernel) rfl
theorem ww_sel_yX7_forgets : Cond.selects RX7 yX7_forgets yX7_forgets ∈ lw_g := lwm 423 (by decide +kernel) rfl
theorem ww_code_yX8_forgets : Cond.code yX8_forgets cX8_forgets 2 (some .int) ∈ lw_g := lwm 954 (by decide +kernel) rfl
theorem ww_ml_L_39 : Cond.methodLink RL 39 yX8_forgets ∈ lw_g := lwm 951 (by decide +kernel) rfl
theorem ww_instanceMethod_yX8_forgets : Cond.instanceMethod yX8_forgets ∈ lw_g := lwm 952 (by decide +kernel) rfl
theorem ww_sel_yX8_forgets : Cond.selects RX8 yX8_forgets yX8_forgets ∈ lw_g := lwm 953 (by decide +kernel) rfl
theorem ww_code_yX7_breaks : Cond.code yX7_breaks cX7_breaks 2 (some .int) ∈ lw_g := lwm 431 (by decide +kernel) rfl
theorem ww_ml_L_40 : Cond.methodLink RL 40 yX7_breaks ∈ lw_g := lwm 428 (by decide +kernel) rfl
theorem ww_instanceMethod_yX7_breaks : Cond.instanceMethod yX7_breaks ∈ lw_g := lwm 429 (by decide +kernel) rfl
theorem ww_sel_yX7_breaks : Cond.selects RX7 yX7_breaks yX7_breaks ∈ lw_g := lwm 430 (by decide +kernel) rfl
theorem ww_code_yX8_breaks : Cond.code yX8_breaks cX8_breaks 2 (some .int) ∈ lw_g := lwm 958 (by decide +kernel) rfl
theorem ww_ml_L_44 : Cond.methodLink RL 44 yX8_breaks ∈ lw_g := lwm 955 (by decide +kernel) rfl
theorem ww_instanceMethod_yX8_breaks : Cond.instanceMethod yX8_breaks ∈ lw_g := lwm 956 (by decide +kernel) rfl
theorem ww_sel_yX8_breaks : Cond.selects RX8 yX8_breaks yX8_breaks ∈ lw_g := lwm 957 (by decide +kernel) rfl
theorem ww_code_yX7_held : Cond.code yX7_held cX7_held 4 (some .int) ∈ lw_g := lwm 456 (by decide +kernel) rfl
theorem ww_ml_L_45 : Cond.methodLink RL 45 yX7_held ∈ lw_g := lwm 453 (by decide +kernel) rfl
theorem ww_instanceMethod_yX7_held : Cond.instanceMethod yX7_held ∈ lw_g := lwm 454 (by decide +kernel) rfl
theorem ww_sel_yX7_held : Cond.selects RX7 yX7_held yX7_held ∈ lw_g := lwm 455 (by decide +kernel) rfl
theorem ww_code_yX8_held : Cond.code yX8_held cX8_held 4 (some .int) ∈ lw_g := lwm 982 (by decide +kernel) rfl
theorem ww_ml_L_48 : Cond.methodLink RL 48 yX8_held ∈ lw_g := lwm 979 (by decide +kernel) rfl
theorem ww_instanceMethod_yX8_held : Cond.instanceMethod yX8_held ∈ lw_g := lwm 980 (by decide +kernel) rfl
theorem ww_sel_yX8_held : Cond.selects RX8 yX8_held yX8_held ∈ lw_g := lwm 981 (by decide +kernel) rfl
theorem ww_code_yX7_holders : Cond.code yX7_holders cX7_holders 3 (some .int) ∈ lw_g := lwm 464 (by decide +kernel) rfl
theorem ww_ml_L_49 : Cond.methodLink RL 49 yX7_holders ∈ lw_g := lwm 461 (by decide +kernel) rfl
theorem ww_instanceMethod_yX7_holders : Cond.instanceMethod yX7_holders ∈ lw_g := lwm 462 (by decide +kernel) rfl
theorem ww_sel_yX7_holders : Cond.selects RX7 yX7_holders yX7_holders ∈ lw_g := lwm 463 (by decide +kernel) rfl
theorem ww_code_yX8_holders : Cond.code yX8_holders cX8_holders 6 (some .int) ∈ lw_g := lwm 986 (by decide +kernel) rfl
theorem ww_ml_L_52 : Cond.methodLink RL 52 yX8_holders ∈ lw_g := lwm 983 (by decide +kernel) rfl
theorem ww_instanceMethod_yX8_holders : Cond.instanceMethod yX8_holders ∈ lw_g := lwm 984 (by decide +kernel) rfl
theorem ww_sel_yX8_holders : Cond.selects RX8 yX8_holders yX8_holders ∈ lw_g := lwm 985 (by decide +kernel) rfl
theorem ww_code_yX7_waits : Cond.code yX7_waits cX7_waits 3 (some .int) ∈ lw_g := lwm 473 (by decide +kernel) rfl
theorem ww_ml_L_53 : Cond.methodLink RL 53 yX7_waits ∈ lw_g := lwm 470 (by decide +kernel) rfl
theorem ww_instanceMethod_yX7_waits : Cond.instanceMethod yX7_waits ∈ lw_g := lwm 471 (by decide +kernel) rfl
theorem ww_sel_yX7_waits : Cond.selects RX7 yX7_waits yX7_waits ∈ lw_g := lwm 472 (by decide +kernel) rfl
theorem ww_code_yX8_waits : Cond.code yX8_waits cX8_waits 4 (some .int) ∈ lw_g := lwm 990 (by decide +kernel) rfl
theorem ww_ml_L_56 : Cond.methodLink RL 56 yX8_waits ∈ lw_g := lwm 987 (by decide +kernel) rfl
theorem ww_instanceMethod_yX8_waits : Cond.instanceMethod yX8_waits ∈ lw_g := lwm 988 (by decide +kernel) rfl
theorem ww_sel_yX8_waits : Cond.selects RX8 yX8_waits yX8_waits ∈ lw_g := lwm 989 (by decide +kernel) rfl
theorem ww_code_yX7_line : Cond.code yX7_line cX7_line 2 (some .int) ∈ lw_g := lwm 478 (by decide +kernel) rfl
theorem ww_ml_L_57 : Cond.methodLink RL 57 yX7_line ∈ lw_g := lwm 475 (by decide +kernel) rfl
theorem ww_instanceMethod_yX7_line : Cond.instanceMethod yX7_line ∈ lw_g := lwm 476 (by decide +kernel) rfl
theorem ww_sel_yX7_line : Cond.selects RX7 yX7_line yX7_line ∈ lw_g := lwm 477 (by decide +kernel) rfl
theorem ww_code_yX8_line : Cond.code yX8_line cX8_line 2 (some .int) ∈ lw_g := lwm 994 (by decide +kernel) rfl
theorem ww_ml_L_60 : Cond.methodLink RL 60 yX8_line ∈ lw_g := lwm 991 (by decide +kernel) rfl
theorem ww_instanceMethod_yX8_line : Cond.instanceMethod yX8_line ∈ lw_g := lwm 992 (by decide +kernel) rfl
theorem ww_sel_yX8_line : Cond.selects RX8 yX8_line yX8_line ∈ lw_g := lwm 993 (by decide +kernel) rfl
theorem ww_code_yX7_waitsFor : Cond.code yX7_waitsFor cX7_waitsFor 2 (some .int) ∈ lw_g := lwm 482 (by decide +kernel) rfl
theorem ww_ml_L_61 : Cond.methodLink RL 61 yX7_waitsFor ∈ lw_g := lwm 479 (by decide +kernel) rfl
theorem ww_instanceMethod_yX7_waitsFor : Cond.instanceMethod yX7_waitsFor ∈ lw_g := lwm 480 (by decide +kernel) rfl
theorem ww_sel_yX7_waitsFor : Cond.selects RX7 yX7_waitsFor yX7_waitsFor ∈ lw_g := lwm 481 (by decide +kernel) rfl
theorem ww_code_yX8_waitsFor : Cond.code yX8_waitsFor cX8_waitsFor 2 (some .int) ∈ lw_g := lwm 998 (by decide +kernel) rfl
theorem ww_ml_L_64 : Cond.methodLink RL 64 yX8_waitsFor ∈ lw_g := lwm 995 (by decide +kernel) rfl
theorem ww_instanceMethod_yX8_waitsFor : Cond.instanceMethod yX8_waitsFor ∈ lw_g := lwm 996 (by decide +kernel) rfl
theorem ww_sel_yX8_waitsFor : Cond.selects RX8 yX8_waitsFor yX8_waitsFor ∈ lw_g := lwm 997 (by decide +kernel) rfl
theorem ww_code_yX7_ring : Cond.code yX7_ring cX7_ring 4 (some .int) ∈ lw_g := lwm 487 (by decide +kernel) rfl
theorem ww_ml_L_65 : Cond.methodLink RL 65 yX7_ring ∈ lw_g := lwm 484 (by decide +kernel) rfl
theorem ww_instanceMethod_yX7_ring : Cond.instanceMethod yX7_ring ∈ lw_g := lwm 485 (by decide +kernel) rfl
theorem ww_sel_yX7_ring : Cond.selects RX7 yX7_ring yX7_ring ∈ lw_g := lwm 486 (by decide +kernel) rfl
theorem ww_code_yX8_ring : Cond.code yX8_ring cX8_ring 4 (some .int) ∈ lw_g := lwm 1002 (by decide +kernel) rfl
theorem ww_ml_L_68 : Cond.methodLink RL 68 yX8_ring ∈ lw_g := lwm 999 (by decide +kernel) rfl
theorem ww_instanceMethod_yX8_ring : Cond.instanceMethod yX8_ring ∈ lw_g := lwm 1000 (by decide +kernel) rfl
theorem ww_sel_yX8_ring : Cond.selects RX8 yX8_ring yX8_ring ∈ lw_g := lwm 1001 (by decide +kernel) rfl
theorem ww_code_yX7_count : Cond.code yX7_count cX7_count 2 (some .int) ∈ lw_g := lwm 492 (by decide +kernel) rfl
theorem ww_ml_L_69 : Cond.methodLink RL 69 yX7_count ∈ lw_g := lwm 489 (by decide +kernel) rfl
theorem ww_instanceMethod_yX7_count : Cond.instanceMethod yX7_count ∈ lw_g := lwm 490 (by decide +kernel) rfl
theorem ww_sel_yX7_count : Cond.selects RX7 yX7_count yX7_count ∈ lw_g := lwm 491 (by decide +kernel) rfl
theorem ww_code_yX8_count : Cond.code yX8_count cX8_count 2 (some .int) ∈ lw_g := lwm 1006 (by decide +kernel) rfl
theorem ww_ml_L_72 : Cond.methodLink RL 72 yX8_count ∈ lw_g := lwm 1003 (by decide +kernel) rfl
theorem ww_instanceMethod_yX8_count : Cond.instanceMethod yX8_count ∈ lw_g := lwm 1004 (by decide +kernel) rfl
theorem ww_sel_yX8_count : Cond.selects RX8 yX8_count yX8_count ∈ lw_g := lwm 1005 (by decide +kernel) rfl
theorem ww_code_yX7_would : Cond.code yX7_would cX7_would 4 (some .int) ∈ lw_g := lwm 501 (by decide +kernel) rfl
theorem ww_ml_L_73 : Cond.methodLink RL 73 yX7_would ∈ lw_g := lwm 498 (by decide +kernel) rfl
theorem ww_instanceMethod_yX7_would : Cond.instanceMethod yX7_would ∈ lw_g := lwm 499 (by decide +kernel) rfl
theorem ww_sel_yX7_would : Cond.selects RX7 yX7_would yX7_would ∈ lw_g := lwm 500 (by decide +kernel) rfl
theorem ww_code_yX8_would : Cond.code yX8_would cX8_would 6 (some .int) ∈ lw_g := lwm 1014 (by decide +kernel) rfl
theorem ww_ml_L_76 : Cond.methodLink RL 76 yX8_would ∈ lw_g := lwm 1011 (by decide +kernel) rfl
theorem ww_instanceMethod_yX8_would : Cond.instanceMethod yX8_would ∈ lw_g := lwm 1012 (by decide +kernel) rfl
theorem ww_sel_yX8_would : Cond.selects RX8 yX8_would yX8_would ∈ lw_g := lwm 1013 (by decide +kernel) rfl
theorem ww_code_yX7_needs : Cond.code yX7_needs cX7_needs 4 (some .int) ∈ lw_g := lwm 516 (by decide +kernel) rfl
theorem ww_ml_L_77 : Cond.methodLink RL 77 yX7_needs ∈ lw_g := lwm 513 (by decide +kernel) rfl
theorem ww_instanceMethod_yX7_needs : Cond.instanceMethod yX7_needs ∈ lw_g := lwm 514 (by decide +kernel) rfl
theorem ww_sel_yX7_needs : Cond.selects RX7 yX7_needs yX7_needs ∈ lw_g := lwm 515 (by decide +kernel) rfl
theorem ww_code_yX8_needs : Cond.code yX8_needs cX8_needs 6 (some .int) ∈ lw_g := lwm 1029 (by decide +kernel) rfl
theorem ww_ml_L_80 : Cond.methodLink RL 80 yX8_needs ∈ lw_g := lwm 1026 (by decide +kernel) rfl
theorem ww_instanceMethod_yX8_needs : Cond.instanceMethod yX8_needs ∈ lw_g := lwm 1027 (by decide +kernel) rfl
theorem ww_sel_yX8_needs : Cond.selects RX8 yX8_needs yX8_needs ∈ lw_g := lwm 1028 (by decide +kernel) rfl
theorem ww_code_yX7_strongest : Cond.code yX7_strongest cX7_strongest 4 (some .int) ∈ lw_g := lwm 520 (by decide +kernel) rfl
theorem ww_ml_L_81 : Cond.methodLink RL 81 yX7_strongest ∈ lw_g := lwm 517 (by decide +kernel) rfl
theorem ww_instanceMethod_yX7_strongest : Cond.instanceMethod yX7_strongest ∈ lw_g := lwm 518 (by decide +kernel) rfl
theorem ww_sel_yX7_strongest : Cond.selects RX7 yX7_strongest yX7_strongest ∈ lw_g := lwm 519 (by decide +kernel) rfl
theorem ww_code_yX8_strongest : Cond.code yX8_strongest cX8_strongest 4 (some .int) ∈ lw_g := lwm 1040 (by decide +kernel) rfl
theorem ww_ml_L_84 : Cond.methodLink RL 84 yX8_strongest ∈ lw_g := lwm 1037 (by decide +kernel) rfl
theorem ww_instanceMethod_yX8_strongest : Cond.instanceMethod yX8_strongest ∈ lw_g := lwm 1038 (by decide +kernel) rfl
theorem ww_sel_yX8_strongest : Cond.selects RX8 yX8_strongest yX8_strongest ∈ lw_g := lwm 1039 (by decide +kernel) rfl
theorem ww_code_yX7_plan : Cond.code yX7_plan cX7_plan 4 (some .int) ∈ lw_g := lwm 525 (by decide +kernel) rfl
theorem ww_ml_L_85 : Cond.methodLink RL 85 yX7_plan ∈ lw_g := lwm 522 (by decide +kernel) rfl
theorem ww_instanceMethod_yX7_plan : Cond.instanceMethod yX7_plan ∈ lw_g := lwm 523 (by decide +kernel) rfl
theorem ww_sel_yX7_plan : Cond.selects RX7 yX7_plan yX7_plan ∈ lw_g := lwm 524 (by decide +kernel) rfl
theorem ww_code_yX8_plan : Cond.code yX8_plan cX8_plan 5 (some .int) ∈ lw_g := lwm 1044 (by decide +kernel) rfl
theorem ww_ml_L_88 : Cond.methodLink RL 88 yX8_plan ∈ lw_g := lwm 1041 (by decide +kernel) rfl
theorem ww_instanceMethod_yX8_plan : Cond.instanceMethod yX8_plan ∈ lw_g := lwm 1042 (by decide +kernel) rfl
theorem ww_sel_yX8_plan : Cond.selects RX8 yX8_plan yX8_plan ∈ lw_g := lwm 1043 (by decide +kernel) rfl
theorem ww_code_yX7_plays : Cond.code yX7_plays cX7_plays 3 (some .int) ∈ lw_g := lwm 533 (by decide +kernel) rfl
theorem ww_ml_L_89 : Cond.methodLink RL 89 yX7_plays ∈ lw_g := lwm 530 (by decide +kernel) rfl
theorem ww_instanceMethod_yX7_plays : Cond.instanceMethod yX7_plays ∈ lw_g := lwm 531 (by decide +kernel) rfl
theorem ww_sel_yX7_plays : Cond.selects RX7 yX7_plays yX7_plays ∈ lw_g := lwm 532 (by decide +kernel) rfl
theorem ww_code_yX8_plays : Cond.code yX8_plays cX8_plays 4 (some .int) ∈ lw_g := lwm 1048 (by decide +kernel) rfl
theorem ww_ml_L_92 : Cond.methodLink RL 92 yX8_plays ∈ lw_g := lwm 1045 (by decide +kernel) rfl
theorem ww_instanceMethod_yX8_plays : Cond.instanceMethod yX8_plays ∈ lw_g := lwm 1046 (by decide +kernel) rfl
theorem ww_sel_yX8_plays : Cond.selects RX8 yX8_plays yX8_plays ∈ lw_g := lwm 1047 (by decide +kernel) rfl
theorem ww_code_yX7_lots : Cond.code yX7_lots cX7_lots 6 (some .int) ∈ lw_g := lwm 555 (by decide +kernel) rfl
theorem ww_ml_L_93 : Cond.methodLink RL 93 yX7_lots ∈ lw_g := lwm 552 (by decide +kernel) rfl
theorem ww_instanceMethod_yX7_lots : Cond.instanceMethod yX7_lots ∈ lw_g := lwm 553 (by decide +kernel) rfl
theorem ww_sel_yX7_lots : Cond.selects RX7 yX7_lots yX7_lots ∈ lw_g := lwm 554 (by decide +kernel) rfl
theorem ww_code_yX8_lots : Cond.code yX8_lots cX8_lots 9 (some .int) ∈ lw_g := lwm 1065 (by decide +kernel) rfl
theorem ww_ml_L_96 : Cond.methodLink RL 96 yX8_lots ∈ lw_g := lwm 1062 (by decide +kernel) rfl
theorem ww_instanceMethod_yX8_lots : Cond.instanceMethod yX8_lots ∈ lw_g := lwm 1063 (by decide +kernel) rfl
theorem ww_sel_yX8_lots : Cond.selects RX8 yX8_lots yX8_lots ∈ lw_g := lwm 1064 (by decide +kernel) rfl
theorem ww_code_yX7_weighs : Cond.code yX7_weighs cX7_weighs 4 (some .int) ∈ lw_g := lwm 570 (by decide +kernel) rfl
theorem ww_ml_L_97 : Cond.methodLink RL 97 yX7_weighs ∈ lw_g := lwm 567 (by decide +kernel) rfl
theorem ww_instanceMethod_yX7_weighs : Cond.instanceMethod yX7_weighs ∈ lw_g := lwm 568 (by decide +kernel) rfl
theorem ww_sel_yX7_weighs : Cond.selects RX7 yX7_weighs yX7_weighs ∈ lw_g := lwm 569 (by decide +kernel) rfl
theorem ww_code_yX8_weighs : Cond.code yX8_weighs cX8_weighs 3 (some .int) ∈ lw_g := lwm 1079 (by decide +kernel) rfl
theorem ww_ml_L_100 : Cond.methodLink RL 100 yX8_weighs ∈ lw_g := lwm 1076 (by decide +kernel) rfl
theorem ww_instanceMethod_yX8_weighs : Cond.instanceMethod yX8_weighs ∈ lw_g := lwm 1077 (by decide +kernel) rfl
theorem ww_sel_yX8_weighs : Cond.selects RX8 yX8_weighs yX8_weighs ∈ lw_g := lwm 1078 (by decide +kernel) rfl
theorem ww_code_yX7_plunges : Cond.code yX7_plunges cX7_plunges 7 (some .int) ∈ lw_g := lwm 596 (by decide +kernel) rfl
theorem ww_ml_L_101 : Cond.methodLink RL 101 yX7_plunges ∈ lw_g := lwm 593 (by decide +kernel) rfl
theorem ww_instanceMethod_yX7_plunges : Cond.instanceMethod yX7_plunges ∈ lw_g := lwm 594 (by decide +kernel) rfl
theorem ww_sel_yX7_plunges : Cond.selects RX7 yX7_plunges yX7_plunges ∈ lw_g := lwm 595 (by decide +kernel) rfl
theorem ww_code_yX8_plunges : Cond.code yX8_plunges cX8_plunges 6 (some .int) ∈ lw_g := lwm 1096 (by decide +kernel) rfl
theorem ww_ml_L_104 : Cond.methodLink RL 104 yX8_plunges ∈ lw_g := lwm 1093 (by decide +kernel) rfl
theorem ww_instanceMethod_yX8_plunges : Cond.instanceMethod yX8_plunges ∈ lw_g := lwm 1094 (by decide +kernel) rfl
theorem ww_sel_yX8_plunges : Cond.selects RX8 yX8_plunges yX8_plunges ∈ lw_g := lwm 1095 (by decide +kernel) rfl
theorem ww_code_yX7_bell : Cond.code yX7_bell cX7_bell 4 (some .int) ∈ lw_g := lwm 600 (by decide +kernel) rfl
theorem ww_ml_L_105 : Cond.methodLink RL 105 yX7_bell ∈ lw_g := lwm 597 (by decide +kernel) rfl
theorem ww_instanceMethod_yX7_bell : Cond.instanceMethod yX7_bell ∈ lw_g := lwm 598 (by decide +kernel) rfl
theorem ww_sel_yX7_bell : Cond.selects RX7 yX7_bell yX7_bell ∈ lw_g := lwm 599 (by decide +kernel) rfl
theorem ww_code_yX8_bell : Cond.code yX8_bell cX8_bell 3 (some .int) ∈ lw_g := lwm 1100 (by decide +kernel) rfl
theorem ww_ml_L_108 : Cond.methodLink RL 108 yX8_bell ∈ lw_g := lwm 1097 (by decide +kernel) rfl
theorem ww_instanceMethod_yX8_bell : Cond.instanceMethod yX8_bell ∈ lw_g := lwm 1098 (by decide +kernel) rfl
theorem ww_sel_yX8_bell : Cond.selects RX8 yX8_bell yX8_bell ∈ lw_g := lwm 1099 (by decide +kernel) rfl
theorem ww_code_yX7_gate : Cond.code yX7_gate cX7_gate 4 (some .int) ∈ lw_g := lwm 604 (by decide +kernel) rfl
theorem ww_ml_L_109 : Cond.methodLink RL 109 yX7_gate ∈ lw_g := lwm 601 (by decide +kernel) rfl
theorem ww_instanceMethod_yX7_gate : Cond.instanceMethod yX7_gate ∈ lw_g := lwm 602 (by decide +kernel) rfl
theorem ww_sel_yX7_gate : Cond.selects RX7 yX7_gate yX7_gate ∈ lw_g := lwm 603 (by decide +kernel) rfl
theorem ww_code_yX8_gate : Cond.code yX8_gate cX8_gate 3 (some .int) ∈ lw_g := lwm 1104 (by decide +kernel) rfl
theorem ww_ml_L_112 : Cond.methodLink RL 112 yX8_gate ∈ lw_g := lwm 1101 (by decide +kernel) rfl
theorem ww_instanceMethod_yX8_gate : Cond.instanceMethod yX8_gate ∈ lw_g := lwm 1102 (by decide +kernel) rfl
theorem ww_sel_yX8_gate : Cond.selects RX8 yX8_gate yX8_gate ∈ lw_g := lwm 1103 (by decide +kernel) rfl
theorem ww_code_yX7_feed : Cond.code yX7_feed cX7_feed 2 (some .int) ∈ lw_g := lwm 608 (by decide +kernel) rfl
theorem ww_ml_L_113 : Cond.methodLink RL 113 yX7_feed ∈ lw_g := lwm 605 (by decide +kernel) rfl
theorem ww_instanceMethod_yX7_feed : Cond.instanceMethod yX7_feed ∈ lw_g := lwm 606 (by decide +kernel) rfl
theorem ww_sel_yX7_feed : Cond.selects RX7 yX7_feed yX7_feed ∈ lw_g := lwm 607 (by decide +kernel) rfl
theorem ww_code_yX8_feed : Cond.code yX8_feed cX8_feed 2 (some .int) ∈ lw_g := lwm 1108 (by decide +kernel) rfl
theorem ww_ml_L_116 : Cond.methodLink RL 116 yX8_feed ∈ lw_g := lwm 1105 (by decide +kernel) rfl
theorem ww_instanceMethod_yX8_feed : Cond.instanceMethod yX8_feed ∈ lw_g := lwm 1106 (by decide +kernel) rfl
theorem ww_sel_yX8_feed : Cond.selects RX8 yX8_feed yX8_feed ∈ lw_g := lwm 1107 (by decide +kernel) rfl
theorem ww_code_yX7_reads : Cond.code yX7_reads cX7_reads 3 (some .int) ∈ lw_g := lwm 616 (by decide +kernel) rfl
theorem ww_ml_L_117 : Cond.methodLink RL 117 yX7_reads ∈ lw_g := lwm 613 (by decide +kernel) rfl
theorem ww_instanceMethod_yX7_reads : Cond.instanceMethod yX7_reads ∈ lw_g := lwm 614 (by decide +kernel) rfl
theorem ww_sel_yX7_reads : Cond.selects RX7 yX7_reads yX7_reads ∈ lw_g := lwm 615 (by decide +kernel) rfl
theorem ww_code_yX8_reads : Cond.code yX8_reads cX8_reads 3 (some .int) ∈ lw_g := lwm 1112 (by decide +kernel) rfl
theorem ww_ml_L_120 : Cond.methodLink RL 120 yX8_reads ∈ lw_g := lwm 1109 (by decide +kernel) rfl
theorem ww_instanceMethod_yX8_reads : Cond.instanceMethod yX8_reads ∈ lw_g := lwm 1110 (by decide +kernel) rfl
theorem ww_sel_yX8_reads : Cond.selects RX8 yX8_reads yX8_reads ∈ lw_g := lwm 1111 (by decide +kernel) rfl
theorem ww_code_yX7_spells : Cond.code yX7_spells cX7_spells 4 (some .int) ∈ lw_g := lwm 653 (by decide +kernel) rfl
theorem ww_ml_L_121 : Cond.methodLink RL 121 yX7_spells ∈ lw_g := lwm 650 (by decide +kernel) rfl
theorem ww_instanceMethod_yX7_spells : Cond.instanceMethod yX7_spells ∈ lw_g := lwm 651 (by decide +kernel) rfl
theorem ww_sel_yX7_spells : Cond.selects RX7 yX7_spells yX7_spells ∈ lw_g := lwm 652 (by decide +kernel) rfl
theorem ww_code_yX8_spells : Cond.code yX8_spells cX8_spells 5 (some .int) ∈ lw_g := lwm 1149 (by decide +kernel) rfl
theorem ww_ml_L_124 : Cond.methodLink RL 124 yX8_spells ∈ lw_g := lwm 1146 (by decide +kernel) rfl
theorem ww_instanceMethod_yX8_spells : Cond.instanceMethod yX8_spells ∈ lw_g := lwm 1147 (by decide +kernel) rfl
theorem ww_sel_yX8_spells : Cond.selects RX8 yX8_spells yX8_spells ∈ lw_g := lwm 1148 (by decide +kernel) rfl
theorem ww_code_yX7_paper : Cond.code yX7_paper cX7_paper 2 (some .int) ∈ lw_g := lwm 673 (by decide +kernel) rfl
theorem ww_ml_L_125 : Cond.methodLink RL 125 yX7_paper ∈ lw_g := lwm 670 (by decide +kernel) rfl
theorem ww_instanceMethod_yX7_paper : Cond.instanceMethod yX7_paper ∈ lw_g := lwm 671 (by decide +kernel) rfl
theorem ww_sel_yX7_paper : Cond.selects RX7 yX7_paper yX7_paper ∈ lw_g := lwm 672 (by decide +kernel) rfl
theorem ww_code_yX8_paper : Cond.code yX8_paper cX8_paper 2 (some .int) ∈ lw_g := lwm 1168 (by decide +kernel) rfl
theorem ww_ml_L_128 : Cond.methodLink RL 128 yX8_paper ∈ lw_g := lwm 1165 (by decide +kernel) rfl
theorem ww_instanceMethod_yX8_paper : Cond.instanceMethod yX8_paper ∈ lw_g := lwm 1166 (by decide +kernel) rfl
theorem ww_sel_yX8_paper : Cond.selects RX8 yX8_paper yX8_paper ∈ lw_g := lwm 1167 (by decide +kernel) rfl
theorem ww_code_yX7_list : Cond.code yX7_list cX7_list 3 (some .int) ∈ lw_g := lwm 677 (by decide +kernel) rfl
theorem ww_ml_L_129 : Cond.methodLink RL 129 yX7_list ∈ lw_g := lwm 674 (by decide +kernel) rfl
theorem ww_instanceMethod_yX7_list : Cond.instanceMethod yX7_list ∈ lw_g := lwm 675 (by decide +kernel) rfl
theorem ww_sel_yX7_list : Cond.selects RX7 yX7_list yX7_list ∈ lw_g := lwm 676 (by decide +kernel) rfl
theorem ww_code_yX8_list : Cond.code yX8_list cX8_list 4 (some .int) ∈ lw_g := lwm 1172 (by decide +kernel) rfl
theorem ww_ml_L_132 : Cond.methodLink RL 132 yX8_list ∈ lw_g := lwm 1169 (by decide +kernel) rfl
theorem ww_instanceMethod_yX8_list : Cond.instanceMethod yX8_list ∈ lw_g := lwm 1170 (by decide +kernel) rfl
theorem ww_sel_yX8_list : Cond.selects RX8 yX8_list yX8_list ∈ lw_g := lwm 1171 (by decide +kernel) rfl
theorem ww_code_yX7_set : Cond.code yX7_set cX7_set 4 (some .int) ∈ lw_g := lwm 691 (by decide +kernel) rfl
theorem ww_ml_L_133 : Cond.methodLink RL 133 yX7_set ∈ lw_g := lwm 688 (by decide +kernel) rfl
theorem ww_instanceMethod_yX7_set : Cond.instanceMethod yX7_set ∈ lw_g := lwm 689 (by decide +kernel) rfl
theorem ww_sel_yX7_set : Cond.selects RX7 yX7_set yX7_set ∈ lw_g := lwm 690 (by decide +kernel) rfl
theorem ww_code_yX8_set : Cond.code yX8_set cX8_set 4 (some .int) ∈ lw_g := lwm 1179 (by decide +kernel) rfl
theorem ww_ml_L_136 : Cond.methodLink RL 136 yX8_set ∈ lw_g := lwm 1176 (by decide +kernel) rfl
theorem ww_instanceMethod_yX8_set : Cond.instanceMethod yX8_set ∈ lw_g := lwm 1177 (by decide +kernel) rfl
theorem ww_sel_yX8_set : Cond.selects RX8 yX8_set yX8_set ∈ lw_g := lwm 1178 (by decide +kernel) rfl
theorem ww_code_yX7_get : Cond.code yX7_get cX7_get 3 (some .long) ∈ lw_g := lwm 704 (by decide +kernel) rfl
theorem ww_ml_L_137 : Cond.methodLink RL 137 yX7_get ∈ lw_g := lwm 701 (by decide +kernel) rfl
theorem ww_instanceMethod_yX7_get : Cond.instanceMethod yX7_get ∈ lw_g := lwm 702 (by decide +kernel) rfl
theorem ww_sel_yX7_get : Cond.selects RX7 yX7_get yX7_get ∈ lw_g := lwm 703 (by decide +kernel) rfl
theorem ww_code_yX8_get : Cond.code yX8_get cX8_get 3 (some .long) ∈ lw_g := lwm 1183 (by decide +kernel) rfl
theorem ww_ml_L_141 : Cond.methodLink RL 141 yX8_get ∈ lw_g := lwm 1180 (by decide +kernel) rfl
theorem ww_instanceMethod_yX8_get : Cond.instanceMethod yX8_get ∈ lw_g := lwm 1181 (by decide +kernel) rfl
theorem ww_sel_yX8_get : Cond.selects RX8 yX8_get yX8_get ∈ lw_g := lwm 1182 (by decide +kernel) rfl
theorem ww_code_yX7_does : Cond.code yX7_does cX7_does 6 (some .int) ∈ lw_g := lwm 709 (by decide +kernel) rfl
theorem ww_ml_L_142 : Cond.methodLink RL 142 yX7_does ∈ lw_g := lwm 706 (by decide +kernel) rfl
theorem ww_instanceMethod_yX7_does : Cond.instanceMethod yX7_does ∈ lw_g := lwm 707 (by decide +kernel) rfl
theorem ww_sel_yX7_does : Cond.selects RX7 yX7_does yX7_does ∈ lw_g := lwm 708 (by decide +kernel) rfl
theorem ww_code_yX8_does_ : Cond.code yX8_does_ cX8_does_ 6 (some .int) ∈ lw_g := lwm 1188 (by decide +kernel) rfl
theorem ww_ml_L_145 : Cond.methodLink RL 145 yX8_does_ ∈ lw_g := lwm 1185 (by decide +kernel) rfl
theorem ww_instanceMethod_yX8_does_ : Cond.instanceMethod yX8_does_ ∈ lw_g := lwm 1186 (by decide +kernel) rfl
theorem ww_sel_yX8_does_ : Cond.selects RX8 yX8_does_ yX8_does_ ∈ lw_g := lwm 1187 (by decide +kernel) rfl
theorem ww_code_yX7_into : Cond.code yX7_into cX7_into 6 (some .int) ∈ lw_g := lwm 713 (by decide +kernel) rfl
theorem ww_ml_L_146 : Cond.methodLink RL 146 yX7_into ∈ lw_g := lwm 710 (by decide +kernel) rfl
theorem ww_instanceMethod_yX7_into : Cond.instanceMethod yX7_into ∈ lw_g := lwm 711 (by decide +kernel) rfl
theorem ww_sel_yX7_into : Cond.selects RX7 yX7_into yX7_into ∈ lw_g := lwm 712 (by decide +kernel) rfl
theorem ww_code_yX8_into : Cond.code yX8_into cX8_into 5 (some .int) ∈ lw_g := lwm 1192 (by decide +kernel) rfl
theorem ww_ml_L_149 : Cond.methodLink RL 149 yX8_into ∈ lw_g := lwm 1189 (by decide +kernel) rfl
theorem ww_instanceMethod_yX8_into : Cond.instanceMethod yX8_into ∈ lw_g := lwm 1190 (by decide +kernel) rfl
theorem ww_sel_yX8_into : Cond.selects RX8 yX8_into yX8_into ∈ lw_g := lwm 1191 (by decide +kernel) rfl
theorem ww_code_yX7_image : Cond.code yX7_image cX7_image 1 (some .int) ∈ lw_g := lwm 717 (by decide +kernel) rfl
theorem ww_ml_L_150 : Cond.methodLink RL 150 yX7_image ∈ lw_g := lwm 714 (by decide +kernel) rfl
theorem ww_instanceMethod_yX7_image : Cond.instanceMethod yX7_image ∈ lw_g := lwm 715 (by decide +kernel) rfl
theorem ww_sel_yX7_image : Cond.selects RX7 yX7_image yX7_image ∈ lw_g := lwm 716 (by decide +kernel) rfl
theorem ww_code_yX8_image : Cond.code yX8_image cX8_image 1 (some .int) ∈ lw_g := lwm 1196 (by decide +kernel) rfl
theorem ww_ml_L_153 : Cond.methodLink RL 153 yX8_image ∈ lw_g := lwm 1193 (by decide +kernel) rfl
theorem ww_instanceMethod_yX8_image : Cond.instanceMethod yX8_image ∈ lw_g := lwm 1194 (by decide +kernel) rfl
theorem ww_sel_yX8_image : Cond.selects RX8 yX8_image yX8_image ∈ lw_g := lwm 1195 (by decide +kernel) rfl
theorem ww_code_yX7_back : Cond.code yX7_back cX7_back 1 (some .int) ∈ lw_g := lwm 721 (by decide +kernel) rfl
theorem ww_ml_L_154 : Cond.methodLink RL 154 yX7_back ∈ lw_g := lwm 718 (by decide +kernel) rfl
theorem ww_instanceMethod_yX7_back : Cond.instanceMethod yX7_back ∈ lw_g := lwm 719 (by decide +kernel) rfl
theorem ww_sel_yX7_back : Cond.selects RX7 yX7_back yX7_back ∈ lw_g := lwm 720 (by decide +kernel) rfl
theorem ww_code_yX8_back : Cond.code yX8_back cX8_back 1 (some .int) ∈ lw_g := lwm 1200 (by decide +kernel) rfl
theorem ww_ml_L_157 : Cond.methodLink RL 157 yX8_back ∈ lw_g := lwm 1197 (by decide +kernel) rfl
theorem ww_instanceMethod_yX8_back : Cond.instanceMethod yX8_back ∈ lw_g := lwm 1198 (by decide +kernel) rfl
theorem ww_sel_yX8_back : Cond.selects RX8 yX8_back yX8_back ∈ lw_g := lwm 1199 (by decide +kernel) rfl
theorem csS_X1_18 : csS RX1 18 yX1_cell cX1_cell 2 (some .int) 2 := ⟨⟨ww_ml_X1_18, ww_ini_RX1, ww_code_yX1_cell, by decide +kernel⟩, ww_static_yX1_cell⟩
theorem csV_X3_23 : csV RX3 23 yX3_put cX3_put 2 none 1 := ⟨⟨ww_ml_X3_23, ww_ini_RX3, ww_code_yX3_put, by decide +kernel⟩, ww_instanceMethod_yX3_put, ww_sel_yX3_put⟩
theorem csV_X3_19 : csV RX3 19 yX3_putNumber cX3_putNumber 3 none 1 := ⟨⟨ww_ml_X3_19, ww_ini_RX3, ww_code_yX3_putNumber, by decide +kernel⟩, ww_instanceMethod_yX3_putNumber, ww_sel_yX3_putNumber⟩
theorem csS_X3_26 : csS RX3 26 yX3_letterOf cX3_letterOf 1 (some .int) 1 := ⟨⟨ww_ml_X3_26, ww_ini_RX3, ww_code_yX3_letterOf, by decide +kernel⟩, ww_static_yX3_letterOf⟩
theorem csV_X5_82 : csV RX5 82 yX5_barring cX5_barring 10 (some .int) 3 := ⟨⟨ww_ml_X5_82, ww_ini_RX5, ww_code_yX5_barring, by decide +kernel⟩, ww_instanceMethod_yX5_barring, ww_sel_yX5_barring⟩
theorem csV_X5_86 : csV RX5 86 yX5_isRaise cX5_isRaise 5 (some .boolean) 2 := ⟨⟨ww_ml_X5_86, ww_ini_RX5, ww_code_yX5_isRaise, by decide +kernel⟩, ww_instanceMethod_yX5_isRaise, ww_sel_yX5_isRaise⟩
theorem csV_X5_90 : csV RX5 90 yX5_standingAhead cX5_standingAhead 8 (some .int) 3 := ⟨⟨ww_ml_X5_90, ww_ini_RX5, ww_code_yX5_standingAhead, by decide +kernel⟩, ww_instanceMethod_yX5_standingAhead, ww_sel_yX5_standingAhead⟩
theorem csV_X5_75 : csV RX5 75 yX5_isWaiting cX5_isWaiting 2 (some .boolean) 1 := ⟨⟨ww_ml_X5_75, ww_ini_RX5, ww_code_yX5_isWaiting, by decide +kernel⟩, ww_instanceMethod_yX5_isWaiting, ww_sel_yX5_isWaiting⟩
theorem csV_X5_103 : csV RX5 103 yX5_hindrances cX5_hindrances 5 (some .int) 3 := ⟨⟨ww_ml_X5_103, ww_ini_RX5, ww_code_yX5_hindrances, by decide +kernel⟩, ww_instanceMethod_yX5_hindrances, ww_sel_yX5_hindrances⟩
theorem csN_X5_137 : csN RX5 137 yX7_hasBit cX7_hasBit 2 (some .boolean) 2 := ⟨⟨(by unfold nwM; simp), ww_ini_RX7, ww_code_yX7_hasBit, by decide +kernel⟩, ww_static_yX7_hasBit⟩
theorem csV_X5_134 : csV RX5 134 yX5_waitsForBits cX5_waitsForBits 2 (some .int) 1 := ⟨⟨ww_ml_X5_134, ww_ini_RX5, ww_code_yX5_waitsForBits, by decide +kernel⟩, ww_instanceMethod_yX5_waitsForBits, ww_sel_yX5_waitsForBits⟩
theorem csS_X5_116 : csS RX5 116 yX5_cell cX5_cell 3 (some .int) 3 := ⟨⟨ww_ml_X5_116, ww_ini_RX5, ww_code_yX5_cell, by decide +kernel⟩, ww_static_yX5_cell⟩
theorem csS_X5_78 : csS RX5 78 yX5_row cX5_row 2 (some .int) 2 := ⟨⟨ww_ml_X5_78, ww_ini_RX5, ww_code_yX5_row, by decide +kernel⟩, ww_static_yX5_row⟩
theorem csV_X5_119 : csV RX5 119 yX5_shiftCounts cX5_shiftCounts 10 none 4 := ⟨⟨ww_ml_X5_119, ww_ini_RX5, ww_code_yX5_shiftCounts, by decide +kernel⟩, ww_instanceMethod_yX5_shiftCounts, ww_sel_yX5_shiftCounts⟩
theorem csV_X5_131 : csV RX5 131 yX5_nextToServe cX5_nextToServe 4 (some .int) 0 := ⟨⟨ww_ml_X5_131, ww_ini_RX5, ww_code_yX5_nextToServe, by decide +kernel⟩, ww_instanceMethod_yX5_nextToServe, ww_sel_yX5_nextToServe⟩
theorem csV_X5_106 : csV RX5 106 yX5_grant cX5_grant 4 none 3 := ⟨⟨ww_ml_X5_106, ww_ini_RX5, ww_code_yX5_grant, by decide +kernel⟩, ww_instanceMethod_yX5_grant, ww_sel_yX5_grant⟩
theorem csV_X5_127 : csV RX5 127 yX5_quitLine cX5_quitLine 4 none 1 := ⟨⟨ww_ml_X5_127, ww_ini_RX5, ww_code_yX5_quitLine, by decide +kernel⟩, ww_instanceMethod_yX5_quitLine, ww_sel_yX5_quitLine⟩
theorem csV_X5_123 : csV RX5 123 yX5_serve cX5_serve 4 (some .int) 0 := ⟨⟨ww_ml_X5_123, ww_ini_RX5, ww_code_yX5_serve, by decide +kernel⟩, ww_instanceMethod_yX5_serve, ww_sel_yX5_serve⟩
theorem csV_X5_140 : csV RX5 140 yX5_askedCounts cX5_askedCounts 5 (some .int) 1 := ⟨⟨ww_ml_X5_140, ww_ini_RX5, ww_code_yX5_askedCounts, by decide +kernel⟩, ww_instanceMethod_yX5_askedCounts, ww_sel_yX5_askedCounts⟩
theorem csN_X5_64 : csN RX5 64 yX7_isOwner cX7_isOwner 1 (some .boolean) 1 := ⟨⟨(by unfold nwM; simp), ww_ini_RX7, ww_code_yX7_isOwner, by decide +kernel⟩, ww_static_yX7_isOwner⟩
theorem csV_X5_68 : csV RX5 68 yX5_isThing cX5_isThing 2 (some .boolean) 1 := ⟨⟨ww_ml_X5_68, ww_ini_RX5, ww_code_yX5_isThing, by decide +kernel⟩, ww_instanceMethod_yX5_isThing, ww_sel_yX5_isThing⟩
theorem csV_X5_113 : csV RX5 113 yX5_joinLine cX5_joinLine 4 none 3 := ⟨⟨ww_ml_X5_113, ww_ini_RX5, ww_code_yX5_joinLine, by decide +kernel⟩, ww_instanceMethod_yX5_joinLine, ww_sel_yX5_joinLine⟩
theorem csV_X5_99 : csV RX5 99 yX5_isAsk cX5_isAsk 4 (some .boolean) 3 := ⟨⟨ww_ml_X5_99, ww_ini_RX5, ww_code_yX5_isAsk, by decide +kernel⟩, ww_instanceMethod_yX5_isAsk, ww_sel_yX5_isAsk⟩
theorem csV_X5_110 : csV RX5 110 yX5_raiseWaits cX5_raiseWaits 3 (some .boolean) 1 := ⟨⟨ww_ml_X5_110, ww_ini_RX5, ww_code_yX5_raiseWaits, by decide +kernel⟩, ww_instanceMethod_yX5_raiseWaits, ww_sel_yX5_raiseWaits⟩
theorem csV_X4_59 : csV RX4 59 yX5_ringBits cX5_ringBits 3 (some .int) 0 := ⟨⟨ww_ml_X4_59, ww_ini_RX5, ww_code_yX5_ringBits, by decide +kernel⟩, ww_instanceMethod_yX5_ringBits, ww_sel_yX5_ringBits⟩
theorem csV_X4_63 : csV RX4 63 yX5_leastOf cX5_leastOf 6 (some .int) 1 := ⟨⟨ww_ml_X4_63, ww_ini_RX5, ww_code_yX5_leastOf, by decide +kernel⟩, ww_instanceMethod_yX5_leastOf, ww_sel_yX5_leastOf⟩
theorem csV_X4_55 : csV RX4 55 yX5_giveUpAll cX5_giveUpAll 4 (some .int) 1 := ⟨⟨ww_ml_X4_55, ww_ini_RX5, ww_code_yX5_giveUpAll, by decide +kernel⟩, ww_instanceMethod_yX5_giveUpAll, ww_sel_yX5_giveUpAll⟩
theorem csN_X4_33 : csN RX4 33 yX7_hasBit cX7_hasBit 2 (some .boolean) 2 := ⟨⟨(by unfold nwM; simp), ww_ini_RX7, ww_code_yX7_hasBit, by decide +kernel⟩, ww_static_yX7_hasBit⟩
theorem csV_X4_37 : csV RX4 37 yX5_isWaiting cX5_isWaiting 2 (some .boolean) 1 := ⟨⟨ww_ml_X4_37, ww_ini_RX5, ww_code_yX5_isWaiting, by decide +kernel⟩, ww_instanceMethod_yX5_isWaiting, ww_sel_yX5_isWaiting⟩
theorem csV_X4_41 : csV RX4 41 yX4_takeRow cX4_takeRow 4 (some .int) 2 := ⟨⟨ww_ml_X4_41, ww_ini_RX4, ww_code_yX4_takeRow, by decide +kernel⟩, ww_instanceMethod_yX4_takeRow, ww_sel_yX4_takeRow⟩
theorem csV_X4_51 : csV RX4 51 yX5_request cX5_request 4 (some .int) 3 := ⟨⟨ww_ml_X4_51, ww_ini_RX5, ww_code_yX5_request, by decide +kernel⟩, ww_instanceMethod_yX5_request, ww_sel_yX5_request⟩
theorem csV_X5_71 : csV RX5 71 yX5_countsAt cX5_countsAt 5 (some .int) 1 := ⟨⟨ww_ml_X5_71, ww_ini_RX5, ww_code_yX5_countsAt, by decide +kernel⟩, ww_instanceMethod_yX5_countsAt, ww_sel_yX5_countsAt⟩
theorem csV_X6_42 : csV RX6 42 yX6_peek cX6_peek 1 (some .int) 0 := ⟨⟨ww_ml_X6_42, ww_ini_RX6, ww_code_yX6_peek, by decide +kernel⟩, ww_instanceMethod_yX6_peek, ww_sel_yX6_peek⟩
theorem csS_X6_56 : csS RX6 56 yX6_isFigure cX6_isFigure 1 (some .boolean) 1 := ⟨⟨ww_ml_X6_56, ww_ini_RX6, ww_code_yX6_isFigure, by decide +kernel⟩, ww_static_yX6_isFigure⟩
theorem csS_X6_52 : csS RX6 52 yX6_modeOf cX6_modeOf 1 (some .int) 1 := ⟨⟨ww_ml_X6_52, ww_ini_RX6, ww_code_yX6_modeOf, by decide +kernel⟩, ww_static_yX6_modeOf⟩
theorem csV_X6_46 : csV RX6 46 yX6_parseNumber cX6_parseNumber 2 (some .int) 0 := ⟨⟨ww_ml_X6_46, ww_ini_RX6, ww_code_yX6_parseNumber, by decide +kernel⟩, ww_instanceMethod_yX6_parseNumber, ww_sel_yX6_parseNumber⟩
theorem csV_X6_49 : csV RX6 49 yX6_parseAsk cX6_parseAsk 2 (some .boolean) 1 := ⟨⟨ww_ml_X6_49, ww_ini_RX6, ww_code_yX6_parseAsk, by decide +kernel⟩, ww_instanceMethod_yX6_parseAsk, ww_sel_yX6_parseAsk⟩
theorem csV_X6_38 : csV RX6 38 yX6_parseStatement cX6_parseStatement 3 (some .boolean) 1 := ⟨⟨ww_ml_X6_38, ww_ini_RX6, ww_code_yX6_parseStatement, by decide +kernel⟩, ww_instanceMethod_yX6_parseStatement, ww_sel_yX6_parseStatement⟩
theorem csV_X6_65 : csV RX6 65 yX5_giveUp cX5_giveUp 4 (some .int) 3 := ⟨⟨ww_ml_X6_65, ww_ini_RX5, ww_code_yX5_giveUp, by decide +kernel⟩, ww_instanceMethod_yX5_giveUp, ww_sel_yX5_giveUp⟩
theorem csV_X6_59 : csV RX6 59 yX5_addThing cX5_addThing 3 (some .int) 2 := ⟨⟨ww_ml_X6_59, ww_ini_RX5, ww_code_yX5_addThing, by decide +kernel⟩, ww_instanceMethod_yX5_addThing, ww_sel_yX5_addThing⟩
theorem csV_X6_69 : csV RX6 69 yX5_request cX5_request 4 (some .int) 3 := ⟨⟨ww_ml_X6_69, ww_ini_RX5, ww_code_yX5_request, by decide +kernel⟩, ww_instanceMethod_yX5_request, ww_sel_yX5_request⟩
theorem csV_X7_70 : csV RX7 70 yX5_addThing cX5_addThing 3 (some .int) 2 := ⟨⟨ww_ml_X7_70, ww_ini_RX5, ww_code_yX5_addThing, by decide +kernel⟩, ww_instanceMethod_yX5_addThing, ww_sel_yX5_addThing⟩
theorem csV_X7_74 : csV RX7 74 yX5_isThing cX5_isThing 2 (some .boolean) 1 := ⟨⟨ww_ml_X7_74, ww_ini_RX5, ww_code_yX5_isThing, by decide +kernel⟩, ww_instanceMethod_yX5_isThing, ww_sel_yX5_isThing⟩
theorem csV_X7_85 : csV RX7 85 yX5_wholesAbove cX5_wholesAbove 4 (some .int) 1 := ⟨⟨ww_ml_X7_85, ww_ini_RX5, ww_code_yX5_wholesAbove, by decide +kernel⟩, ww_instanceMethod_yX5_wholesAbove, ww_sel_yX5_wholesAbove⟩
theorem csV_X7_89 : csV RX7 89 yX5_partBits cX5_partBits 4 (some .int) 1 := ⟨⟨ww_ml_X7_89, ww_ini_RX5, ww_code_yX5_partBits, by decide +kernel⟩, ww_instanceMethod_yX5_partBits, ww_sel_yX5_partBits⟩
theorem csV_X7_92 : csV RX7 92 yX5_countsAt cX5_countsAt 5 (some .int) 1 := ⟨⟨ww_ml_X7_92, ww_ini_RX5, ww_code_yX5_countsAt, by decide +kernel⟩, ww_instanceMethod_yX5_countsAt, ww_sel_yX5_countsAt⟩
theorem csV_X7_95 : csV RX7 95 yX5_asksFor cX5_asksFor 4 (some .int) 1 := ⟨⟨ww_ml_X7_95, ww_ini_RX5, ww_code_yX5_asksFor, by decide +kernel⟩, ww_instanceMethod_yX5_asksFor, ww_sel_yX5_asksFor⟩
theorem csV_X7_98 : csV RX7 98 yX5_request cX5_request 4 (some .int) 3 := ⟨⟨ww_ml_X7_98, ww_ini_RX5, ww_code_yX5_request, by decide +kernel⟩, ww_instanceMethod_yX5_request, ww_sel_yX5_request⟩
theorem csV_X7_102 : csV RX7 102 yX5_giveUp cX5_giveUp 4 (some .int) 3 := ⟨⟨ww_ml_X7_102, ww_ini_RX5, ww_code_yX5_giveUp, by decide +kernel⟩, ww_instanceMethod_yX5_giveUp, ww_sel_yX5_giveUp⟩
theorem csS_X7_105 : csS RX7 105 yX7_isOwner cX7_isOwner 1 (some .boolean) 1 := ⟨⟨ww_ml_X7_105, ww_ini_RX7, ww_code_yX7_isOwner, by decide +kernel⟩, ww_static_yX7_isOwner⟩
theorem csV_X7_108 : csV RX7 108 yX5_giveUpAll cX5_giveUpAll 4 (some .int) 1 := ⟨⟨ww_ml_X7_108, ww_ini_RX5, ww_code_yX5_giveUpAll, by decide +kernel⟩, ww_instanceMethod_yX5_giveUpAll, ww_sel_yX5_giveUpAll⟩
theorem csV_X7_111 : csV RX7 111 yX5_isWaiting cX5_isWaiting 2 (some .boolean) 1 := ⟨⟨ww_ml_X7_111, ww_ini_RX5, ww_code_yX5_isWaiting, by decide +kernel⟩, ww_instanceMethod_yX5_isWaiting, ww_sel_yX5_isWaiting⟩
theorem csV_X7_114 : csV RX7 114 yX5_quitLine cX5_quitLine 4 none 1 := ⟨⟨ww_ml_X7_114, ww_ini_RX5, ww_code_yX5_quitLine, by decide +kernel⟩, ww_instanceMethod_yX5_quitLine, ww_sel_yX5_quitLine⟩
theorem csV_X7_118 : csV RX7 118 yX5_serve cX5_serve 4 (some .int) 0 := ⟨⟨ww_ml_X7_118, ww_ini_RX5, ww_code_yX5_serve, by decide +kernel⟩, ww_instanceMethod_yX5_serve, ww_sel_yX5_serve⟩
theorem csV_X7_122 : csV RX7 122 yX5_ringBits cX5_ringBits 3 (some .int) 0 := ⟨⟨ww_ml_X7_122, ww_ini_RX5, ww_code_yX5_ringBits, by decide +kernel⟩, ww_instanceMethod_yX5_ringBits, ww_sel_yX5_ringBits⟩
theorem csV_X7_125 : csV RX7 125 yX5_leastOf cX5_leastOf 6 (some .int) 1 := ⟨⟨ww_ml_X7_125, ww_ini_RX5, ww_code_yX5_leastOf, by decide +kernel⟩, ww_instanceMethod_yX5_leastOf, ww_sel_yX5_leastOf⟩
theorem csS_X7_128 : csS RX7 128 yX7_isMode cX7_isMode 1 (some .boolean) 1 := ⟨⟨ww_ml_X7_128, ww_ini_RX7, ww_code_yX7_isMode, by decide +kernel⟩, ww_static_yX7_isMode⟩
theorem csS_X7_134 : csS RX7 134 yX5_cell cX5_cell 3 (some .int) 3 := ⟨⟨ww_ml_X7_134, ww_ini_RX5, ww_code_yX5_cell, by decide +kernel⟩, ww_static_yX5_cell⟩
theorem csS_X7_143 : csS RX7 143 yX5_row cX5_row 2 (some .int) 2 := ⟨⟨ww_ml_X7_143, ww_ini_RX5, ww_code_yX5_row, by decide +kernel⟩, ww_static_yX5_row⟩
theorem csV_X7_137 : csV RX7 137 yX5_holdersInAny cX5_holdersInAny 4 (some .int) 1 := ⟨⟨ww_ml_X7_137, ww_ini_RX5, ww_code_yX5_holdersInAny, by decide +kernel⟩, ww_instanceMethod_yX5_holdersInAny, ww_sel_yX5_holdersInAny⟩
theorem csV_X7_152 : csV RX7 152 yX5_isRaise cX5_isRaise 5 (some .boolean) 2 := ⟨⟨ww_ml_X7_152, ww_ini_RX5, ww_code_yX5_isRaise, by decide +kernel⟩, ww_instanceMethod_yX5_isRaise, ww_sel_yX5_isRaise⟩
theorem csV_X7_163 : csV RX7 163 yX5_waitsForBits cX5_waitsForBits 2 (some .int) 1 := ⟨⟨ww_ml_X7_163, ww_ini_RX5, ww_code_yX5_waitsForBits, by decide +kernel⟩, ww_instanceMethod_yX5_waitsForBits, ww_sel_yX5_waitsForBits⟩
theorem csV_X7_166 : csV RX7 166 yX5_askedCounts cX5_askedCounts 5 (some .int) 1 := ⟨⟨ww_ml_X7_166, ww_ini_RX5, ww_code_yX5_askedCounts, by decide +kernel⟩, ww_instanceMethod_yX5_askedCounts, ww_sel_yX5_askedCounts⟩
theorem csV_X7_172 : csV RX7 172 yX5_allCounts cX5_allCounts 3 (some .int) 0 := ⟨⟨ww_ml_X7_172, ww_ini_RX5, ww_code_yX5_allCounts, by decide +kernel⟩, ww_instanceMethod_yX5_allCounts, ww_sel_yX5_allCounts⟩
theorem csV_X7_185 : csV RX7 185 yX5_isAsk cX5_isAsk 4 (some .boolean) 3 := ⟨⟨ww_ml_X7_185, ww_ini_RX5, ww_code_yX5_isAsk, by decide +kernel⟩, ww_instanceMethod_yX5_isAsk, ww_sel_yX5_isAsk⟩
theorem csV_X7_189 : csV RX7 189 yX5_hindrances cX5_hindrances 5 (some .int) 3 := ⟨⟨ww_ml_X7_189, ww_ini_RX5, ww_code_yX5_hindrances, by decide +kernel⟩, ww_instanceMethod_yX5_hindrances, ww_sel_yX5_hindrances⟩
theorem csV_X7_192 : csV RX7 192 yX5_copyFrom cX5_copyFrom 2 none 1 := ⟨⟨ww_ml_X7_192, ww_ini_RX5, ww_code_yX5_copyFrom, by decide +kernel⟩, ww_instanceMethod_yX5_copyFrom, ww_sel_yX5_copyFrom⟩
theorem csV_X7_196 : csV RX7 196 yX5_joinLine cX5_joinLine 4 none 3 := ⟨⟨ww_ml_X7_196, ww_ini_RX5, ww_code_yX5_joinLine, by decide +kernel⟩, ww_instanceMethod_yX5_joinLine, ww_sel_yX5_joinLine⟩
theorem csS_X7_200 : csS RX7 200 yX7_hasBit cX7_hasBit 2 (some .boolean) 2 := ⟨⟨ww_ml_X7_200, ww_ini_RX7, ww_code_yX7_hasBit, by decide +kernel⟩, ww_static_yX7_hasBit⟩
theorem csV_X7_206 : csV RX7 206 yX5_addRow cX5_addRow 4 (some .int) 3 := ⟨⟨ww_ml_X7_206, ww_ini_RX5, ww_code_yX5_addRow, by decide +kernel⟩, ww_instanceMethod_yX5_addRow, ww_sel_yX5_addRow⟩
theorem csV_X7_215 : csV RX7 215 yX4_playRound cX4_playRound 4 none 1 := ⟨⟨ww_ml_X7_215, ww_ini_RX4, ww_code_yX4_playRound, by decide +kernel⟩, ww_instanceMethod_yX4_playRound, ww_sel_yX4_playRound⟩
theorem csV_X7_209 : csV RX7 209 yX4_start cX4_start 3 none 1 := ⟨⟨ww_ml_X7_209, ww_ini_RX4, ww_code_yX4_start, by decide +kernel⟩, ww_instanceMethod_yX4_start, ww_sel_yX4_start⟩
theorem csV_X7_230 : csV RX7 230 yX2_below cX2_below 2 (some .int) 1 := ⟨⟨ww_ml_X7_230, ww_ini_RX2, ww_code_yX2_below, by decide +kernel⟩, ww_instanceMethod_yX2_below, ww_sel_yX2_below⟩
theorem csV_X7_227 : csV RX7 227 yX7_askByLot cX7_askByLot 3 (some .int) 0 := ⟨⟨ww_ml_X7_227, ww_ini_RX7, ww_code_yX7_askByLot, by decide +kernel⟩, ww_instanceMethod_yX7_askByLot, ww_sel_yX7_askByLot⟩
theorem csV_X7_246 : csV RX7 246 yX5_isBare cX5_isBare 2 (some .boolean) 1 := ⟨⟨ww_ml_X7_246, ww_ini_RX5, ww_code_yX5_isBare, by decide +kernel⟩, ww_instanceMethod_yX5_isBare, ww_sel_yX5_isBare⟩
theorem csV_X7_236 : csV RX7 236 yX0_enter cX0_enter 2 none 1 := ⟨⟨ww_ml_X7_236, ww_ini_RX0, ww_code_yX0_enter, by decide +kernel⟩, ww_instanceMethod_yX0_enter, ww_sel_yX0_enter⟩
theorem csS_X7_239 : csS RX7 239 yX7_weighInside cX7_weighInside 8 (some .int) 5 := ⟨⟨ww_ml_X7_239, ww_ini_RX7, ww_code_yX7_weighInside, by decide +kernel⟩, ww_static_yX7_weighInside⟩
theorem csV_X7_243 : csV RX7 243 yX0_leave cX0_leave 2 none 1 := ⟨⟨ww_ml_X7_243, ww_ini_RX0, ww_code_yX0_leave, by decide +kernel⟩, ww_instanceMethod_yX0_leave, ww_sel_yX0_leave⟩
theorem csV_X7_233 : csV RX7 233 yX7_gateRefusal cX7_gateRefusal 2 (some .int) 1 := ⟨⟨ww_ml_X7_233, ww_ini_RX7, ww_code_yX7_gateRefusal, by decide +kernel⟩, ww_instanceMethod_yX7_gateRefusal, ww_sel_yX7_gateRefusal⟩
theorem csV_X7_258 : csV RX7 258 yX6_append cX6_append 2 none 1 := ⟨⟨ww_ml_X7_258, ww_ini_RX6, ww_code_yX6_append, by decide +kernel⟩, ww_instanceMethod_yX6_append, ww_sel_yX6_append⟩
theorem csV_X7_264 : csV RX7 264 yX6_perform cX6_perform 3 (some .int) 2 := ⟨⟨ww_ml_X7_264, ww_ini_RX6, ww_code_yX6_perform, by decide +kernel⟩, ww_instanceMethod_yX6_perform, ww_sel_yX6_perform⟩
theorem csV_X7_261 : csV RX7 261 yX6_parse cX6_parse 2 (some .int) 0 := ⟨⟨ww_ml_X7_261, ww_ini_RX6, ww_code_yX6_parse, by decide +kernel⟩, ww_instanceMethod_yX6_parse, ww_sel_yX6_parse⟩
theorem csV_X7_270 : csV RX7 270 yX3_putHold cX3_putHold 5 none 4 := ⟨⟨ww_ml_X7_270, ww_ini_RX3, ww_code_yX3_putHold, by decide +kernel⟩, ww_instanceMethod_yX3_putHold, ww_sel_yX3_putHold⟩
theorem csS_X7_278 : csS RX7 278 yX1_isList cX1_isList 1 (some .boolean) 1 := ⟨⟨ww_ml_X7_278, ww_ini_RX1, ww_code_yX1_isList, by decide +kernel⟩, ww_static_yX1_isList⟩
theorem csV_X7_281 : csV RX7 281 yX1_make cX1_make 4 none 2 := ⟨⟨ww_ml_X7_281, ww_ini_RX1, ww_code_yX1_make, by decide +kernel⟩, ww_instanceMethod_yX1_make, ww_sel_yX1_make⟩
theorem csV_X7_285 : csV RX7 285 yX1_holdsRow cX1_holdsRow 2 (some .boolean) 1 := ⟨⟨ww_ml_X7_285, ww_ini_RX1, ww_code_yX1_holdsRow, by decide +kernel⟩, ww_instanceMethod_yX1_holdsRow, ww_sel_yX1_holdsRow⟩
theorem csV_X7_288 : csV RX7 288 yX1_hasPlace cX1_hasPlace 3 (some .boolean) 2 := ⟨⟨ww_ml_X7_288, ww_ini_RX1, ww_code_yX1_hasPlace, by decide +kernel⟩, ww_instanceMethod_yX1_hasPlace, ww_sel_yX1_hasPlace⟩
theorem csS_X7_294 : csS RX7 294 yX1_cell cX1_cell 2 (some .int) 2 := ⟨⟨ww_ml_X7_294, ww_ini_RX1, ww_code_yX1_cell, by decide +kernel⟩, ww_static_yX1_cell⟩
theorem csV_X7_301 : csV RX7 301 yX0_closeFrom cX0_closeFrom 3 none 1 := ⟨⟨ww_ml_X7_301, ww_ini_RX0, ww_code_yX0_closeFrom, by decide +kernel⟩, ww_instanceMethod_yX0_closeFrom, ww_sel_yX0_closeFrom⟩
theorem csS_X8_52 : csS RX8 52 yX8_copies cX8_copies 3 none 2 := ⟨⟨ww_ml_X8_52, ww_ini_RX8, ww_code_yX8_copies, by decide +kernel⟩, ww_static_yX8_copies⟩
theorem csS_X8_62 : csS RX8 62 yX8_in cX8_in 3 (some .boolean) 3 := ⟨⟨ww_ml_X8_62, ww_ini_RX8, ww_code_yX8_in, by decide +kernel⟩, ww_static_yX8_in⟩
theorem csS_X8_66 : csS RX8 66 yX8_isOwner cX8_isOwner 1 (some .boolean) 1 := ⟨⟨ww_ml_X8_66, ww_ini_RX8, ww_code_yX8_isOwner, by decide +kernel⟩, ww_static_yX8_isOwner⟩
theorem csV_X8_70 : csV RX8 70 yX8_isThing cX8_isThing 2 (some .boolean) 1 := ⟨⟨ww_ml_X8_70, ww_ini_RX8, ww_code_yX8_isThing, by decide +kernel⟩, ww_instanceMethod_yX8_isThing, ww_sel_yX8_isThing⟩
theorem csS_X8_73 : csS RX8 73 yX8_isAsked cX8_isAsked 1 (some .boolean) 1 := ⟨⟨ww_ml_X8_73, ww_ini_RX8, ww_code_yX8_isAsked, by decide +kernel⟩, ww_static_yX8_isAsked⟩
theorem csS_X8_76 : csS RX8 76 yX8_together cX8_together 1 (some .int) 1 := ⟨⟨ww_ml_X8_76, ww_ini_RX8, ww_code_yX8_together, by decide +kernel⟩, ww_static_yX8_together⟩
theorem csS_X8_80 : csS RX8 80 yX8_has cX8_has 2 (some .boolean) 2 := ⟨⟨ww_ml_X8_80, ww_ini_RX8, ww_code_yX8_has, by decide +kernel⟩, ww_static_yX8_has⟩
theorem csS_X8_84 : csS RX8 84 yX8_at cX8_at 3 (some .int) 3 := ⟨⟨ww_ml_X8_84, ww_ini_RX8, ww_code_yX8_at, by decide +kernel⟩, ww_static_yX8_at⟩
theorem csV_X8_88 : csV RX8 88 yX8_wholes cX8_wholes 4 (some .int) 1 := ⟨⟨ww_ml_X8_88, ww_ini_RX8, ww_code_yX8_wholes, by decide +kernel⟩, ww_instanceMethod_yX8_wholes, ww_sel_yX8_wholes⟩
theorem csV_X8_91 : csV RX8 91 yX8_partsOf cX8_partsOf 4 (some .int) 1 := ⟨⟨ww_ml_X8_91, ww_ini_RX8, ww_code_yX8_partsOf, by decide +kernel⟩, ww_instanceMethod_yX8_partsOf, ww_sel_yX8_partsOf⟩
theorem csV_X8_94 : csV RX8 94 yX8_countsAt cX8_countsAt 5 (some .int) 1 := ⟨⟨ww_ml_X8_94, ww_ini_RX8, ww_code_yX8_countsAt, by decide +kernel⟩, ww_instanceMethod_yX8_countsAt, ww_sel_yX8_countsAt⟩
theorem csV_X8_97 : csV RX8 97 yX8_askers cX8_askers 4 (some .int) 1 := ⟨⟨ww_ml_X8_97, ww_ini_RX8, ww_code_yX8_askers, by decide +kernel⟩, ww_instanceMethod_yX8_askers, ww_sel_yX8_askers⟩
theorem csS_X8_100 : csS RX8 100 yX8_goTogether cX8_goTogether 2 (some .boolean) 2 := ⟨⟨ww_ml_X8_100, ww_ini_RX8, ww_code_yX8_goTogether, by decide +kernel⟩, ww_static_yX8_goTogether⟩
theorem csS_X8_106 : csS RX8 106 yX8_above cX8_above 1 (some .int) 1 := ⟨⟨ww_ml_X8_106, ww_ini_RX8, ww_code_yX8_above, by decide +kernel⟩, ww_static_yX8_above⟩
theorem csV_X8_103 : csV RX8 103 yX8_isBarredAt cX8_isBarredAt 5 (some .boolean) 3 := ⟨⟨ww_ml_X8_103, ww_ini_RX8, ww_code_yX8_isBarredAt, by decide +kernel⟩, ww_instanceMethod_yX8_isBarredAt, ww_sel_yX8_isBarredAt⟩
theorem csV_X8_109 : csV RX8 109 yX8_placeOf cX8_placeOf 3 (some .int) 1 := ⟨⟨ww_ml_X8_109, ww_ini_RX8, ww_code_yX8_placeOf, by decide +kernel⟩, ww_instanceMethod_yX8_placeOf, ww_sel_yX8_placeOf⟩
theorem csV_X8_115 : csV RX8 115 yX8_isRaise cX8_isRaise 3 (some .boolean) 2 := ⟨⟨ww_ml_X8_115, ww_ini_RX8, ww_code_yX8_isRaise, by decide +kernel⟩, ww_instanceMethod_yX8_isRaise, ww_sel_yX8_isRaise⟩
theorem csV_X8_112 : csV RX8 112 yX8_isBarred cX8_isBarred 5 (some .boolean) 3 := ⟨⟨ww_ml_X8_112, ww_ini_RX8, ww_code_yX8_isBarred, by decide +kernel⟩, ww_instanceMethod_yX8_isBarred, ww_sel_yX8_isBarred⟩
theorem csV_X8_118 : csV RX8 118 yX8_barring cX8_barring 7 (some .int) 4 := ⟨⟨ww_ml_X8_118, ww_ini_RX8, ww_code_yX8_barring, by decide +kernel⟩, ww_instanceMethod_yX8_barring, ww_sel_yX8_barring⟩
theorem csV_X8_122 : csV RX8 122 yX8_changes cX8_changes 6 none 4 := ⟨⟨ww_ml_X8_122, ww_ini_RX8, ww_code_yX8_changes, by decide +kernel⟩, ww_instanceMethod_yX8_changes, ww_sel_yX8_changes⟩
theorem csV_X8_126 : csV RX8 126 yX8_barringAt cX8_barringAt 2 (some .int) 1 := ⟨⟨ww_ml_X8_126, ww_ini_RX8, ww_code_yX8_barringAt, by decide +kernel⟩, ww_instanceMethod_yX8_barringAt, ww_sel_yX8_barringAt⟩
theorem csV_X8_133 : csV RX8 133 yX8_leavesLine cX8_leavesLine 3 none 1 := ⟨⟨ww_ml_X8_133, ww_ini_RX8, ww_code_yX8_leavesLine, by decide +kernel⟩, ww_instanceMethod_yX8_leavesLine, ww_sel_yX8_leavesLine⟩
theorem csV_X8_137 : csV RX8 137 yX8_grants cX8_grants 4 none 3 := ⟨⟨ww_ml_X8_137, ww_ini_RX8, ww_code_yX8_grants, by decide +kernel⟩, ww_instanceMethod_yX8_grants, ww_sel_yX8_grants⟩
theorem csV_X8_129 : csV RX8 129 yX8_nextServed cX8_nextServed 3 (some .int) 0 := ⟨⟨ww_ml_X8_129, ww_ini_RX8, ww_code_yX8_nextServed, by decide +kernel⟩, ww_instanceMethod_yX8_nextServed, ww_sel_yX8_nextServed⟩
theorem csV_X8_141 : csV RX8 141 yX8_isAsk cX8_isAsk 4 (some .boolean) 3 := ⟨⟨ww_ml_X8_141, ww_ini_RX8, ww_code_yX8_isAsk, by decide +kernel⟩, ww_instanceMethod_yX8_isAsk, ww_sel_yX8_isAsk⟩
theorem csV_X8_144 : csV RX8 144 yX8_isInLine cX8_isInLine 2 (some .boolean) 1 := ⟨⟨ww_ml_X8_144, ww_ini_RX8, ww_code_yX8_isInLine, by decide +kernel⟩, ww_instanceMethod_yX8_isInLine, ww_sel_yX8_isInLine⟩
theorem csV_X8_147 : csV RX8 147 yX8_canBe cX8_canBe 4 (some .boolean) 3 := ⟨⟨ww_ml_X8_147, ww_ini_RX8, ww_code_yX8_canBe, by decide +kernel⟩, ww_instanceMethod_yX8_canBe, ww_sel_yX8_canBe⟩
theorem csV_X8_150 : csV RX8 150 yX8_isOtherRaise cX8_isOtherRaise 5 (some .boolean) 2 := ⟨⟨ww_ml_X8_150, ww_ini_RX8, ww_code_yX8_isOtherRaise, by decide +kernel⟩, ww_instanceMethod_yX8_isOtherRaise, ww_sel_yX8_isOtherRaise⟩
theorem csV_X8_153 : csV RX8 153 yX8_serves cX8_serves 6 (some .int) 0 := ⟨⟨ww_ml_X8_153, ww_ini_RX8, ww_code_yX8_serves, by decide +kernel⟩, ww_instanceMethod_yX8_serves, ww_sel_yX8_serves⟩
theorem csV_X8_156 : csV RX8 156 yX8_emptiesOwner cX8_emptiesOwner 5 none 1 := ⟨⟨ww_ml_X8_156, ww_ini_RX8, ww_code_yX8_emptiesOwner, by decide +kernel⟩, ww_instanceMethod_yX8_emptiesOwner, ww_sel_yX8_emptiesOwner⟩
theorem csV_X8_159 : csV RX8 159 yX8_leavesAll cX8_leavesAll 2 (some .int) 1 := ⟨⟨ww_ml_X8_159, ww_ini_RX8, ww_code_yX8_leavesAll, by decide +kernel⟩, ww_instanceMethod_yX8_leavesAll, ww_sel_yX8_leavesAll⟩
theorem csV_X8_162 : csV RX8 162 yX8_waitsForNow cX8_waitsForNow 3 (some .int) 1 := ⟨⟨ww_ml_X8_162, ww_ini_RX8, ww_code_yX8_waitsForNow, by decide +kernel⟩, ww_instanceMethod_yX8_waitsForNow, ww_sel_yX8_waitsForNow⟩
theorem csV_X8_165 : csV RX8 165 yX8_comesTo cX8_comesTo 5 (some .int) 1 := ⟨⟨ww_ml_X8_165, ww_ini_RX8, ww_code_yX8_comesTo, by decide +kernel⟩, ww_instanceMethod_yX8_comesTo, ww_sel_yX8_comesTo⟩
theorem csV_X8_168 : csV RX8 168 yX8_countsOf cX8_countsOf 4 (some .int) 1 := ⟨⟨ww_ml_X8_168, ww_ini_RX8, ww_code_yX8_countsOf, by decide +kernel⟩, ww_instanceMethod_yX8_countsOf, ww_sel_yX8_countsOf⟩
theorem csV_X8_171 : csV RX8 171 yX8_ringNow cX8_ringNow 3 (some .int) 0 := ⟨⟨ww_ml_X8_171, ww_ini_RX8, ww_code_yX8_ringNow, by decide +kernel⟩, ww_instanceMethod_yX8_ringNow, ww_sel_yX8_ringNow⟩
theorem csV_X8_174 : csV RX8 174 yX8_leastOf cX8_leastOf 4 (some .int) 1 := ⟨⟨ww_ml_X8_174, ww_ini_RX8, ww_code_yX8_leastOf, by decide +kernel⟩, ww_instanceMethod_yX8_leastOf, ww_sel_yX8_leastOf⟩
theorem csV_X8_177 : csV RX8 177 yX8_allCounts cX8_allCounts 3 (some .int) 0 := ⟨⟨ww_ml_X8_177, ww_ini_RX8, ww_code_yX8_allCounts, by decide +kernel⟩, ww_instanceMethod_yX8_allCounts, ww_sel_yX8_allCounts⟩
theorem csV_X8_186 : csV RX8 186 yX8_laysAside cX8_laysAside 1 none 0 := ⟨⟨ww_ml_X8_186, ww_ini_RX8, ww_code_yX8_laysAside, by decide +kernel⟩, ww_instanceMethod_yX8_laysAside, ww_sel_yX8_laysAside⟩
theorem csV_X8_189 : csV RX8 189 yX8_laysBack cX8_laysBack 1 none 0 := ⟨⟨ww_ml_X8_189, ww_ini_RX8, ww_code_yX8_laysBack, by decide +kernel⟩, ww_instanceMethod_yX8_laysBack, ww_sel_yX8_laysBack⟩
theorem csS_X8_192 : csS RX8 192 yX8_bits cX8_bits 3 (some .int) 1 := ⟨⟨ww_ml_X8_192, ww_ini_RX8, ww_code_yX8_bits, by decide +kernel⟩, ww_static_yX8_bits⟩
theorem csV_X8_195 : csV RX8 195 yX8_couldBe cX8_couldBe 6 (some .boolean) 4 := ⟨⟨ww_ml_X8_195, ww_ini_RX8, ww_code_yX8_couldBe, by decide +kernel⟩, ww_instanceMethod_yX8_couldBe, ww_sel_yX8_couldBe⟩
theorem csV_X8_199 : csV RX8 199 yX8_rowFrom cX8_rowFrom 4 (some .int) 2 := ⟨⟨ww_ml_X8_199, ww_ini_RX8, ww_code_yX8_rowFrom, by decide +kernel⟩, ww_instanceMethod_yX8_rowFrom, ww_sel_yX8_rowFrom⟩
theorem csV_X8_206 : csV RX8 206 yX8_ask cX8_ask 5 (some .int) 3 := ⟨⟨ww_ml_X8_206, ww_ini_RX8, ww_code_yX8_ask, by decide +kernel⟩, ww_instanceMethod_yX8_ask, ww_sel_yX8_ask⟩
theorem csV_X8_212 : csV RX8 212 yX8_goesOn cX8_goesOn 3 none 1 := ⟨⟨ww_ml_X8_212, ww_ini_RX8, ww_code_yX8_goesOn, by decide +kernel⟩, ww_instanceMethod_yX8_goesOn, ww_sel_yX8_goesOn⟩
theorem csV_X8_218 : csV RX8 218 yX8_round cX8_round 2 none 0 := ⟨⟨ww_ml_X8_218, ww_ini_RX8, ww_code_yX8_round, by decide +kernel⟩, ww_instanceMethod_yX8_round, ww_sel_yX8_round⟩
theorem csV_X8_227 : csV RX8 227 yX8_draw cX8_draw 2 (some .int) 1 := ⟨⟨ww_ml_X8_227, ww_ini_RX8, ww_code_yX8_draw, by decide +kernel⟩, ww_instanceMethod_yX8_draw, ww_sel_yX8_draw⟩
theorem csS_X8_230 : csS RX8 230 yX8_modeOf cX8_modeOf 1 (some .int) 1 := ⟨⟨ww_ml_X8_230, ww_ini_RX8, ww_code_yX8_modeOf, by decide +kernel⟩, ww_static_yX8_modeOf⟩
theorem csV_X8_242 : csV RX8 242 yX8_goesInto cX8_goesInto 2 none 1 := ⟨⟨ww_ml_X8_242, ww_ini_RX8, ww_code_yX8_goesInto, by decide +kernel⟩, ww_instanceMethod_yX8_goesInto, ww_sel_yX8_goesInto⟩
theorem csV_X8_245 : csV RX8 245 yX8_weighsFrom cX8_weighsFrom 5 (some .int) 2 := ⟨⟨ww_ml_X8_245, ww_ini_RX8, ww_code_yX8_weighsFrom, by decide +kernel⟩, ww_instanceMethod_yX8_weighsFrom, ww_sel_yX8_weighsFrom⟩
theorem csV_X8_248 : csV RX8 248 yX8_isBare cX8_isBare 2 (some .boolean) 1 := ⟨⟨ww_ml_X8_248, ww_ini_RX8, ww_code_yX8_isBare, by decide +kernel⟩, ww_instanceMethod_yX8_isBare, ww_sel_yX8_isBare⟩
theorem csV_X8_257 : csV RX8 257 yX8_here cX8_here 1 (some .int) 0 := ⟨⟨ww_ml_X8_257, ww_ini_RX8, ww_code_yX8_here, by decide +kernel⟩, ww_instanceMethod_yX8_here, ww_sel_yX8_here⟩
theorem csS_X8_260 : csS RX8 260 yX8_isFigure cX8_isFigure 1 (some .boolean) 1 := ⟨⟨ww_ml_X8_260, ww_ini_RX8, ww_code_yX8_isFigure, by decide +kernel⟩, ww_static_yX8_isFigure⟩
theorem csV_X8_275 : csV RX8 275 yX8_number cX8_number 2 none 0 := ⟨⟨ww_ml_X8_275, ww_ini_RX8, ww_code_yX8_number, by decide +kernel⟩, ww_instanceMethod_yX8_number, ww_sel_yX8_number⟩
theorem csV_X8_278 : csV RX8 278 yX8_asking cX8_asking 1 none 0 := ⟨⟨ww_ml_X8_278, ww_ini_RX8, ww_code_yX8_asking, by decide +kernel⟩, ww_instanceMethod_yX8_asking, ww_sel_yX8_asking⟩
theorem csV_X8_281 : csV RX8 281 yX8_thing cX8_thing 6 (some .int) 2 := ⟨⟨ww_ml_X8_281, ww_ini_RX8, ww_code_yX8_thing, by decide +kernel⟩, ww_instanceMethod_yX8_thing, ww_sel_yX8_thing⟩
theorem csV_X8_284 : csV RX8 284 yX8_modeTold cX8_modeTold 1 (some .int) 0 := ⟨⟨ww_ml_X8_284, ww_ini_RX8, ww_code_yX8_modeTold, by decide +kernel⟩, ww_instanceMethod_yX8_modeTold, ww_sel_yX8_modeTold⟩
theorem csV_X8_287 : csV RX8 287 yX8_give cX8_give 4 (some .int) 3 := ⟨⟨ww_ml_X8_287, ww_ini_RX8, ww_code_yX8_give, by decide +kernel⟩, ww_instanceMethod_yX8_give, ww_sel_yX8_give⟩
theorem csV_X8_290 : csV RX8 290 yX8_statement cX8_statement 1 none 0 := ⟨⟨ww_ml_X8_290, ww_ini_RX8, ww_code_yX8_statement, by decide +kernel⟩, ww_instanceMethod_yX8_statement, ww_sel_yX8_statement⟩
theorem csV_X8_293 : csV RX8 293 yX8_does cX8_does 1 (some .int) 0 := ⟨⟨ww_ml_X8_293, ww_ini_RX8, ww_code_yX8_does, by decide +kernel⟩, ww_instanceMethod_yX8_does, ww_sel_yX8_does⟩
theorem csV_X8_296 : csV RX8 296 yX8_goesThrough cX8_goesThrough 4 (some .int) 1 := ⟨⟨ww_ml_X8_296, ww_ini_RX8, ww_code_yX8_goesThrough, by decide +kernel⟩, ww_instanceMethod_yX8_goesThrough, ww_sel_yX8_goesThrough⟩
theorem csV_X8_303 : csV RX8 303 yX8_writes cX8_writes 2 none 1 := ⟨⟨ww_ml_X8_303, ww_ini_RX8, ww_code_yX8_writes, by decide +kernel⟩, ww_instanceMethod_yX8_writes, ww_sel_yX8_writes⟩
theorem csV_X8_300 : csV RX8 300 yX8_writesNumber cX8_writesNumber 2 none 1 := ⟨⟨ww_ml_X8_300, ww_ini_RX8, ww_code_yX8_writesNumber, by decide +kernel⟩, ww_instanceMethod_yX8_writesNumber, ww_sel_yX8_writesNumber⟩
theorem csS_X8_306 : csS RX8 306 yX8_letterOf cX8_letterOf 1 (some .int) 1 := ⟨⟨ww_ml_X8_306, ww_ini_RX8, ww_code_yX8_letterOf, by decide +kernel⟩, ww_static_yX8_letterOf⟩
theorem csV_X8_309 : csV RX8 309 yX8_writesHold cX8_writesHold 5 none 4 := ⟨⟨ww_ml_X8_309, ww_ini_RX8, ww_code_yX8_writesHold, by decide +kernel⟩, ww_instanceMethod_yX8_writesHold, ww_sel_yX8_writesHold⟩
theorem csS_X8_312 : csS RX8 312 yX8_isList cX8_isList 1 (some .boolean) 1 := ⟨⟨ww_ml_X8_312, ww_ini_RX8, ww_code_yX8_isList, by decide +kernel⟩, ww_static_yX8_isList⟩
theorem csV_L_13 : csV RL 13 yX7_thing cX7_thing 3 (some .int) 2 := ⟨⟨ww_ml_L_13, ww_ini_RX7, ww_code_yX7_thing, by decide +kernel⟩, ww_instanceMethod_yX7_thing, ww_sel_yX7_thing⟩
theorem csV_L_17 : csV RL 17 yX8_thing cX8_thing 6 (some .int) 2 := ⟨⟨ww_ml_L_17, ww_ini_RX8, ww_code_yX8_thing, by decide +kernel⟩, ww_instanceMethod_yX8_thing, ww_sel_yX8_thing⟩
theorem csV_L_18 : csV RL 18 yX7_thingOf cX7_thingOf 3 (some .int) 2 := ⟨⟨ww_ml_L_18, ww_ini_RX7, ww_code_yX7_thingOf, by decide +kernel⟩, ww_instanceMethod_yX7_thingOf, ww_sel_yX7_thingOf⟩
theorem csV_L_21 : csV RL 21 yX8_thingOf cX8_thingOf 3 (some .int) 2 := ⟨⟨ww_ml_L_21, ww_ini_RX8, ww_code_yX8_thingOf, by decide +kernel⟩, ww_instanceMethod_yX8_thingOf, ww_sel_yX8_thingOf⟩
theorem csV_L_22 : csV RL 22 yX7_ask cX7_ask 4 (some .int) 3 := ⟨⟨ww_ml_L_22, ww_ini_RX7, ww_code_yX7_ask, by decide +kernel⟩, ww_instanceMethod_yX7_ask, ww_sel_yX7_ask⟩
theorem csV_L_26 : csV RL 26 yX8_ask cX8_ask 5 (some .int) 3 := ⟨⟨ww_ml_L_26, ww_ini_RX8, ww_code_yX8_ask, by decide +kernel⟩, ww_instanceMethod_yX8_ask, ww_sel_yX8_ask⟩
theorem csV_L_27 : csV RL 27 yX7_give cX7_give 4 (some .int) 3 := ⟨⟨ww_ml_L_27, ww_ini_RX7, ww_code_yX7_give, by decide +kernel⟩, ww_instanceMethod_yX7_give, ww_sel_yX7_give⟩
theorem csV_L_30 : csV RL 30 yX8_give cX8_give 4 (some .int) 3 := ⟨⟨ww_ml_L_30, ww_ini_RX8, ww_code_yX8_give, by decide +kernel⟩, ww_instanceMethod_yX8_give, ww_sel_yX8_give⟩
theorem csV_L_31 : csV RL 31 yX7_leaves cX7_leaves 2 (some .int) 1 := ⟨⟨ww_ml_L_31, ww_ini_RX7, ww_code_yX7_leaves, by decide +kernel⟩, ww_instanceMethod_yX7_leaves, ww_sel_yX7_leaves⟩
theorem csV_L_35 : csV RL 35 yX8_leaves cX8_leaves 2 (some .int) 1 := ⟨⟨ww_ml_L_35, ww_ini_RX8, ww_code_yX8_leaves, by decide +kernel⟩, ww_instanceMethod_yX8_leaves, ww_sel_yX8_leaves⟩
theorem csV_L_36 : csV RL 36 yX7_forgets cX7_forgets 2 (some .int) 1 := ⟨⟨ww_ml_L_36, ww_ini_RX7, ww_code_yX7_forgets, by decide +kernel⟩, ww_instanceMethod_yX7_forgets, ww_sel_yX7_forgets⟩
theorem csV_L_39 : csV RL 39 yX8_forgets cX8_forgets 2 (some .int) 1 := ⟨⟨ww_ml_L_39, ww_ini_RX8, ww_code_yX8_forgets, by decide +kernel⟩, ww_instanceMethod_yX8_forgets, ww_sel_yX8_forgets⟩
theorem csV_L_40 : csV RL 40 yX7_breaks cX7_breaks 2 (some .int) 0 := ⟨⟨ww_ml_L_40, ww_ini_RX7, ww_code_yX7_breaks, by decide +kernel⟩, ww_instanceMethod_yX7_breaks, ww_sel_yX7_breaks⟩
theorem csV_L_44 : csV RL 44 yX8_breaks cX8_breaks 2 (some .int) 0 := ⟨⟨ww_ml_L_44, ww_ini_RX8, ww_code_yX8_breaks, by decide +kernel⟩, ww_instanceMethod_yX8_breaks, ww_sel_yX8_breaks⟩
theorem csV_L_45 : csV RL 45 yX7_held cX7_held 4 (some .int) 3 := ⟨⟨ww_ml_L_45, ww_ini_RX7, ww_code_yX7_held, by decide +kernel⟩, ww_instanceMethod_yX7_held, ww_sel_yX7_held⟩
theorem csV_L_48 : csV RL 48 yX8_held cX8_held 4 (some .int) 3 := ⟨⟨ww_ml_L_48, ww_ini_RX8, ww_code_yX8_held, by decide +kernel⟩, ww_instanceMethod_yX8_held, ww_sel_yX8_held⟩
theorem csV_L_49 : csV RL 49 yX7_holders cX7_holders 3 (some .int) 2 := ⟨⟨ww_ml_L_49, ww_ini_RX7, ww_code_yX7_holders, by decide +kernel⟩, ww_instanceMethod_yX7_holders, ww_sel_yX7_holders⟩
theorem csV_L_52 : csV RL 52 yX8_holders cX8_holders 6 (some .int) 2 := ⟨⟨ww_ml_L_52, ww_ini_RX8, ww_code_yX8_holders, by decide +kernel⟩, ww_instanceMethod_yX8_holders, ww_sel_yX8_holders⟩
theorem csV_L_53 : csV RL 53 yX7_waits cX7_waits 3 (some .int) 1 := ⟨⟨ww_ml_L_53, ww_ini_RX7, ww_code_yX7_waits, by decide +kernel⟩, ww_instanceMethod_yX7_waits, ww_sel_yX7_waits⟩
theorem csV_L_56 : csV RL 56 yX8_waits cX8_waits 4 (some .int) 1 := ⟨⟨ww_ml_L_56, ww_ini_RX8, ww_code_yX8_waits, by decide +kernel⟩, ww_instanceMethod_yX8_waits, ww_sel_yX8_waits⟩
theorem csV_L_57 : csV RL 57 yX7_line cX7_line 2 (some .int) 1 := ⟨⟨ww_ml_L_57, ww_ini_RX7, ww_code_yX7_line, by decide +kernel⟩, ww_instanceMethod_yX7_line, ww_sel_yX7_line⟩
theorem csV_L_60 : csV RL 60 yX8_line cX8_line 2 (some .int) 1 := ⟨⟨ww_ml_L_60, ww_ini_RX8, ww_code_yX8_line, by decide +kernel⟩, ww_instanceMethod_yX8_line, ww_sel_yX8_line⟩
theorem csV_L_61 : csV RL 61 yX7_waitsFor cX7_waitsFor 2 (some .int) 1 := ⟨⟨ww_ml_L_61, ww_ini_RX7, ww_code_yX7_waitsFor, by decide +kernel⟩, ww_instanceMethod_yX7_waitsFor, ww_sel_yX7_waitsFor⟩
theorem csV_L_64 : csV RL 64 yX8_waitsFor cX8_waitsFor 2 (some .int) 1 := ⟨⟨ww_ml_L_64, ww_ini_RX8, ww_code_yX8_waitsFor, by decide +kernel⟩, ww_instanceMethod_yX8_waitsFor, ww_sel_yX8_waitsFor⟩
theorem csV_L_65 : csV RL 65 yX7_ring cX7_ring 4 (some .int) 1 := ⟨⟨ww_ml_L_65, ww_ini_RX7, ww_code_yX7_ring, by decide +kernel⟩, ww_instanceMethod_yX7_ring, ww_sel_yX7_ring⟩
theorem csV_L_68 : csV RL 68 yX8_ring cX8_ring 4 (some .int) 1 := ⟨⟨ww_ml_L_68, ww_ini_RX8, ww_code_yX8_ring, by decide +kernel⟩, ww_instanceMethod_yX8_ring, ww_sel_yX8_ring⟩
theorem csV_L_69 : csV RL 69 yX7_count cX7_count 2 (some .int) 1 := ⟨⟨ww_ml_L_69, ww_ini_RX7, ww_code_yX7_count, by decide +kernel⟩, ww_instanceMethod_yX7_count, ww_sel_yX7_count⟩
theorem csV_L_72 : csV RL 72 yX8_count cX8_count 2 (some .int) 1 := ⟨⟨ww_ml_L_72, ww_ini_RX8, ww_code_yX8_count, by decide +kernel⟩, ww_instanceMethod_yX8_count, ww_sel_yX8_count⟩
theorem csV_L_73 : csV RL 73 yX7_would cX7_would 4 (some .int) 3 := ⟨⟨ww_ml_L_73, ww_ini_RX7, ww_code_yX7_would, by decide +kernel⟩, ww_instanceMethod_yX7_would, ww_sel_yX7_would⟩
theorem csV_L_76 : csV RL 76 yX8_would cX8_would 6 (some .int) 3 := ⟨⟨ww_ml_L_76, ww_ini_RX8, ww_code_yX8_would, by decide +kernel⟩, ww_instanceMethod_yX8_would, ww_sel_yX8_would⟩
theorem csV_L_77 : csV RL 77 yX7_needs cX7_needs 4 (some .int) 3 := ⟨⟨ww_ml_L_77, ww_ini_RX7, ww_code_yX7_needs, by decide +kernel⟩, ww_instanceMethod_yX7_needs, ww_sel_yX7_needs⟩
theorem csV_L_80 : csV RL 80 yX8_needs cX8_needs 6 (some .int) 3 := ⟨⟨ww_ml_L_80, ww_ini_RX8, ww_code_yX8_needs, by decide +kernel⟩, ww_instanceMethod_yX8_needs, ww_sel_yX8_needs⟩
theorem csV_L_81 : csV RL 81 yX7_strongest cX7_strongest 4 (some .int) 2 := ⟨⟨ww_ml_L_81, ww_ini_RX7, ww_code_yX7_strongest, by decide +kernel⟩, ww_instanceMethod_yX7_strongest, ww_sel_yX7_strongest⟩
theorem csV_L_84 : csV RL 84 yX8_strongest cX8_strongest 4 (some .int) 2 := ⟨⟨ww_ml_L_84, ww_ini_RX8, ww_code_yX8_strongest, by decide +kernel⟩, ww_instanceMethod_yX8_strongest, ww_sel_yX8_strongest⟩
theorem csV_L_85 : csV RL 85 yX7_plan cX7_plan 4 (some .int) 3 := ⟨⟨ww_ml_L_85, ww_ini_RX7, ww_code_yX7_plan, by decide +kernel⟩, ww_instanceMethod_yX7_plan, ww_sel_yX7_plan⟩
theorem csV_L_88 : csV RL 88 yX8_plan cX8_plan 5 (some .int) 3 := ⟨⟨ww_ml_L_88, ww_ini_RX8, ww_code_yX8_plan, by decide +kernel⟩, ww_instanceMethod_yX8_plan, ww_sel_yX8_plan⟩
theorem csV_L_89 : csV RL 89 yX7_plays cX7_plays 3 (some .int) 1 := ⟨⟨ww_ml_L_89, ww_ini_RX7, ww_code_yX7_plays, by decide +kernel⟩, ww_instanceMethod_yX7_plays, ww_sel_yX7_plays⟩
theorem csV_L_92 : csV RL 92 yX8_plays cX8_plays 4 (some .int) 1 := ⟨⟨ww_ml_L_92, ww_ini_RX8, ww_code_yX8_plays, by decide +kernel⟩, ww_instanceMethod_yX8_plays, ww_sel_yX8_plays⟩
theorem csV_L_93 : csV RL 93 yX7_lots cX7_lots 6 (some .int) 3 := ⟨⟨ww_ml_L_93, ww_ini_RX7, ww_code_yX7_lots, by decide +kernel⟩, ww_instanceMethod_yX7_lots, ww_sel_yX7_lots⟩
theorem csV_L_96 : csV RL 96 yX8_lots cX8_lots 9 (some .int) 3 := ⟨⟨ww_ml_L_96, ww_ini_RX8, ww_code_yX8_lots, by decide +kernel⟩, ww_instanceMethod_yX8_lots, ww_sel_yX8_lots⟩
theorem csV_L_97 : csV RL 97 yX7_weighs cX7_weighs 4 (some .int) 1 := ⟨⟨ww_ml_L_97, ww_ini_RX7, ww_code_yX7_weighs, by decide +kernel⟩, ww_instanceMethod_yX7_weighs, ww_sel_yX7_weighs⟩
theorem csV_L_100 : csV RL 100 yX8_weighs cX8_weighs 3 (some .int) 1 := ⟨⟨ww_ml_L_100, ww_ini_RX8, ww_code_yX8_weighs, by decide +kernel⟩, ww_instanceMethod_yX8_weighs, ww_sel_yX8_weighs⟩
theorem csV_L_101 : csV RL 101 yX7_plunges cX7_plunges 7 (some .int) 3 := ⟨⟨ww_ml_L_101, ww_ini_RX7, ww_code_yX7_plunges, by decide +kernel⟩, ww_instanceMethod_yX7_plunges, ww_sel_yX7_plunges⟩
theorem csV_L_104 : csV RL 104 yX8_plunges cX8_plunges 6 (some .int) 3 := ⟨⟨ww_ml_L_104, ww_ini_RX8, ww_code_yX8_plunges, by decide +kernel⟩, ww_instanceMethod_yX8_plunges, ww_sel_yX8_plunges⟩
theorem csV_L_105 : csV RL 105 yX7_bell cX7_bell 4 (some .int) 2 := ⟨⟨ww_ml_L_105, ww_ini_RX7, ww_code_yX7_bell, by decide +kernel⟩, ww_instanceMethod_yX7_bell, ww_sel_yX7_bell⟩
theorem csV_L_108 : csV RL 108 yX8_bell cX8_bell 3 (some .int) 2 := ⟨⟨ww_ml_L_108, ww_ini_RX8, ww_code_yX8_bell, by decide +kernel⟩, ww_instanceMethod_yX8_bell, ww_sel_yX8_bell⟩
theorem csV_L_109 : csV RL 109 yX7_gate cX7_gate 4 (some .int) 2 := ⟨⟨ww_ml_L_109, ww_ini_RX7, ww_code_yX7_gate, by decide +kernel⟩, ww_instanceMethod_yX7_gate, ww_sel_yX7_gate⟩
theorem csV_L_112 : csV RL 112 yX8_gate cX8_gate 3 (some .int) 2 := ⟨⟨ww_ml_L_112, ww_ini_RX8, ww_code_yX8_gate, by decide +kernel⟩, ww_instanceMethod_yX8_gate, ww_sel_yX8_gate⟩
theorem csV_L_113 : csV RL 113 yX7_feed cX7_feed 2 (some .int) 1 := ⟨⟨ww_ml_L_113, ww_ini_RX7, ww_code_yX7_feed, by decide +kernel⟩, ww_instanceMethod_yX7_feed, ww_sel_yX7_feed⟩
theorem csV_L_116 : csV RL 116 yX8_feed cX8_feed 2 (some .int) 1 := ⟨⟨ww_ml_L_116, ww_ini_RX8, ww_code_yX8_feed, by decide +kernel⟩, ww_instanceMethod_yX8_feed, ww_sel_yX8_feed⟩
theorem csV_L_117 : csV RL 117 yX7_reads cX7_reads 3 (some .int) 0 := ⟨⟨ww_ml_L_117, ww_ini_RX7, ww_code_yX7_reads, by decide +kernel⟩, ww_instanceMethod_yX7_reads, ww_sel_yX7_reads⟩
theorem csV_L_120 : csV RL 120 yX8_reads cX8_reads 3 (some .int) 0 := ⟨⟨ww_ml_L_120, ww_ini_RX8, ww_code_yX8_reads, by decide +kernel⟩, ww_instanceMethod_yX8_reads, ww_sel_yX8_reads⟩
theorem csV_L_121 : csV RL 121 yX7_spells cX7_spells 4 (some .int) 0 := ⟨⟨ww_ml_L_121, ww_ini_RX7, ww_code_yX7_spells, by decide +kernel⟩, ww_instanceMethod_yX7_spells, ww_sel_yX7_spells⟩
theorem csV_L_124 : csV RL 124 yX8_spells cX8_spells 5 (some .int) 0 := ⟨⟨ww_ml_L_124, ww_ini_RX8, ww_code_yX8_spells, by decide +kernel⟩, ww_instanceMethod_yX8_spells, ww_sel_yX8_spells⟩
theorem csV_L_125 : csV RL 125 yX7_paper cX7_paper 2 (some .int) 1 := ⟨⟨ww_ml_L_125, ww_ini_RX7, ww_code_yX7_paper, by decide +kernel⟩, ww_instanceMethod_yX7_paper, ww_sel_yX7_paper⟩
theorem csV_L_128 : csV RL 128 yX8_paper cX8_paper 2 (some .int) 1 := ⟨⟨ww_ml_L_128, ww_ini_RX8, ww_code_yX8_paper, by decide +kernel⟩, ww_instanceMethod_yX8_paper, ww_sel_yX8_paper⟩
theorem csV_L_129 : csV RL 129 yX7_list cX7_list 3 (some .int) 2 := ⟨⟨ww_ml_L_129, ww_ini_RX7, ww_code_yX7_list, by decide +kernel⟩, ww_instanceMethod_yX7_list, ww_sel_yX7_list⟩
theorem csV_L_132 : csV RL 132 yX8_list cX8_list 4 (some .int) 2 := ⟨⟨ww_ml_L_132, ww_ini_RX8, ww_code_yX8_list, by decide +kernel⟩, ww_instanceMethod_yX8_list, ww_sel_yX8_list⟩
theorem csV_L_133 : csV RL 133 yX7_set cX7_set 4 (some .int) 3 := ⟨⟨ww_ml_L_133, ww_ini_RX7, ww_code_yX7_set, by decide +kernel⟩, ww_instanceMethod_yX7_set, ww_sel_yX7_set⟩
theorem csV_L_136 : csV RL 136 yX8_set cX8_set 4 (some .int) 3 := ⟨⟨ww_ml_L_136, ww_ini_RX8, ww_code_yX8_set, by decide +kernel⟩, ww_instanceMethod_yX8_set, ww_sel_yX8_set⟩
theorem csV_L_137 : csV RL 137 yX7_get cX7_get 3 (some .long) 2 := ⟨⟨ww_ml_L_137, ww_ini_RX7, ww_code_yX7_get, by decide +kernel⟩, ww_instanceMethod_yX7_get, ww_sel_yX7_get⟩
theorem csV_L_141 : csV RL 141 yX8_get cX8_get 3 (some .long) 2 := ⟨⟨ww_ml_L_141, ww_ini_RX8, ww_code_yX8_get, by decide +kernel⟩, ww_instanceMethod_yX8_get, ww_sel_yX8_get⟩
theorem csV_L_142 : csV RL 142 yX7_does cX7_does 6 (some .int) 2 := ⟨⟨ww_ml_L_142, ww_ini_RX7, ww_code_yX7_does, by decide +kernel⟩, ww_instanceMethod_yX7_does, ww_sel_yX7_does⟩
theorem csV_L_145 : csV RL 145 yX8_does_ cX8_does_ 6 (some .int) 2 := ⟨⟨ww_ml_L_145, ww_ini_RX8, ww_code_yX8_does_, by decide +kernel⟩, ww_instanceMethod_yX8_does_, ww_sel_yX8_does_⟩
theorem csV_L_146 : csV RL 146 yX7_into cX7_into 6 (some .int) 3 := ⟨⟨ww_ml_L_146, ww_ini_RX7, ww_code_yX7_into, by decide +kernel⟩, ww_instanceMethod_yX7_into, ww_sel_yX7_into⟩
theorem csV_L_149 : csV RL 149 yX8_into cX8_into 5 (some .int) 3 := ⟨⟨ww_ml_L_149, ww_ini_RX8, ww_code_yX8_into, by decide +kernel⟩, ww_instanceMethod_yX8_into, ww_sel_yX8_into⟩
theorem csV_L_150 : csV RL 150 yX7_image cX7_image 1 (some .int) 0 := ⟨⟨ww_ml_L_150, ww_ini_RX7, ww_code_yX7_image, by decide +kernel⟩, ww_instanceMethod_yX7_image, ww_sel_yX7_image⟩
theorem csV_L_153 : csV RL 153 yX8_image cX8_image 1 (some .int) 0 := ⟨⟨ww_ml_L_153, ww_ini_RX8, ww_code_yX8_image, by decide +kernel⟩, ww_instanceMethod_yX8_image, ww_sel_yX8_image⟩
theorem csV_L_154 : csV RL 154 yX7_back cX7_back 1 (some .int) 0 := ⟨⟨ww_ml_L_154, ww_ini_RX7, ww_code_yX7_back, by decide +kernel⟩, ww_instanceMethod_yX7_back, ww_sel_yX7_back⟩
theorem csV_L_157 : csV RL 157 yX8_back cX8_back 1 (some .int) 0 := ⟨⟨ww_ml_L_157, ww_ini_RX8, ww_code_yX8_back, by decide +kernel⟩, ww_instanceMethod_yX8_back, ww_sel_yX8_back⟩
theorem k_ic_1 : Int32.ofInt 1 = (nI 1) := by decide
theorem k_bi_12 : (Int8.ofInt 12).toInt32 = (nI 12) := by decide
theorem k_ic_0 : Int32.ofInt 0 = (nI 0) := by decide
theorem k_ic_3 : Int32.ofInt 3 = (nI 3) := by decide
theorem k_bi_36 : (Int8.ofInt 36).toInt32 = (nI 36) := by decide
theorem k_si_12345 : (Int16.ofInt 12345).toInt32 = (nI 12345) := by decide
theorem k_si_3960 : (Int16.ofInt 3960).toInt32 = (nI 3960) := by decide
theorem k_bi_108 : (Int8.ofInt 108).toInt32 = (nI 108) := by decide
theorem k_bi_115 : (Int8.ofInt 115).toInt32 = (nI 115) := by decide
theorem k_bi_109 : (Int8.ofInt 109).toInt32 = (nI 109) := by decide
theorem k_bi_117 : (Int8.ofInt 117).toInt32 = (nI 117) := by decide
theorem k_bi_111 : (Int8.ofInt 111).toInt32 = (nI 111) := by decide
theorem k_bi_10 : (Int8.ofInt 10).toInt32 = (nI 10) := by decide
theorem k_bi_48 : (Int8.ofInt 48).toInt32 = (nI 48) := by decide
theorem k_bi_32 : (Int8.ofInt 32).toInt32 = (nI 32) := by decide
theorem k_bi_58 : (Int8.ofInt 58).toInt32 = (nI 58) := by decide
theorem k_bi_120 : (Int8.ofInt 120).toInt32 = (nI 120) := by decide
theorem k_bi_6 : (Int8.ofInt 6).toInt32 = (nI 6) := by decide
theorem k_ic_5 : Int32.ofInt 5 = (nI 5) := by decide
theorem k_ic_m1 : Int32.ofInt (-1) = (-1 : Int32) := by decide
theorem k_ic_2 : Int32.ofInt 2 = (nI 2) := by decide
theorem k_ic_4 : Int32.ofInt 4 = (nI 4) := by decide
theorem k_bi_m2 : (Int8.ofInt (-2)).toInt32 = (-2 : Int32) := by decide
theorem k_bi_m5 : (Int8.ofInt (-5)).toInt32 = (-5 : Int32) := by decide
theorem k_si_360 : (Int16.ofInt 360).toInt32 = (nI 360) := by decide
theorem k_bi_60 : (Int8.ofInt 60).toInt32 = (nI 60) := by decide
theorem k_bi_m3 : (Int8.ofInt (-3)).toInt32 = (-3 : Int32) := by decide
theorem k_bi_30 : (Int8.ofInt 30).toInt32 = (nI 30) := by decide
theorem k_bi_57 : (Int8.ofInt 57).toInt32 = (nI 57) := by decide
theorem k_bi_103 : (Int8.ofInt 103).toInt32 = (nI 103) := by decide
theorem k_bi_43 : (Int8.ofInt 43).toInt32 = (nI 43) := by decide
theorem k_bi_45 : (Int8.ofInt 45).toInt32 = (nI 45) := by decide
theorem k_bi_61 : (Int8.ofInt 61).toInt32 = (nI 61) := by decide
theorem k_si_m1000 : (Int16.ofInt (-1000)).toInt32 = (-1000 : Int32) := by decide
theorem k_bi_59 : (Int8.ofInt 59).toInt32 = (nI 59) := by decide
theorem k_bi_100 : (Int8.ofInt 100).toInt32 = (nI 100) := by decide
theorem k_bi_41 : (Int8.ofInt 41).toInt32 = (nI 41) := by decide
theorem k_bi_40 : (Int8.ofInt 40).toInt32 = (nI 40) := by decide
theorem k_bi_m11 : (Int8.ofInt (-11)).toInt32 = (-11 : Int32) := by decide
theorem k_bi_m12 : (Int8.ofInt (-12)).toInt32 = (-12 : Int32) := by decide
theorem k_bi_127 : (Int8.ofInt 127).toInt32 = (nI 127) := by decide
theorem k_si_m2000 : (Int16.ofInt (-2000)).toInt32 = (-2000 : Int32) := by decide
theorem k_bi_m14 : (Int8.ofInt (-14)).toInt32 = (-14 : Int32) := by decide
theorem k_bi_m13 : (Int8.ofInt (-13)).toInt32 = (-13 : Int32) := by decide
theorem k_si_441 : (Int16.ofInt 441).toInt32 = (nI 441) := by decide
theorem k_bi_81 : (Int8.ofInt 81).toInt32 = (nI 81) := by decide
theorem k_bi_22 : (Int8.ofInt 22).toInt32 = (nI 22) := by decide
theorem k_bi_13 : (Int8.ofInt 13).toInt32 = (nI 13) := by decide
theorem k_bi_25 : (Int8.ofInt 25).toInt32 = (nI 25) := by decide
theorem k_bi_26 : (Int8.ofInt 26).toInt32 = (nI 26) := by decide
theorem k_bi_44 : (Int8.ofInt 44).toInt32 = (nI 44) := by decide
theorem k_bi_63 : (Int8.ofInt 63).toInt32 = (nI 63) := by decide
theorem k_bi_62 : (Int8.ofInt 62).toInt32 = (nI 62) := by decide
theorem k_bi_9 : (Int8.ofInt 9).toInt32 = (nI 9) := by decide
theorem sc_0 : sh_all[0]? = some (.inr (7, [some 1, some 13, some 25, none, some 37, some 39, some 40, some 44, some 51, some 53])) := rfl
theorem sc_1 : sh_all[1]? = some (.inr (5, sh_tblF 1)) := rfl
theorem sc_2 : sh_all[2]? = some (.inl (false, 12)) := rfl
theorem sc_3 : sh_all[3]? = some (.inl (false, 12)) := rfl
theorem sc_4 : sh_all[4]? = some (.inl (false, 360)) := rfl
theorem sc_5 : sh_all[5]? = some (.inl (false, 60)) := rfl
theorem sc_6 : sh_all[6]? = some (.inl (false, 6)) := rfl
theorem sc_7 : sh_all[7]? = some (.inl (false, 6)) := rfl
theorem sc_8 : sh_all[8]? = some (.inl (false, 6)) := rfl
theorem sc_9 : sh_all[9]? = some (.inl (false, 12)) := rfl
theorem sc_10 : sh_all[10]? = some (.inl (false, 12)) := rfl
theorem sc_11 : sh_all[11]? = some (.inl (false, 12)) := rfl
theorem sc_12 : sh_all[12]? = some (.inl (false, 6)) := rfl
theorem sc_13 : sh_all[13]? = some (.inr (5, sh_tblF 13)) := rfl
theorem sc_14 : sh_all[14]? = some (.inl (false, 12)) := rfl
theorem sc_15 : sh_all[15]? = some (.inl (false, 12)) := rfl
theorem sc_16 : sh_all[16]? = some (.inl (false, 360)) := rfl
theorem sc_17 : sh_all[17]? = some (.inl (false, 60)) := rfl
theorem sc_18 : sh_all[18]? = some (.inl (false, 6)) := rfl
theorem sc_19 : sh_all[19]? = some (.inl (false, 6)) := rfl
theorem sc_20 : sh_all[20]? = some (.inl (false, 6)) := rfl
theorem sc_21 : sh_all[21]? = some (.inl (false, 12)) := rfl
theorem sc_22 : sh_all[22]? = some (.inl (false, 12)) := rfl
theorem sc_23 : sh_all[23]? = some (.inl (false, 12)) := rfl
theorem sc_24 : sh_all[24]? = some (.inl (false, 6)) := rfl
theorem sc_25 : sh_all[25]? = some (.inr (5, sh_tblF 25)) := rfl
theorem sc_26 : sh_all[26]? = some (.inl (false, 12)) := rfl
theorem sc_27 : sh_all[27]? = some (.inl (false, 12)) := rfl
theorem sc_28 : sh_all[28]? = some (.inl (false, 360)) := rfl
theorem sc_29 : sh_all[29]? = some (.inl (false, 60)) := rfl
theorem sc_30 : sh_all[30]? = some (.inl (false, 6)) := rfl
theorem sc_31 : sh_all[31]? = some (.inl (false, 6)) := rfl
theorem sc_32 : sh_all[32]? = some (.inl (false, 6)) := rfl
theorem sc_33 : sh_all[33]? = some (.inl (false, 12)) := rfl
theorem sc_34 : sh_all[34]? = some (.inl (false, 12)) := rfl
theorem sc_35 : sh_all[35]? = some (.inl (false, 12)) := rfl
theorem sc_36 : sh_all[36]? = some (.inl (false, 6)) := rfl
theorem sc_37 : sh_all[37]? = some (.inr (4, [some 38, none, none, none])) := rfl
theorem sc_38 : sh_all[38]? = some (.inl (false, 6)) := rfl
theorem sc_39 : sh_all[39]? = some (.inr (2, [none])) := rfl
theorem sc_40 : sh_all[40]? = some (.inr (0, [some 41, some 42, some 43])) := rfl
theorem sc_41 : sh_all[41]? = some (.inl (false, 12)) := rfl
theorem sc_42 : sh_all[42]? = some (.inl (false, 12)) := rfl
theorem sc_43 : sh_all[43]? = some (.inl (false, 12)) := rfl
theorem sc_44 : sh_all[44]? = some (.inr (6, [none, some 45, none, some 46, some 47, some 48, some 49, some 50])) := rfl
theorem sc_45 : sh_all[45]? = some (.inl (true, 120)) := rfl
theorem sc_46 : sh_all[46]? = some (.inl (false, 61)) := rfl
theorem sc_47 : sh_all[47]? = some (.inl (false, 61)) := rfl
theorem sc_48 : sh_all[48]? = some (.inl (false, 61)) := rfl
theorem sc_49 : sh_all[49]? = some (.inl (false, 61)) := rfl
theorem sc_50 : sh_all[50]? = some (.inl (false, 61)) := rfl
theorem sc_51 : sh_all[51]? = some (.inr (3, [none, some 52])) := rfl
theorem sc_52 : sh_all[52]? = some (.inl (true, 3960)) := rfl
theorem sc_53 : sh_all[53]? = some (.inr (1, [some 54, some 55])) := rfl
theorem sc_54 : sh_all[54]? = some (.inl (false, 108)) := rfl
theorem sc_55 : sh_all[55]? = some (.inl (false, 3)) := rfl
theorem sc_56 : sh_all[56]? = some (.inr (8, [none, some 57, some 58, some 59, none, none, some 60, some 61, some 62, some 63, none, none, none, none, none, some 64, none, none, none, none, none, none, none, some 65, none, some 66, some 67, some 68, none])) := rfl
theorem sc_57 : sh_all[57]? = some (.inl (false, 441)) := rfl
theorem sc_58 : sh_all[58]? = some (.inl (false, 441)) := rfl
theorem sc_59 : sh_all[59]? = some (.inl (false, 441)) := rfl
theorem sc_60 : sh_all[60]? = some (.inl (false, 12)) := rfl
theorem sc_61 : sh_all[61]? = some (.inl (false, 12)) := rfl
theorem sc_62 : sh_all[62]? = some (.inl (false, 12)) := rfl
theorem sc_63 : sh_all[63]? = some (.inl (false, 6)) := rfl
theorem sc_64 : sh_all[64]? = some (.inl (false, 120)) := rfl
theorem sc_65 : sh_all[65]? = some (.inl (false, 6000)) := rfl
theorem sc_66 : sh_all[66]? = some (.inl (false, 3)) := rfl
theorem sc_67 : sh_all[67]? = some (.inl (false, 108)) := rfl
theorem sc_68 : sh_all[68]? = some (.inl (false, 441)) := rfl
theorem vc_0 : vwCl[0]? = some (RX0, TX0, 3) := rfl
theorem inG0 : ∀ w ∈ u_ws RX0 TX0 3, w ∈ lw_g := fun w hw => lw_gi (inX0 w hw) (by revert w; decide +kernel)
theorem vc_1 : vwCl[1]? = some (RX1, TX1, 2) := rfl
theorem inG1 : ∀ w ∈ u_ws RX1 TX1 2, w ∈ lw_g := fun w hw => lw_gi (inX1 w hw) (by revert w; decide +kernel)
theorem vc_2 : vwCl[2]? = some (RX2, TX2, 1) := rfl
theorem inG2 : ∀ w ∈ u_ws RX2 TX2 1, w ∈ lw_g := fun w hw => lw_gi (inX2 w hw) (by revert w; decide +kernel)
theorem vc_3 : vwCl[3]? = some (RX3, TX3, 2) := rfl
theorem inG3 : ∀ w ∈ u_ws RX3 TX3 2, w ∈ lw_g := fun w hw => lw_gi (inX3 w hw) (by revert w; decide +kernel)
theorem vc_4 : vwCl[4]? = some (RX4, TX4, 4) := rfl
theorem inG4 : ∀ w ∈ u_ws RX4 TX4 4, w ∈ lw_g := fun w hw => lw_gi (inX4 w hw) (by revert w; decide +kernel)
theorem vc_5 : vwCl[5]? = some (RX5, TX5, 15) := rfl
theorem inG5 : ∀ w ∈ u_ws RX5 TX5 15, w ∈ lw_g := fun w hw => lw_gi (inX5 w hw) (by revert w; decide +kernel)
theorem vc_6 : vwCl[6]? = some (RX6, TX6, 8) := rfl
theorem inG6 : ∀ w ∈ u_ws RX6 TX6 8, w ∈ lw_g := fun w hw => lw_gi (inX6 w hw) (by revert w; decide +kernel)
theorem vc_7 : vwCl[7]? = some (RX7, TX7, 10) := rfl
theorem inG7 : ∀ w ∈ u_ws RX7 TX7 10, w ∈ lw_g := fun w hw => lw_gi (inX7 w hw) (by revert w; decide +kernel)
theorem vc_8 : vwCl[8]? = some (RX8, TX8, 29) := rfl
theorem inG8 : ∀ w ∈ u_ws RX8 TX8 29, w ∈ lw_g := fun w hw => lw_gi (inX8 w hw) (by revert w; decide +kernel)
theorem tsw_out2 {x : Int32} {n : Nat} {hi : Int} (hn : n < 2 ^ 31) (h : ∀ j, j < n → ¬ x = nI j) (e : (n : Int) = hi + 1) : x.toInt < 0 ∨ hi < x.toInt := by
  have := tsw_out hn h
  omega
theorem rm_n {stk : List Value} {d n : Nat} (h : 1 ≤ d) (hn : (stk.map fun v => v.category).sum + n ≤ 40) : (stk.map fun v => v.category).sum + n ≤ (rmD d).locals := by
  show _ ≤ 40 * d
  omega
def tbS (L : Nat) (xs : Nat → Int32) : Nat → Nat × (Nat → Int32) := fun k => match k with | 3 => (L, xs) | k => tb0 k
theorem hpS {L : Nat} {xs : Nat → Int32} : 3 ≤ 4 ∧ ∀ k, k < 3 → tbS L xs k = tb0 k := ⟨by decide, fun k hk => by
  match k, hk with
  | 0, _ => rfl
  | 1, _ => rfl
  | 2, _ => rfl⟩
theorem tsw_out1 {x : Int32} (h1 : ¬ x = (1 : Int32)) (h2 : ¬ x = (2 : Int32)) (h3 : ¬ x = (3 : Int32)) : x.toInt < 1 ∨ 3 < x.toInt := by
  rw [← Int32.toInt_inj] at h1 h2 h3
  have e1 : (1 : Int32).toInt = 1 := by decide
  have e2 : (2 : Int32).toInt = 2 := by decide
  have e3 : (3 : Int32).toInt = 3 := by decide
  omega
theorem tsw_out1b {x : Int32} (h1 : ¬ x = (1 : Int32)) (h2 : ¬ x = (2 : Int32)) (h3 : ¬ x = (3 : Int32)) (h4 : ¬ x = (4 : Int32)) : x.toInt < 1 ∨ 4 < x.toInt := by
  rw [← Int32.toInt_inj] at h1 h2 h3 h4
  have e1 : (1 : Int32).toInt = 1 := by decide
  have e2 : (2 : Int32).toInt = 2 := by decide
  have e3 : (3 : Int32).toInt = 3 := by decide
  have e4 : (4 : Int32).toInt = 4 := by decide
  omega
theorem lk_ne {x v : Int32} {a : Int} (e : v.toInt = a) (h : ¬ x = v) : ¬ a = x.toInt := fun q => h (Int32.toInt_inj.mp (by rw [e, q]))
