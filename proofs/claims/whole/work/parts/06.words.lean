theorem cn_J6_265 : Cond.constant RJ6 265 (1431655765) ∈ tg := tg_in 533 (by decide +kernel) (by decide +kernel)
theorem cn_J6_266 : Cond.constant RJ6 266 (858993459) ∈ tg := tg_in 534 (by decide +kernel) (by decide +kernel)
theorem cn_J6_267 : Cond.constant RJ6 267 (252645135) ∈ tg := tg_in 535 (by decide +kernel) (by decide +kernel)
theorem ml_X0_3 : Cond.methodLink RX0 3 objectInit ∈ tg := tg_in 190 (by decide +kernel) (by decide +kernel)
theorem oi_i : Cond.instanceMethod objectInit ∈ tg := tg_in 89 (by decide +kernel) (by decide +kernel)
theorem oi_c : Cond.code objectInit ⟨#[0xb1]⟩ 1 none ∈ tg := tg_in 90 (by decide +kernel) (by decide +kernel)
theorem ac_int : Cond.arrayClass .int ∈ tg := tg_in 118 (by decide +kernel) (by decide +kernel)
theorem in_X0 : ∀ w ∈ u_ws RX0 TX0 3, w ∈ tg := us_in (lt_s (lt_s (lt_s (lt_0) (tg_in 196 (by decide +kernel) (by decide +kernel))) (tg_in 198 (by decide +kernel) (by decide +kernel))) (tg_in 200 (by decide +kernel) (by decide +kernel)))
theorem fp_X0_9 : FP RX0 9 0 2 true (.array .int) := ⟨RX0, TX0, 3, tyX0, rfl, in_X0, by decide, tg_in 195 (by decide +kernel) (by decide +kernel), tyX0_ok, nmX0, rfl, (fun _ => rfl), by decide +kernel⟩
theorem in_X3 : ∀ w ∈ u_ws RX3 TX3 6, w ∈ tg := us_in (lt_s (lt_s (lt_s (lt_s (lt_s (lt_s (lt_0) (tg_in 139 (by decide +kernel) (by decide +kernel))) (tg_in 141 (by decide +kernel) (by decide +kernel))) (tg_in 143 (by decide +kernel) (by decide +kernel))) (tg_in 145 (by decide +kernel) (by decide +kernel))) (tg_in 147 (by decide +kernel) (by decide +kernel))) (tg_in 149 (by decide +kernel) (by decide +kernel)))
theorem fl_X3_9 : FL RX3 9 3 2 := ⟨RX3, TX3, 6, rfl, in_X3, by decide, tg_in 134 (by decide +kernel) (by decide +kernel)⟩
theorem nl_X3_51 : (RX3, 51, yX8_at, "RoomRings") ∈ nwL := List.mem_of_getElem? (i := 12) (by decide +kernel)
theorem my_X8_at : MY yX8_at cX8_at 2 (some .int) 2 := ⟨tg_in 355 (by decide +kernel) (by decide +kernel), tg_in 70 (by decide +kernel) (by decide +kernel), by decide, by decide, by decide +kernel⟩
theorem ms_X8_at : Cond.static yX8_at ∈ tg := tg_in 354 (by decide +kernel) (by decide +kernel)
theorem fl_X3_18 : FL RX3 18 3 4 := ⟨RX3, TX3, 6, rfl, in_X3, by decide, tg_in 136 (by decide +kernel) (by decide +kernel)⟩
theorem fl_X3_15 : FL RX3 15 3 3 := ⟨RX3, TX3, 6, rfl, in_X3, by decide, tg_in 135 (by decide +kernel) (by decide +kernel)⟩
theorem fl_X0_15 : FL RX0 15 3 1 := ⟨RX3, TX3, 6, rfl, in_X3, by decide, tg_in 130 (by decide +kernel) (by decide +kernel)⟩
theorem ml_X0_21 : Cond.methodLink RX0 21 yX3_seatOf ∈ tg := tg_in 509 (by decide +kernel) (by decide +kernel)
theorem my_X3_seatOf : MY yX3_seatOf cX3_seatOf 2 (some .int) 1 := ⟨tg_in 512 (by decide +kernel) (by decide +kernel), tg_in 72 (by decide +kernel) (by decide +kernel), by decide, by decide, by decide +kernel⟩
theorem mv_X3_seatOf : MV1 yX3_seatOf := ⟨tg_in 510 (by decide +kernel) (by decide +kernel), tg_in 511 (by decide +kernel) (by decide +kernel)⟩
theorem ml_X0_52 : Cond.methodLink RX0 52 yX3_rank ∈ tg := tg_in 518 (by decide +kernel) (by decide +kernel)
theorem my_X3_rank : MY yX3_rank cX3_rank 7 (some .int) 2 := ⟨tg_in 521 (by decide +kernel) (by decide +kernel), tg_in 72 (by decide +kernel) (by decide +kernel), by decide, by decide, by decide +kernel⟩
theorem mv_X3_rank : MV1 yX3_rank := ⟨tg_in 519 (by decide +kernel) (by decide +kernel), tg_in 520 (by decide +kernel) (by decide +kernel)⟩
theorem nl_X0_25 : (RX0, 25, yX8_with, "RoomRings") ∈ nwL := List.mem_of_getElem? (i := 22) (by decide +kernel)
theorem my_X8_with : MY yX8_with cX8_with 2 (some .int) 2 := ⟨tg_in 461 (by decide +kernel) (by decide +kernel), tg_in 70 (by decide +kernel) (by decide +kernel), by decide, by decide, by decide +kernel⟩
theorem ms_X8_with : Cond.static yX8_with ∈ tg := tg_in 460 (by decide +kernel) (by decide +kernel)
theorem nl_X0_55 : (RX0, 55, yX8_holds, "RoomRings") ∈ nwL := List.mem_of_getElem? (i := 24) (by decide +kernel)
theorem my_X8_holds : MY yX8_holds cX8_holds 2 (some .boolean) 2 := ⟨tg_in 452 (by decide +kernel) (by decide +kernel), tg_in 70 (by decide +kernel) (by decide +kernel), by decide, by decide, by decide +kernel⟩
theorem ms_X8_holds : Cond.static yX8_holds ∈ tg := tg_in 451 (by decide +kernel) (by decide +kernel)
theorem fl_X0_9 : FL RX0 9 0 2 := ⟨RX0, TX0, 3, rfl, in_X0, by decide, tg_in 195 (by decide +kernel) (by decide +kernel)⟩
theorem nl_X0_59 : (RX0, 59, yX8_at, "RoomRings") ∈ nwL := List.mem_of_getElem? (i := 25) (by decide +kernel)
theorem nl_X0_63 : (RX0, 63, yX8_without, "RoomRings") ∈ nwL := List.mem_of_getElem? (i := 26) (by decide +kernel)
theorem my_X8_without : MY yX8_without cX8_without 2 (some .int) 2 := ⟨tg_in 468 (by decide +kernel) (by decide +kernel), tg_in 70 (by decide +kernel) (by decide +kernel), by decide, by decide, by decide +kernel⟩
theorem ms_X8_without : Cond.static yX8_without ∈ tg := tg_in 467 (by decide +kernel) (by decide +kernel)
theorem ml_X0_29 : Cond.methodLink RX0 29 yX0_whomEnvies ∈ tg := tg_in 514 (by decide +kernel) (by decide +kernel)
theorem my_X0_whomEnvies : MY yX0_whomEnvies cX0_whomEnvies 8 (some .int) 2 := ⟨tg_in 517 (by decide +kernel) (by decide +kernel), tg_in 74 (by decide +kernel) (by decide +kernel), by decide, by decide, by decide +kernel⟩
theorem mv_X0_whomEnvies : MV1 yX0_whomEnvies := ⟨tg_in 516 (by decide +kernel) (by decide +kernel), tg_in 17 (by decide +kernel) (by decide +kernel)⟩
theorem nl_X0_33 : (RX0, 33, yX8_put, "RoomRings") ∈ nwL := List.mem_of_getElem? (i := 23) (by decide +kernel)
theorem my_X8_put : MY yX8_put cX8_put 3 none 3 := ⟨tg_in 320 (by decide +kernel) (by decide +kernel), tg_in 70 (by decide +kernel) (by decide +kernel), by decide, by decide, by decide +kernel⟩
theorem ms_X8_put : Cond.static yX8_put ∈ tg := tg_in 319 (by decide +kernel) (by decide +kernel)
theorem fp_X0_37 : FP RX0 37 0 0 false .int := ⟨RX0, TX0, 3, tyX0, rfl, in_X0, by decide, tg_in 191 (by decide +kernel) (by decide +kernel), tyX0_ok, nmX0, rfl, (fun h => by cases h), by decide +kernel⟩
theorem ml_X0_43 : Cond.methodLink RX0 43 yX0_hasRing ∈ tg := tg_in 523 (by decide +kernel) (by decide +kernel)
theorem my_X0_hasRing : MY yX0_hasRing cX0_hasRing 5 (some .boolean) 1 := ⟨tg_in 526 (by decide +kernel) (by decide +kernel), tg_in 74 (by decide +kernel) (by decide +kernel), by decide, by decide, by decide +kernel⟩
theorem mv_X0_hasRing : MV1 yX0_hasRing := ⟨tg_in 525 (by decide +kernel) (by decide +kernel), tg_in 18 (by decide +kernel) (by decide +kernel)⟩
theorem fl_X0_40 : FL RX0 40 0 1 := ⟨RX0, TX0, 3, rfl, in_X0, by decide, tg_in 193 (by decide +kernel) (by decide +kernel)⟩
theorem fp_X0_40 : FP RX0 40 0 1 false .int := ⟨RX0, TX0, 3, tyX0, rfl, in_X0, by decide, tg_in 193 (by decide +kernel) (by decide +kernel), tyX0_ok, nmX0, rfl, (fun h => by cases h), by decide +kernel⟩
theorem fl_X0_37 : FL RX0 37 0 0 := ⟨RX0, TX0, 3, rfl, in_X0, by decide, tg_in 191 (by decide +kernel) (by decide +kernel)⟩
theorem ml_X0_47 : Cond.methodLink RX0 47 yJ6_bitCount_0f7a4 ∈ tg := tg_in 530 (by decide +kernel) (by decide +kernel)
theorem my_J6_bitCount_0f7a4 : MY yJ6_bitCount_0f7a4 cJ6_bitCount_0f7a4 1 (some .int) 1 := ⟨tg_in 532 (by decide +kernel) (by decide +kernel), tg_in 82 (by decide +kernel) (by decide +kernel), by decide, by decide, by decide +kernel⟩
theorem ms_J6_bitCount_0f7a4 : Cond.static yJ6_bitCount_0f7a4 ∈ tg := tg_in 531 (by decide +kernel) (by decide +kernel)
theorem ml_X1_3 : Cond.methodLink RX1 3 objectInit ∈ tg := tg_in 157 (by decide +kernel) (by decide +kernel)
theorem in_X1 : ∀ w ∈ u_ws RX1 TX1 8, w ∈ tg := us_in (lt_s (lt_s (lt_s (lt_s (lt_s (lt_s (lt_s (lt_s (lt_0) (tg_in 168 (by decide +kernel) (by decide +kernel))) (tg_in 170 (by decide +kernel) (by decide +kernel))) (tg_in 172 (by decide +kernel) (by decide +kernel))) (tg_in 174 (by decide +kernel) (by decide +kernel))) (tg_in 176 (by decide +kernel) (by decide +kernel))) (tg_in 178 (by decide +kernel) (by decide +kernel))) (tg_in 180 (by decide +kernel) (by decide +kernel))) (tg_in 182 (by decide +kernel) (by decide +kernel)))
theorem fp_X1_9 : FP RX1 9 1 3 true (.array .int) := ⟨RX1, TX1, 8, tyX1, rfl, in_X1, by decide, tg_in 163 (by decide +kernel) (by decide +kernel), tyX1_ok, nmX1, rfl, (fun _ => rfl), by decide +kernel⟩
theorem fp_X1_15 : FP RX1 15 1 4 true (.array .int) := ⟨RX1, TX1, 8, tyX1, rfl, in_X1, by decide, tg_in 164 (by decide +kernel) (by decide +kernel), tyX1_ok, nmX1, rfl, (fun _ => rfl), by decide +kernel⟩
theorem fp_X1_18 : FP RX1 18 1 5 true (.array .int) := ⟨RX1, TX1, 8, tyX1, rfl, in_X1, by decide, tg_in 165 (by decide +kernel) (by decide +kernel), tyX1_ok, nmX1, rfl, (fun _ => rfl), by decide +kernel⟩
theorem fp_X1_21 : FP RX1 21 1 6 true (.array .int) := ⟨RX1, TX1, 8, tyX1, rfl, in_X1, by decide, tg_in 166 (by decide +kernel) (by decide +kernel), tyX1_ok, nmX1, rfl, (fun _ => rfl), by decide +kernel⟩
theorem fp_X1_24 : FP RX1 24 1 7 true (.array .int) := ⟨RX1, TX1, 8, tyX1, rfl, in_X1, by decide, tg_in 167 (by decide +kernel) (by decide +kernel), tyX1_ok, nmX1, rfl, (fun _ => rfl), by decide +kernel⟩
theorem nl_X3_55 : (RX3, 55, yX8_holds, "RoomRings") ∈ nwL := List.mem_of_getElem? (i := 15) (by decide +kernel)
theorem fl_X1_9 : FL RX1 9 1 3 := ⟨RX1, TX1, 8, rfl, in_X1, by decide, tg_in 163 (by decide +kernel) (by decide +kernel)⟩
theorem nl_X1_74 : (RX1, 74, yX8_put, "RoomRings") ∈ nwL := List.mem_of_getElem? (i := 16) (by decide +kernel)
theorem fl_X1_15 : FL RX1 15 1 4 := ⟨RX1, TX1, 8, rfl, in_X1, by decide, tg_in 164 (by decide +kernel) (by decide +kernel)⟩
theorem fl_X1_46 : FL RX1 46 1 0 := ⟨RX1, TX1, 8, rfl, in_X1, by decide, tg_in 158 (by decide +kernel) (by decide +kernel)⟩
theorem fl_X1_18 : FL RX1 18 1 5 := ⟨RX1, TX1, 8, rfl, in_X1, by decide, tg_in 165 (by decide +kernel) (by decide +kernel)⟩
theorem fl_X1_27 : FL RX1 27 3 1 := ⟨RX3, TX3, 6, rfl, in_X3, by decide, tg_in 129 (by decide +kernel) (by decide +kernel)⟩
theorem fl_X1_37 : FL RX1 37 1 2 := ⟨RX1, TX1, 8, rfl, in_X1, by decide, tg_in 162 (by decide +kernel) (by decide +kernel)⟩
theorem nl_X1_67 : (RX1, 67, yX8_holds, "RoomRings") ∈ nwL := List.mem_of_getElem? (i := 14) (by decide +kernel)
theorem fl_X1_43 : FL RX1 43 1 1 := ⟨RX1, TX1, 8, rfl, in_X1, by decide, tg_in 160 (by decide +kernel) (by decide +kernel)⟩
theorem ml_X1_71 : Cond.methodLink RX1 71 yX3_best ∈ tg := tg_in 453 (by decide +kernel) (by decide +kernel)
theorem my_X3_best : MY yX3_best cX3_best 7 (some .int) 2 := ⟨tg_in 456 (by decide +kernel) (by decide +kernel), tg_in 72 (by decide +kernel) (by decide +kernel), by decide, by decide, by decide +kernel⟩
theorem mv_X3_best : MV1 yX3_best := ⟨tg_in 454 (by decide +kernel) (by decide +kernel), tg_in 455 (by decide +kernel) (by decide +kernel)⟩
theorem fl_X1_21 : FL RX1 21 1 6 := ⟨RX1, TX1, 8, rfl, in_X1, by decide, tg_in 166 (by decide +kernel) (by decide +kernel)⟩
theorem nl_X1_63 : (RX1, 63, yX8_with, "RoomRings") ∈ nwL := List.mem_of_getElem? (i := 17) (by decide +kernel)
theorem ml_X1_78 : Cond.methodLink RX1 78 yX1_finish ∈ tg := tg_in 462 (by decide +kernel) (by decide +kernel)
theorem my_X1_finish : MY yX1_finish cX1_finish 4 none 3 := ⟨tg_in 465 (by decide +kernel) (by decide +kernel), tg_in 73 (by decide +kernel) (by decide +kernel), by decide, by decide, by decide +kernel⟩
theorem mv_X1_finish : MV1 yX1_finish := ⟨tg_in 464 (by decide +kernel) (by decide +kernel), tg_in 12 (by decide +kernel) (by decide +kernel)⟩
theorem nl_X1_82 : (RX1, 82, yX8_without, "RoomRings") ∈ nwL := List.mem_of_getElem? (i := 18) (by decide +kernel)
theorem fp_X1_37 : FP RX1 37 1 2 false .int := ⟨RX1, TX1, 8, tyX1, rfl, in_X1, by decide, tg_in 162 (by decide +kernel) (by decide +kernel), tyX1_ok, nmX1, rfl, (fun h => by cases h), by decide +kernel⟩
theorem fl_X3_28 : FL RX3 28 3 1 := ⟨RX3, TX3, 6, rfl, in_X3, by decide, tg_in 131 (by decide +kernel) (by decide +kernel)⟩
theorem fl_X3_21 : FL RX3 21 3 5 := ⟨RX3, TX3, 6, rfl, in_X3, by decide, tg_in 137 (by decide +kernel) (by decide +kernel)⟩
theorem nl_X1_59 : (RX1, 59, yX8_at, "RoomRings") ∈ nwL := List.mem_of_getElem? (i := 19) (by decide +kernel)
theorem ml_X1_88 : Cond.methodLink RX1 88 yX3_sitter ∈ tg := tg_in 478 (by decide +kernel) (by decide +kernel)
theorem my_X3_sitter : MY yX3_sitter cX3_sitter 3 (some .int) 1 := ⟨tg_in 390 (by decide +kernel) (by decide +kernel), tg_in 72 (by decide +kernel) (by decide +kernel), by decide, by decide, by decide +kernel⟩
theorem mv_X3_sitter : MV1 yX3_sitter := ⟨tg_in 388 (by decide +kernel) (by decide +kernel), tg_in 389 (by decide +kernel) (by decide +kernel)⟩
theorem fl_X1_24 : FL RX1 24 1 7 := ⟨RX1, TX1, 8, rfl, in_X1, by decide, tg_in 167 (by decide +kernel) (by decide +kernel)⟩
theorem ml_X1_85 : Cond.methodLink RX1 85 yX3_firstOf ∈ tg := tg_in 473 (by decide +kernel) (by decide +kernel)
theorem my_X3_firstOf : MY yX3_firstOf cX3_firstOf 4 (some .int) 1 := ⟨tg_in 476 (by decide +kernel) (by decide +kernel), tg_in 72 (by decide +kernel) (by decide +kernel), by decide, by decide, by decide +kernel⟩
theorem mv_X3_firstOf : MV1 yX3_firstOf := ⟨tg_in 474 (by decide +kernel) (by decide +kernel), tg_in 475 (by decide +kernel) (by decide +kernel)⟩
theorem fp_X1_43 : FP RX1 43 1 1 false .int := ⟨RX1, TX1, 8, tyX1, rfl, in_X1, by decide, tg_in 160 (by decide +kernel) (by decide +kernel), tyX1_ok, nmX1, rfl, (fun h => by cases h), by decide +kernel⟩
theorem ml_X1_91 : Cond.methodLink RX1 91 yX1_ringFrom ∈ tg := tg_in 483 (by decide +kernel) (by decide +kernel)
theorem my_X1_ringFrom : MY yX1_ringFrom cX1_ringFrom 5 (some .int) 1 := ⟨tg_in 486 (by decide +kernel) (by decide +kernel), tg_in 73 (by decide +kernel) (by decide +kernel), by decide, by decide, by decide +kernel⟩
theorem mv_X1_ringFrom : MV1 yX1_ringFrom := ⟨tg_in 485 (by decide +kernel) (by decide +kernel), tg_in 15 (by decide +kernel) (by decide +kernel)⟩
theorem ml_X1_49 : Cond.methodLink RX1 49 yX1_aim ∈ tg := tg_in 446 (by decide +kernel) (by decide +kernel)
theorem my_X1_aim : MY yX1_aim cX1_aim 4 none 1 := ⟨tg_in 449 (by decide +kernel) (by decide +kernel), tg_in 73 (by decide +kernel) (by decide +kernel), by decide, by decide, by decide +kernel⟩
theorem mv_X1_aim : MV1 yX1_aim := ⟨tg_in 448 (by decide +kernel) (by decide +kernel), tg_in 11 (by decide +kernel) (by decide +kernel)⟩
theorem ml_X1_53 : Cond.methodLink RX1 53 yX1_follow ∈ tg := tg_in 469 (by decide +kernel) (by decide +kernel)
theorem my_X1_follow : MY yX1_follow cX1_follow 5 none 1 := ⟨tg_in 472 (by decide +kernel) (by decide +kernel), tg_in 73 (by decide +kernel) (by decide +kernel), by decide, by decide, by decide +kernel⟩
theorem mv_X1_follow : MV1 yX1_follow := ⟨tg_in 471 (by decide +kernel) (by decide +kernel), tg_in 13 (by decide +kernel) (by decide +kernel)⟩
theorem ml_X1_56 : Cond.methodLink RX1 56 yX1_closeRings ∈ tg := tg_in 479 (by decide +kernel) (by decide +kernel)
theorem my_X1_closeRings : MY yX1_closeRings cX1_closeRings 6 none 1 := ⟨tg_in 482 (by decide +kernel) (by decide +kernel), tg_in 73 (by decide +kernel) (by decide +kernel), by decide, by decide, by decide +kernel⟩
theorem mv_X1_closeRings : MV1 yX1_closeRings := ⟨tg_in 481 (by decide +kernel) (by decide +kernel), tg_in 14 (by decide +kernel) (by decide +kernel)⟩
theorem fp_X1_46 : FP RX1 46 1 0 false .int := ⟨RX1, TX1, 8, tyX1, rfl, in_X1, by decide, tg_in 158 (by decide +kernel) (by decide +kernel), tyX1_ok, nmX1, rfl, (fun h => by cases h), by decide +kernel⟩
theorem nl_X1_33 : (RX1, 33, yX8_firstOnes, "RoomRings") ∈ nwL := List.mem_of_getElem? (i := 13) (by decide +kernel)
theorem my_X8_firstOnes : MY yX8_firstOnes cX8_firstOnes 1 (some .int) 1 := ⟨tg_in 445 (by decide +kernel) (by decide +kernel), tg_in 70 (by decide +kernel) (by decide +kernel), by decide, by decide, by decide +kernel⟩
theorem ms_X8_firstOnes : Cond.static yX8_firstOnes ∈ tg := tg_in 444 (by decide +kernel) (by decide +kernel)
theorem fl_X1_40 : FL RX1 40 3 0 := ⟨RX3, TX3, 6, rfl, in_X3, by decide, tg_in 126 (by decide +kernel) (by decide +kernel)⟩
theorem ml_X2_1 : Cond.methodLink RX2 1 objectInit ∈ tg := tg_in 252 (by decide +kernel) (by decide +kernel)
theorem in_X2 : ∀ w ∈ u_ws RX2 TX2 1, w ∈ tg := us_in (lt_s (lt_0) (tg_in 255 (by decide +kernel) (by decide +kernel)))
theorem fl_X2_7 : FL RX2 7 2 0 := ⟨RX2, TX2, 1, rfl, in_X2, by decide, tg_in 253 (by decide +kernel) (by decide +kernel)⟩
theorem cl_X2_13 : Cond.constantLong RX2 13 (1103515245) ∈ tg := tg_in 662 (by decide +kernel) (by decide +kernel)
theorem cl_X2_15 : Cond.constantLong RX2 15 (12345) ∈ tg := tg_in 663 (by decide +kernel) (by decide +kernel)
theorem cl_X2_17 : Cond.constantLong RX2 17 (2147483648) ∈ tg := tg_in 664 (by decide +kernel) (by decide +kernel)
theorem fp_X2_7 : FP RX2 7 2 0 false .int := ⟨RX2, TX2, 1, tyX2, rfl, in_X2, by decide, tg_in 253 (by decide +kernel) (by decide +kernel), tyX2_ok, nmX2, rfl, (fun h => by cases h), by decide +kernel⟩
theorem cn_X2_19 : Cond.constant RX2 19 (65536) ∈ tg := tg_in 665 (by decide +kernel) (by decide +kernel)
theorem ml_X3_3 : Cond.methodLink RX3 3 objectInit ∈ tg := tg_in 124 (by decide +kernel) (by decide +kernel)
theorem fp_X3_9 : FP RX3 9 3 2 true (.array .int) := ⟨RX3, TX3, 6, tyX3, rfl, in_X3, by decide, tg_in 134 (by decide +kernel) (by decide +kernel), tyX3_ok, nmX3, rfl, (fun _ => rfl), by decide +kernel⟩
theorem fp_X3_15 : FP RX3 15 3 3 true (.array .int) := ⟨RX3, TX3, 6, tyX3, rfl, in_X3, by decide, tg_in 135 (by decide +kernel) (by decide +kernel), tyX3_ok, nmX3, rfl, (fun _ => rfl), by decide +kernel⟩
theorem fp_X3_18 : FP RX3 18 3 4 true (.array .int) := ⟨RX3, TX3, 6, tyX3, rfl, in_X3, by decide, tg_in 136 (by decide +kernel) (by decide +kernel), tyX3_ok, nmX3, rfl, (fun _ => rfl), by decide +kernel⟩
theorem fp_X3_21 : FP RX3 21 3 5 true (.array .int) := ⟨RX3, TX3, 6, tyX3, rfl, in_X3, by decide, tg_in 137 (by decide +kernel) (by decide +kernel), tyX3_ok, nmX3, rfl, (fun _ => rfl), by decide +kernel⟩
theorem fp_X3_24 : FP RX3 24 3 0 false .int := ⟨RX3, TX3, 6, tyX3, rfl, in_X3, by decide, tg_in 125 (by decide +kernel) (by decide +kernel), tyX3_ok, nmX3, rfl, (fun h => by cases h), by decide +kernel⟩
theorem fp_X3_28 : FP RX3 28 3 1 false .int := ⟨RX3, TX3, 6, tyX3, rfl, in_X3, by decide, tg_in 131 (by decide +kernel) (by decide +kernel), tyX3_ok, nmX3, rfl, (fun h => by cases h), by decide +kernel⟩
theorem fl_X3_24 : FL RX3 24 3 0 := ⟨RX3, TX3, 6, rfl, in_X3, by decide, tg_in 125 (by decide +kernel) (by decide +kernel)⟩
theorem cp_X3_31 : CP RX3 31 := ⟨tg_in 412 (by decide +kernel) (by decide +kernel), tg_in 414 (by decide +kernel) (by decide +kernel), tg_in 413 (by decide +kernel) (by decide +kernel), tg_in 81 (by decide +kernel) (by decide +kernel)⟩
theorem nl_X3_37 : (RX3, 37, yX8_put, "RoomRings") ∈ nwL := List.mem_of_getElem? (i := 11) (by decide +kernel)
theorem mm_X3_41 : Cond.methodLink RX3 41 Lib.Math.min.name ∈ tg ∧ Cond.static Lib.Math.min.name ∈ tg ∧ Cond.initialized "java/lang/Math" ∈ tg ∧ Cond.code Lib.Math.min.name Lib.Math.min.code 2 (some .int) ∈ tg := ⟨tg_in 372 (by decide +kernel) (by decide +kernel), tg_in 373 (by decide +kernel) (by decide +kernel), tg_in 80 (by decide +kernel) (by decide +kernel), tg_in 374 (by decide +kernel) (by decide +kernel)⟩
theorem ml_X3_47 : Cond.methodLink RX3 47 yX3_hasRoom ∈ tg := tg_in 692 (by decide +kernel) (by decide +kernel)
theorem my_X3_hasRoom : MY yX3_hasRoom cX3_hasRoom 2 (some .boolean) 1 := ⟨tg_in 386 (by decide +kernel) (by decide +kernel), tg_in 72 (by decide +kernel) (by decide +kernel), by decide, by decide, by decide +kernel⟩
theorem mv_X3_hasRoom : MV1 yX3_hasRoom := ⟨tg_in 384 (by decide +kernel) (by decide +kernel), tg_in 385 (by decide +kernel) (by decide +kernel)⟩
theorem nl_X3_59 : (RX3, 59, yX8_with, "RoomRings") ∈ nwL := List.mem_of_getElem? (i := 21) (by decide +kernel)
theorem nl_X3_62 : (RX3, 62, yX8_firstOnes, "RoomRings") ∈ nwL := List.mem_of_getElem? (i := 20) (by decide +kernel)
theorem ml_X3_66 : Cond.methodLink RX3 66 yX3_seatsOf ∈ tg := tg_in 496 (by decide +kernel) (by decide +kernel)
theorem my_X3_seatsOf : MY yX3_seatsOf cX3_seatsOf 4 (some .int) 1 := ⟨tg_in 499 (by decide +kernel) (by decide +kernel), tg_in 72 (by decide +kernel) (by decide +kernel), by decide, by decide, by decide +kernel⟩
theorem mv_X3_seatsOf : MV1 yX3_seatsOf := ⟨tg_in 497 (by decide +kernel) (by decide +kernel), tg_in 498 (by decide +kernel) (by decide +kernel)⟩
theorem ml_X3_69 : Cond.methodLink RX3 69 yX3_likingPlace ∈ tg := tg_in 615 (by decide +kernel) (by decide +kernel)
theorem my_X3_likingPlace : MY yX3_likingPlace cX3_likingPlace 5 (some .int) 2 := ⟨tg_in 403 (by decide +kernel) (by decide +kernel), tg_in 72 (by decide +kernel) (by decide +kernel), by decide, by decide, by decide +kernel⟩
theorem mv_X3_likingPlace : MV1 yX3_likingPlace := ⟨tg_in 401 (by decide +kernel) (by decide +kernel), tg_in 402 (by decide +kernel) (by decide +kernel)⟩
theorem ml_X3_72 : Cond.methodLink RX3 72 yX3_dropLiking ∈ tg := tg_in 611 (by decide +kernel) (by decide +kernel)
theorem my_X3_dropLiking : MY yX3_dropLiking cX3_dropLiking 7 none 2 := ⟨tg_in 614 (by decide +kernel) (by decide +kernel), tg_in 72 (by decide +kernel) (by decide +kernel), by decide, by decide, by decide +kernel⟩
theorem mv_X3_dropLiking : MV1 yX3_dropLiking := ⟨tg_in 612 (by decide +kernel) (by decide +kernel), tg_in 613 (by decide +kernel) (by decide +kernel)⟩
theorem ml_X3_76 : Cond.methodLink RX3 76 yX3_addLiking ∈ tg := tg_in 616 (by decide +kernel) (by decide +kernel)
theorem my_X3_addLiking : MY yX3_addLiking cX3_addLiking 4 none 2 := ⟨tg_in 407 (by decide +kernel) (by decide +kernel), tg_in 72 (by decide +kernel) (by decide +kernel), by decide, by decide, by decide +kernel⟩
theorem mv_X3_addLiking : MV1 yX3_addLiking := ⟨tg_in 405 (by decide +kernel) (by decide +kernel), tg_in 406 (by decide +kernel) (by decide +kernel)⟩
theorem ml_X3_79 : Cond.methodLink RX3 79 yX3_placeOf ∈ tg := tg_in 632 (by decide +kernel) (by decide +kernel)
theorem my_X3_placeOf : MY yX3_placeOf cX3_placeOf 3 (some .int) 1 := ⟨tg_in 553 (by decide +kernel) (by decide +kernel), tg_in 72 (by decide +kernel) (by decide +kernel), by decide, by decide, by decide +kernel⟩
theorem mv_X3_placeOf : MV1 yX3_placeOf := ⟨tg_in 551 (by decide +kernel) (by decide +kernel), tg_in 552 (by decide +kernel) (by decide +kernel)⟩
theorem ml_X3_82 : Cond.methodLink RX3 82 yX3_member ∈ tg := tg_in 701 (by decide +kernel) (by decide +kernel)
theorem my_X3_member : MY yX3_member cX3_member 5 (some .int) 2 := ⟨tg_in 704 (by decide +kernel) (by decide +kernel), tg_in 72 (by decide +kernel) (by decide +kernel), by decide, by decide, by decide +kernel⟩
theorem mv_X3_member : MV1 yX3_member := ⟨tg_in 703 (by decide +kernel) (by decide +kernel), tg_in 23 (by decide +kernel) (by decide +kernel)⟩
theorem nl_X3_85 : (RX3, 85, yX8_without, "RoomRings") ∈ nwL := List.mem_of_getElem? (i := 27) (by decide +kernel)
theorem ml_X4_1 : Cond.methodLink RX4 1 objectInit ∈ tg := tg_in 264 (by decide +kernel) (by decide +kernel)
theorem nw_X4_7 : NW RX4 7 3 6 [.inl 0, .inl 0, .inr none, .inr none, .inr none, .inr none] := ⟨RX3, TX3, tyX3, rfl, in_X3, tyX3_ok, tg_in 265 (by decide +kernel) (by decide +kernel), tg_in 120 (by decide +kernel) (by decide +kernel), tg_in 72 (by decide +kernel) (by decide +kernel), fun b => lt_s (lt_s (lt_s (lt_s (lt_s (lt_s (lt_0) rfl) rfl) rfl) rfl) rfl) rfl⟩
theorem nl_X4_9 : (RX4, 9, yX3_init, "RoomRings") ∈ nwL := List.mem_of_getElem? (i := 8) (by decide +kernel)
theorem my_X3_init : MY yX3_init cX3_init 1 none 0 := ⟨tg_in 123 (by decide +kernel) (by decide +kernel), tg_in 72 (by decide +kernel) (by decide +kernel), by decide, by decide, by decide +kernel⟩
theorem mi_X3_init : Cond.instanceMethod yX3_init ∈ tg := tg_in 122 (by decide +kernel) (by decide +kernel)
theorem in_X4 : ∀ w ∈ u_ws RX4 TX4 3, w ∈ tg := us_in (lt_s (lt_s (lt_s (lt_0) (tg_in 273 (by decide +kernel) (by decide +kernel))) (tg_in 275 (by decide +kernel) (by decide +kernel))) (tg_in 277 (by decide +kernel) (by decide +kernel)))
theorem fp_X4_10 : FP RX4 10 4 2 true (.object "RoomRings$House") := ⟨RX4, TX4, 3, tyX4, rfl, in_X4, by decide, tg_in 271 (by decide +kernel) (by decide +kernel), tyX4_ok, nmX4, rfl, (fun _ => rfl), by decide +kernel⟩
theorem fl_X4_10 : FL RX4 10 4 2 := ⟨RX4, TX4, 3, rfl, in_X4, by decide, tg_in 271 (by decide +kernel) (by decide +kernel)⟩
theorem ml_X4_16 : Cond.methodLink RX4 16 yX3_copy ∈ tg := tg_in 781 (by decide +kernel) (by decide +kernel)
theorem my_X3_copy : MY yX3_copy cX3_copy 2 none 1 := ⟨tg_in 411 (by decide +kernel) (by decide +kernel), tg_in 72 (by decide +kernel) (by decide +kernel), by decide, by decide, by decide +kernel⟩
theorem mv_X3_copy : MV1 yX3_copy := ⟨tg_in 409 (by decide +kernel) (by decide +kernel), tg_in 410 (by decide +kernel) (by decide +kernel)⟩
theorem fp_X4_20 : FP RX4 20 4 1 false .int := ⟨RX4, TX4, 3, tyX4, rfl, in_X4, by decide, tg_in 269 (by decide +kernel) (by decide +kernel), tyX4_ok, nmX4, rfl, (fun h => by cases h), by decide +kernel⟩
theorem fp_X4_24 : FP RX4 24 4 0 false .boolean := ⟨RX4, TX4, 3, tyX4, rfl, in_X4, by decide, tg_in 267 (by decide +kernel) (by decide +kernel), tyX4_ok, nmX4, rfl, (fun h => by cases h), by decide +kernel⟩
theorem ml_X5_3 : Cond.methodLink RX5 3 objectInit ∈ tg := tg_in 225 (by decide +kernel) (by decide +kernel)
theorem in_X5 : ∀ w ∈ u_ws RX5 TX5 6, w ∈ tg := us_in (lt_s (lt_s (lt_s (lt_s (lt_s (lt_s (lt_0) (tg_in 234 (by decide +kernel) (by decide +kernel))) (tg_in 236 (by decide +kernel) (by decide +kernel))) (tg_in 238 (by decide +kernel) (by decide +kernel))) (tg_in 240 (by decide +kernel) (by decide +kernel))) (tg_in 242 (by decide +kernel) (by decide +kernel))) (tg_in 244 (by decide +kernel) (by decide +kernel)))
theorem fp_X5_9 : FP RX5 9 5 2 true (.array .int) := ⟨RX5, TX5, 6, tyX5, rfl, in_X5, by decide, tg_in 230 (by decide +kernel) (by decide +kernel), tyX5_ok, nmX5, rfl, (fun _ => rfl), by decide +kernel⟩
theorem fp_X5_15 : FP RX5 15 5 3 true (.array .int) := ⟨RX5, TX5, 6, tyX5, rfl, in_X5, by decide, tg_in 231 (by decide +kernel) (by decide +kernel), tyX5_ok, nmX5, rfl, (fun _ => rfl), by decide +kernel⟩
theorem fp_X5_18 : FP RX5 18 5 4 true (.array .int) := ⟨RX5, TX5, 6, tyX5, rfl, in_X5, by decide, tg_in 232 (by decide +kernel) (by decide +kernel), tyX5_ok, nmX5, rfl, (fun _ => rfl), by decide +kernel⟩
theorem fp_X5_21 : FP RX5 21 5 5 true (.array .int) := ⟨RX5, TX5, 6, tyX5, rfl, in_X5, by decide, tg_in 233 (by decide +kernel) (by decide +kernel), tyX5_ok, nmX5, rfl, (fun _ => rfl), by decide +kernel⟩
theorem fp_X5_24 : FP RX5 24 5 0 false .int := ⟨RX5, TX5, 6, tyX5, rfl, in_X5, by decide, tg_in 226 (by decide +kernel) (by decide +kernel), tyX5_ok, nmX5, rfl, (fun h => by cases h), by decide +kernel⟩
theorem fp_X5_28 : FP RX5 28 5 1 false .int := ⟨RX5, TX5, 6, tyX5, rfl, in_X5, by decide, tg_in 228 (by decide +kernel) (by decide +kernel), tyX5_ok, nmX5, rfl, (fun h => by cases h), by decide +kernel⟩
theorem nl_X5_32 : (RX5, 32, yX8_put, "RoomRings") ∈ nwL := List.mem_of_getElem? (i := 28) (by decide +kernel)
theorem fl_X5_24 : FL RX5 24 5 0 := ⟨RX5, TX5, 6, rfl, in_X5, by decide, tg_in 226 (by decide +kernel) (by decide +kernel)⟩
theorem fl_X5_9 : FL RX5 9 5 2 := ⟨RX5, TX5, 6, rfl, in_X5, by decide, tg_in 230 (by decide +kernel) (by decide +kernel)⟩
theorem fl_X5_15 : FL RX5 15 5 3 := ⟨RX5, TX5, 6, rfl, in_X5, by decide, tg_in 231 (by decide +kernel) (by decide +kernel)⟩
theorem cn_X5_31 : Cond.constant RX5 31 (-1000000004) ∈ tg := tg_in 720 (by decide +kernel) (by decide +kernel)
theorem fl_X5_28 : FL RX5 28 5 1 := ⟨RX5, TX5, 6, rfl, in_X5, by decide, tg_in 228 (by decide +kernel) (by decide +kernel)⟩
theorem fl_X5_18 : FL RX5 18 5 4 := ⟨RX5, TX5, 6, rfl, in_X5, by decide, tg_in 232 (by decide +kernel) (by decide +kernel)⟩
theorem fl_X5_21 : FL RX5 21 5 5 := ⟨RX5, TX5, 6, rfl, in_X5, by decide, tg_in 233 (by decide +kernel) (by decide +kernel)⟩
theorem nl_X5_50 : (RX5, 50, yX8_at, "RoomRings") ∈ nwL := List.mem_of_getElem? (i := 29) (by decide +kernel)
theorem ml_X5_36 : Cond.methodLink RX5 36 yX1_roomOf ∈ tg := tg_in 730 (by decide +kernel) (by decide +kernel)
theorem my_X1_roomOf : MY yX1_roomOf cX1_roomOf 2 (some .int) 1 := ⟨tg_in 557 (by decide +kernel) (by decide +kernel), tg_in 73 (by decide +kernel) (by decide +kernel), by decide, by decide, by decide +kernel⟩
theorem mv_X1_roomOf : MV1 yX1_roomOf := ⟨tg_in 555 (by decide +kernel) (by decide +kernel), tg_in 556 (by decide +kernel) (by decide +kernel)⟩
theorem ml_X5_42 : Cond.methodLink RX5 42 yX5_fits ∈ tg := tg_in 731 (by decide +kernel) (by decide +kernel)
theorem my_X5_fits : MY yX5_fits cX5_fits 4 (some .boolean) 1 := ⟨tg_in 734 (by decide +kernel) (by decide +kernel), tg_in 76 (by decide +kernel) (by decide +kernel), by decide, by decide, by decide +kernel⟩
theorem mv_X5_fits : MV1 yX5_fits := ⟨tg_in 733 (by decide +kernel) (by decide +kernel), tg_in 24 (by decide +kernel) (by decide +kernel)⟩
theorem nl_X5_46 : (RX5, 46, yX8_with, "RoomRings") ∈ nwL := List.mem_of_getElem? (i := 30) (by decide +kernel)
theorem ml_X6_3 : Cond.methodLink RX6 3 objectInit ∈ tg := tg_in 208 (by decide +kernel) (by decide +kernel)
theorem kl_X6_9 : Cond.classLink RX6 9 RX3 ∈ tg := tg_in 209 (by decide +kernel) (by decide +kernel)
theorem in_X6 : ∀ w ∈ u_ws RX6 TX6 2, w ∈ tg := us_in (lt_s (lt_s (lt_0) (tg_in 215 (by decide +kernel) (by decide +kernel))) (tg_in 217 (by decide +kernel) (by decide +kernel)))
theorem fp_X6_11 : FP RX6 11 6 1 true (.array (.object "RoomRings$House")) := ⟨RX6, TX6, 2, tyX6, rfl, in_X6, by decide, tg_in 214 (by decide +kernel) (by decide +kernel), tyX6_ok, nmX6, rfl, (fun _ => rfl), by decide +kernel⟩
theorem fl_X6_11 : FL RX6 11 6 1 := ⟨RX6, TX6, 2, rfl, in_X6, by decide, tg_in 214 (by decide +kernel) (by decide +kernel)⟩
theorem nw_X6_9 : NW RX6 9 3 6 [.inl 0, .inl 0, .inr none, .inr none, .inr none, .inr none] := ⟨RX3, TX3, tyX3, rfl, in_X3, tyX3_ok, tg_in 209 (by decide +kernel) (by decide +kernel), tg_in 120 (by decide +kernel) (by decide +kernel), tg_in 72 (by decide +kernel) (by decide +kernel), fun b => lt_s (lt_s (lt_s (lt_s (lt_s (lt_s (lt_0) rfl) rfl) rfl) rfl) rfl) rfl⟩
theorem nl_X6_17 : (RX6, 17, yX3_init, "RoomRings") ∈ nwL := List.mem_of_getElem? (i := 4) (by decide +kernel)
theorem fp_X6_18 : FP RX6 18 6 0 false .int := ⟨RX6, TX6, 2, tyX6, rfl, in_X6, by decide, tg_in 212 (by decide +kernel) (by decide +kernel), tyX6_ok, nmX6, rfl, (fun h => by cases h), by decide +kernel⟩
theorem fl_X6_18 : FL RX6 18 6 0 := ⟨RX6, TX6, 2, rfl, in_X6, by decide, tg_in 212 (by decide +kernel) (by decide +kernel)⟩
theorem ml_X6_25 : Cond.methodLink RX6 25 yX3_copy ∈ tg := tg_in 606 (by decide +kernel) (by decide +kernel)
theorem ml_X6_22 : Cond.methodLink RX6 22 yX6_dropOldest ∈ tg := tg_in 602 (by decide +kernel) (by decide +kernel)
theorem my_X6_dropOldest : MY yX6_dropOldest cX6_dropOldest 4 none 0 := ⟨tg_in 605 (by decide +kernel) (by decide +kernel), tg_in 75 (by decide +kernel) (by decide +kernel), by decide, by decide, by decide +kernel⟩
theorem mv_X6_dropOldest : MV1 yX6_dropOldest := ⟨tg_in 604 (by decide +kernel) (by decide +kernel), tg_in 20 (by decide +kernel) (by decide +kernel)⟩
theorem ml_X7_3 : Cond.methodLink RX7 3 objectInit ∈ tg := tg_in 96 (by decide +kernel) (by decide +kernel)
theorem in_X7 : ∀ w ∈ u_ws RX7 TX7 6, w ∈ tg := us_in (lt_s (lt_s (lt_s (lt_s (lt_s (lt_s (lt_0) (tg_in 105 (by decide +kernel) (by decide +kernel))) (tg_in 107 (by decide +kernel) (by decide +kernel))) (tg_in 109 (by decide +kernel) (by decide +kernel))) (tg_in 111 (by decide +kernel) (by decide +kernel))) (tg_in 113 (by decide +kernel) (by decide +kernel))) (tg_in 115 (by decide +kernel) (by decide +kernel)))
theorem fp_X7_9 : FP RX7 9 7 1 false .int := ⟨RX7, TX7, 6, tyX7, rfl, in_X7, by decide, tg_in 99 (by decide +kernel) (by decide +kernel), tyX7_ok, nmX7, rfl, (fun h => by cases h), by decide +kernel⟩
theorem fp_X7_15 : FP RX7 15 7 5 true (.array .int) := ⟨RX7, TX7, 6, tyX7, rfl, in_X7, by decide, tg_in 104 (by decide +kernel) (by decide +kernel), tyX7_ok, nmX7, rfl, (fun _ => rfl), by decide +kernel⟩
theorem fl_X7_19 : FL RX7 19 7 0 := ⟨RX7, TX7, 6, rfl, in_X7, by decide, tg_in 97 (by decide +kernel) (by decide +kernel)⟩
theorem fl_X7_15 : FL RX7 15 7 5 := ⟨RX7, TX7, 6, rfl, in_X7, by decide, tg_in 104 (by decide +kernel) (by decide +kernel)⟩
theorem nl_X7_23 : (RX7, 23, yX8_put, "RoomRings") ∈ nwL := List.mem_of_getElem? (i := 9) (by decide +kernel)
theorem fp_X7_19 : FP RX7 19 7 0 false .int := ⟨RX7, TX7, 6, tyX7, rfl, in_X7, by decide, tg_in 97 (by decide +kernel) (by decide +kernel), tyX7_ok, nmX7, rfl, (fun h => by cases h), by decide +kernel⟩
theorem cn_X7_22 : Cond.constant RX7 22 (-1000000004) ∈ tg := tg_in 317 (by decide +kernel) (by decide +kernel)
theorem fl_X7_32 : FL RX7 32 7 3 := ⟨RX7, TX7, 6, rfl, in_X7, by decide, tg_in 102 (by decide +kernel) (by decide +kernel)⟩
theorem fp_X7_32 : FP RX7 32 7 3 false .int := ⟨RX7, TX7, 6, tyX7, rfl, in_X7, by decide, tg_in 102 (by decide +kernel) (by decide +kernel), tyX7_ok, nmX7, rfl, (fun h => by cases h), by decide +kernel⟩
theorem fl_X7_35 : FL RX7 35 7 2 := ⟨RX7, TX7, 6, rfl, in_X7, by decide, tg_in 101 (by decide +kernel) (by decide +kernel)⟩
theorem fp_X7_35 : FP RX7 35 7 2 false .int := ⟨RX7, TX7, 6, tyX7, rfl, in_X7, by decide, tg_in 101 (by decide +kernel) (by decide +kernel), tyX7_ok, nmX7, rfl, (fun h => by cases h), by decide +kernel⟩
theorem ml_X7_38 : Cond.methodLink RX7 38 yX7_peek ∈ tg := tg_in 333 (by decide +kernel) (by decide +kernel)
theorem my_X7_peek : MY yX7_peek cX7_peek 1 (some .int) 0 := ⟨tg_in 336 (by decide +kernel) (by decide +kernel), tg_in 71 (by decide +kernel) (by decide +kernel), by decide, by decide, by decide +kernel⟩
theorem mv_X7_peek : MV1 yX7_peek := ⟨tg_in 335 (by decide +kernel) (by decide +kernel), tg_in 0 (by decide +kernel) (by decide +kernel)⟩
theorem ml_X7_49 : Cond.methodLink RX7 49 yX7_fail ∈ tg := tg_in 345 (by decide +kernel) (by decide +kernel)
theorem my_X7_fail : MY yX7_fail cX7_fail 3 none 2 := ⟨tg_in 348 (by decide +kernel) (by decide +kernel), tg_in 71 (by decide +kernel) (by decide +kernel), by decide, by decide, by decide +kernel⟩
theorem mv_X7_fail : MV1 yX7_fail := ⟨tg_in 347 (by decide +kernel) (by decide +kernel), tg_in 3 (by decide +kernel) (by decide +kernel)⟩
theorem fl_X7_60 : FL RX7 60 7 4 := ⟨RX7, TX7, 6, rfl, in_X7, by decide, tg_in 103 (by decide +kernel) (by decide +kernel)⟩
theorem nl_X7_104 : (RX7, 104, yX8_at, "RoomRings") ∈ nwL := List.mem_of_getElem? (i := 10) (by decide +kernel)
theorem ml_X7_108 : Cond.methodLink RX7 108 yX7_isFigure ∈ tg := tg_in 356 (by decide +kernel) (by decide +kernel)
theorem my_X7_isFigure : MY yX7_isFigure cX7_isFigure 1 (some .boolean) 1 := ⟨tg_in 358 (by decide +kernel) (by decide +kernel), tg_in 71 (by decide +kernel) (by decide +kernel), by decide, by decide, by decide +kernel⟩
theorem ms_X7_isFigure : Cond.static yX7_isFigure ∈ tg := tg_in 357 (by decide +kernel) (by decide +kernel)
theorem fp_X7_60 : FP RX7 60 7 4 false .int := ⟨RX7, TX7, 6, tyX7, rfl, in_X7, by decide, tg_in 103 (by decide +kernel) (by decide +kernel), tyX7_ok, nmX7, rfl, (fun h => by cases h), by decide +kernel⟩
theorem fp_X7_63 : FP RX7 63 3 0 false .int := ⟨RX3, TX3, 6, tyX3, rfl, in_X3, by decide, tg_in 128 (by decide +kernel) (by decide +kernel), tyX3_ok, nmX3, rfl, (fun h => by cases h), by decide +kernel⟩
theorem ml_X7_53 : Cond.methodLink RX7 53 yX7_expect ∈ tg := tg_in 341 (by decide +kernel) (by decide +kernel)
theorem my_X7_expect : MY yX7_expect cX7_expect 2 none 1 := ⟨tg_in 344 (by decide +kernel) (by decide +kernel), tg_in 71 (by decide +kernel) (by decide +kernel), by decide, by decide, by decide +kernel⟩
theorem mv_X7_expect : MV1 yX7_expect := ⟨tg_in 343 (by decide +kernel) (by decide +kernel), tg_in 2 (by decide +kernel) (by decide +kernel)⟩
theorem ml_X7_57 : Cond.methodLink RX7 57 yX7_readNumber ∈ tg := tg_in 349 (by decide +kernel) (by decide +kernel)
theorem my_X7_readNumber : MY yX7_readNumber cX7_readNumber 3 (some .int) 0 := ⟨tg_in 352 (by decide +kernel) (by decide +kernel), tg_in 71 (by decide +kernel) (by decide +kernel), by decide, by decide, by decide +kernel⟩
theorem mv_X7_readNumber : MV1 yX7_readNumber := ⟨tg_in 351 (by decide +kernel) (by decide +kernel), tg_in 4 (by decide +kernel) (by decide +kernel)⟩
theorem ml_X7_100 : Cond.methodLink RX7 100 yX3_hasRoom ∈ tg := tg_in 383 (by decide +kernel) (by decide +kernel)
theorem ml_X7_90 : Cond.methodLink RX7 90 yX3_seat ∈ tg := tg_in 392 (by decide +kernel) (by decide +kernel)
theorem my_X3_seat : MY yX3_seat cX3_seat 3 none 2 := ⟨tg_in 395 (by decide +kernel) (by decide +kernel), tg_in 72 (by decide +kernel) (by decide +kernel), by decide, by decide, by decide +kernel⟩
theorem mv_X3_seat : MV1 yX3_seat := ⟨tg_in 393 (by decide +kernel) (by decide +kernel), tg_in 394 (by decide +kernel) (by decide +kernel)⟩
theorem ml_X7_82 : Cond.methodLink RX7 82 yX7_readRoom ∈ tg := tg_in 379 (by decide +kernel) (by decide +kernel)
theorem my_X7_readRoom : MY yX7_readRoom cX7_readRoom 3 (some .int) 1 := ⟨tg_in 382 (by decide +kernel) (by decide +kernel), tg_in 71 (by decide +kernel) (by decide +kernel), by decide, by decide, by decide +kernel⟩
theorem mv_X7_readRoom : MV1 yX7_readRoom := ⟨tg_in 381 (by decide +kernel) (by decide +kernel), tg_in 8 (by decide +kernel) (by decide +kernel)⟩
theorem ml_X7_86 : Cond.methodLink RX7 86 yX3_sitter ∈ tg := tg_in 387 (by decide +kernel) (by decide +kernel)
theorem ml_X7_97 : Cond.methodLink RX7 97 yX3_addLiking ∈ tg := tg_in 404 (by decide +kernel) (by decide +kernel)
theorem ml_X7_93 : Cond.methodLink RX7 93 yX3_likingPlace ∈ tg := tg_in 400 (by decide +kernel) (by decide +kernel)
theorem ml_X7_79 : Cond.methodLink RX7 79 yX7_readLiking ∈ tg := tg_in 396 (by decide +kernel) (by decide +kernel)
theorem my_X7_readLiking : MY yX7_readLiking cX7_readLiking 4 none 2 := ⟨tg_in 399 (by decide +kernel) (by decide +kernel), tg_in 71 (by decide +kernel) (by decide +kernel), by decide, by decide, by decide +kernel⟩
theorem mv_X7_readLiking : MV1 yX7_readLiking := ⟨tg_in 398 (by decide +kernel) (by decide +kernel), tg_in 9 (by decide +kernel) (by decide +kernel)⟩
theorem fl_X7_66 : FL RX7 66 3 1 := ⟨RX3, TX3, 6, rfl, in_X3, by decide, tg_in 133 (by decide +kernel) (by decide +kernel)⟩
theorem ml_X7_69 : Cond.methodLink RX7 69 yX7_checkWord ∈ tg := tg_in 363 (by decide +kernel) (by decide +kernel)
theorem my_X7_checkWord : MY yX7_checkWord cX7_checkWord 3 none 2 := ⟨tg_in 366 (by decide +kernel) (by decide +kernel), tg_in 71 (by decide +kernel) (by decide +kernel), by decide, by decide, by decide +kernel⟩
theorem mv_X7_checkWord : MV1 yX7_checkWord := ⟨tg_in 365 (by decide +kernel) (by decide +kernel), tg_in 6 (by decide +kernel) (by decide +kernel)⟩
theorem ml_X7_72 : Cond.methodLink RX7 72 yX3_addPerson ∈ tg := tg_in 367 (by decide +kernel) (by decide +kernel)
theorem my_X3_addPerson : MY yX3_addPerson cX3_addPerson 2 (some .int) 0 := ⟨tg_in 370 (by decide +kernel) (by decide +kernel), tg_in 72 (by decide +kernel) (by decide +kernel), by decide, by decide, by decide +kernel⟩
theorem mv_X3_addPerson : MV1 yX3_addPerson := ⟨tg_in 368 (by decide +kernel) (by decide +kernel), tg_in 369 (by decide +kernel) (by decide +kernel)⟩
theorem ml_X7_75 : Cond.methodLink RX7 75 yX7_readSeat ∈ tg := tg_in 375 (by decide +kernel) (by decide +kernel)
theorem my_X7_readSeat : MY yX7_readSeat cX7_readSeat 4 none 2 := ⟨tg_in 378 (by decide +kernel) (by decide +kernel), tg_in 71 (by decide +kernel) (by decide +kernel), by decide, by decide, by decide +kernel⟩
theorem mv_X7_readSeat : MV1 yX7_readSeat := ⟨tg_in 377 (by decide +kernel) (by decide +kernel), tg_in 7 (by decide +kernel) (by decide +kernel)⟩
theorem ml_X7_46 : Cond.methodLink RX7 46 yX7_readClause ∈ tg := tg_in 359 (by decide +kernel) (by decide +kernel)
theorem my_X7_readClause : MY yX7_readClause cX7_readClause 5 none 1 := ⟨tg_in 362 (by decide +kernel) (by decide +kernel), tg_in 71 (by decide +kernel) (by decide +kernel), by decide, by decide, by decide +kernel⟩
theorem mv_X7_readClause : MV1 yX7_readClause := ⟨tg_in 361 (by decide +kernel) (by decide +kernel), tg_in 5 (by decide +kernel) (by decide +kernel)⟩
theorem ml_X7_27 : Cond.methodLink RX7 27 yX3_clear ∈ tg := tg_in 329 (by decide +kernel) (by decide +kernel)
theorem my_X3_clear : MY yX3_clear cX3_clear 1 none 0 := ⟨tg_in 332 (by decide +kernel) (by decide +kernel), tg_in 72 (by decide +kernel) (by decide +kernel), by decide, by decide, by decide +kernel⟩
theorem mv_X3_clear : MV1 yX3_clear := ⟨tg_in 330 (by decide +kernel) (by decide +kernel), tg_in 331 (by decide +kernel) (by decide +kernel)⟩
theorem ml_X7_42 : Cond.methodLink RX7 42 yX7_readRooms ∈ tg := tg_in 337 (by decide +kernel) (by decide +kernel)
theorem my_X7_readRooms : MY yX7_readRooms cX7_readRooms 3 none 1 := ⟨tg_in 340 (by decide +kernel) (by decide +kernel), tg_in 71 (by decide +kernel) (by decide +kernel), by decide, by decide, by decide +kernel⟩
theorem mv_X7_readRooms : MV1 yX7_readRooms := ⟨tg_in 339 (by decide +kernel) (by decide +kernel), tg_in 1 (by decide +kernel) (by decide +kernel)⟩
theorem ml_X8_1 : Cond.methodLink RX8 1 objectInit ∈ tg := tg_in 88 (by decide +kernel) (by decide +kernel)
theorem nw_X8_7 : NW RX8 7 7 6 [.inl 0, .inl 0, .inl 0, .inl 0, .inl 0, .inr none] := ⟨RX7, TX7, tyX7, rfl, in_X7, tyX7_ok, tg_in 91 (by decide +kernel) (by decide +kernel), tg_in 92 (by decide +kernel) (by decide +kernel), tg_in 71 (by decide +kernel) (by decide +kernel), fun b => lt_s (lt_s (lt_s (lt_s (lt_s (lt_s (lt_0) rfl) rfl) rfl) rfl) rfl) rfl⟩
theorem nl_X8_9 : (RX8, 9, yX7_init, "RoomRings") ∈ nwL := List.mem_of_getElem? (i := 0) (by decide +kernel)
theorem my_X7_init : MY yX7_init cX7_init 1 none 0 := ⟨tg_in 95 (by decide +kernel) (by decide +kernel), tg_in 71 (by decide +kernel) (by decide +kernel), by decide, by decide, by decide +kernel⟩
theorem mi_X7_init : Cond.instanceMethod yX7_init ∈ tg := tg_in 94 (by decide +kernel) (by decide +kernel)
theorem in_X8 : ∀ w ∈ u_ws RX8 TX8 9, w ∈ tg := us_in (lt_s (lt_s (lt_s (lt_s (lt_s (lt_s (lt_s (lt_s (lt_s (lt_0) (tg_in 289 (by decide +kernel) (by decide +kernel))) (tg_in 291 (by decide +kernel) (by decide +kernel))) (tg_in 293 (by decide +kernel) (by decide +kernel))) (tg_in 295 (by decide +kernel) (by decide +kernel))) (tg_in 297 (by decide +kernel) (by decide +kernel))) (tg_in 299 (by decide +kernel) (by decide +kernel))) (tg_in 301 (by decide +kernel) (by decide +kernel))) (tg_in 303 (by decide +kernel) (by decide +kernel))) (tg_in 305 (by decide +kernel) (by decide +kernel)))
theorem fp_X8_10 : FP RX8 10 8 0 true (.object "RoomRings$Text") := ⟨RX8, TX8, 9, tyX8, rfl, in_X8, by decide, tg_in 280 (by decide +kernel) (by decide +kernel), tyX8_ok, nmX8, rfl, (fun _ => rfl), by decide +kernel⟩
theorem nw_X8_16 : NW RX8 16 3 6 [.inl 0, .inl 0, .inr none, .inr none, .inr none, .inr none] := ⟨RX3, TX3, tyX3, rfl, in_X3, tyX3_ok, tg_in 119 (by decide +kernel) (by decide +kernel), tg_in 120 (by decide +kernel) (by decide +kernel), tg_in 72 (by decide +kernel) (by decide +kernel), fun b => lt_s (lt_s (lt_s (lt_s (lt_s (lt_s (lt_0) rfl) rfl) rfl) rfl) rfl) rfl⟩
theorem nl_X8_18 : (RX8, 18, yX3_init, "RoomRings") ∈ nwL := List.mem_of_getElem? (i := 1) (by decide +kernel)
theorem fp_X8_19 : FP RX8 19 8 1 true (.object "RoomRings$House") := ⟨RX8, TX8, 9, tyX8, rfl, in_X8, by decide, tg_in 281 (by decide +kernel) (by decide +kernel), tyX8_ok, nmX8, rfl, (fun _ => rfl), by decide +kernel⟩
theorem fp_X8_23 : FP RX8 23 8 2 true (.object "RoomRings$House") := ⟨RX8, TX8, 9, tyX8, rfl, in_X8, by decide, tg_in 282 (by decide +kernel) (by decide +kernel), tyX8_ok, nmX8, rfl, (fun _ => rfl), by decide +kernel⟩
theorem nw_X8_26 : NW RX8 26 1 8 [.inl 0, .inl 0, .inl 0, .inr none, .inr none, .inr none, .inr none, .inr none] := ⟨RX1, TX1, tyX1, rfl, in_X1, tyX1_ok, tg_in 152 (by decide +kernel) (by decide +kernel), tg_in 153 (by decide +kernel) (by decide +kernel), tg_in 73 (by decide +kernel) (by decide +kernel), fun b => lt_s (lt_s (lt_s (lt_s (lt_s (lt_s (lt_s (lt_s (lt_0) rfl) rfl) rfl) rfl) rfl) rfl) rfl) rfl⟩
theorem nl_X8_28 : (RX8, 28, yX1_init, "RoomRings") ∈ nwL := List.mem_of_getElem? (i := 2) (by decide +kernel)
theorem my_X1_init : MY yX1_init cX1_init 1 none 0 := ⟨tg_in 156 (by decide +kernel) (by decide +kernel), tg_in 73 (by decide +kernel) (by decide +kernel), by decide, by decide, by decide +kernel⟩
theorem mi_X1_init : Cond.instanceMethod yX1_init ∈ tg := tg_in 155 (by decide +kernel) (by decide +kernel)
theorem fp_X8_29 : FP RX8 29 8 3 true (.object "RoomRings$Dealing") := ⟨RX8, TX8, 9, tyX8, rfl, in_X8, by decide, tg_in 283 (by decide +kernel) (by decide +kernel), tyX8_ok, nmX8, rfl, (fun _ => rfl), by decide +kernel⟩
theorem nw_X8_33 : NW RX8 33 0 3 [.inl 0, .inl 0, .inr none] := ⟨RX0, TX0, tyX0, rfl, in_X0, tyX0_ok, tg_in 185 (by decide +kernel) (by decide +kernel), tg_in 186 (by decide +kernel) (by decide +kernel), tg_in 74 (by decide +kernel) (by decide +kernel), fun b => lt_s (lt_s (lt_s (lt_0) rfl) rfl) rfl⟩
theorem nl_X8_35 : (RX8, 35, yX0_init, "RoomRings") ∈ nwL := List.mem_of_getElem? (i := 3) (by decide +kernel)
theorem my_X0_init : MY yX0_init cX0_init 1 none 0 := ⟨tg_in 189 (by decide +kernel) (by decide +kernel), tg_in 74 (by decide +kernel) (by decide +kernel), by decide, by decide, by decide +kernel⟩
theorem mi_X0_init : Cond.instanceMethod yX0_init ∈ tg := tg_in 188 (by decide +kernel) (by decide +kernel)
theorem fp_X8_36 : FP RX8 36 8 4 true (.object "RoomRings$Bartering") := ⟨RX8, TX8, 9, tyX8, rfl, in_X8, by decide, tg_in 284 (by decide +kernel) (by decide +kernel), tyX8_ok, nmX8, rfl, (fun _ => rfl), by decide +kernel⟩
theorem nw_X8_40 : NW RX8 40 6 2 [.inl 0, .inr none] := ⟨RX6, TX6, tyX6, rfl, in_X6, tyX6_ok, tg_in 203 (by decide +kernel) (by decide +kernel), tg_in 204 (by decide +kernel) (by decide +kernel), tg_in 75 (by decide +kernel) (by decide +kernel), fun b => lt_s (lt_s (lt_0) rfl) rfl⟩
theorem ml_X8_42 : Cond.methodLink RX8 42 yX6_init ∈ tg := tg_in 205 (by decide +kernel) (by decide +kernel)
theorem my_X6_init : MY yX6_init cX6_init 2 none 0 := ⟨tg_in 207 (by decide +kernel) (by decide +kernel), tg_in 75 (by decide +kernel) (by decide +kernel), by decide, by decide, by decide +kernel⟩
theorem mi_X6_init : Cond.instanceMethod yX6_init ∈ tg := tg_in 206 (by decide +kernel) (by decide +kernel)
theorem fp_X8_43 : FP RX8 43 8 5 true (.object "RoomRings$Past") := ⟨RX8, TX8, 9, tyX8, rfl, in_X8, by decide, tg_in 285 (by decide +kernel) (by decide +kernel), tyX8_ok, nmX8, rfl, (fun _ => rfl), by decide +kernel⟩
theorem nw_X8_47 : NW RX8 47 5 6 [.inl 0, .inl 0, .inr none, .inr none, .inr none, .inr none] := ⟨RX5, TX5, tyX5, rfl, in_X5, tyX5_ok, tg_in 220 (by decide +kernel) (by decide +kernel), tg_in 221 (by decide +kernel) (by decide +kernel), tg_in 76 (by decide +kernel) (by decide +kernel), fun b => lt_s (lt_s (lt_s (lt_s (lt_s (lt_s (lt_0) rfl) rfl) rfl) rfl) rfl) rfl⟩
theorem nl_X8_49 : (RX8, 49, yX5_init, "RoomRings") ∈ nwL := List.mem_of_getElem? (i := 5) (by decide +kernel)
theorem my_X5_init : MY yX5_init cX5_init 1 none 0 := ⟨tg_in 224 (by decide +kernel) (by decide +kernel), tg_in 76 (by decide +kernel) (by decide +kernel), by decide, by decide, by decide +kernel⟩
theorem mi_X5_init : Cond.instanceMethod yX5_init ∈ tg := tg_in 223 (by decide +kernel) (by decide +kernel)
theorem fp_X8_50 : FP RX8 50 8 6 true (.object "RoomRings$Notebook") := ⟨RX8, TX8, 9, tyX8, rfl, in_X8, by decide, tg_in 286 (by decide +kernel) (by decide +kernel), tyX8_ok, nmX8, rfl, (fun _ => rfl), by decide +kernel⟩
theorem nw_X8_54 : NW RX8 54 2 1 [.inl 0] := ⟨RX2, TX2, tyX2, rfl, in_X2, tyX2_ok, tg_in 247 (by decide +kernel) (by decide +kernel), tg_in 248 (by decide +kernel) (by decide +kernel), tg_in 77 (by decide +kernel) (by decide +kernel), fun b => lt_s (lt_0) rfl⟩
theorem nl_X8_56 : (RX8, 56, yX2_init, "RoomRings") ∈ nwL := List.mem_of_getElem? (i := 6) (by decide +kernel)
theorem my_X2_init : MY yX2_init cX2_init 1 none 0 := ⟨tg_in 251 (by decide +kernel) (by decide +kernel), tg_in 77 (by decide +kernel) (by decide +kernel), by decide, by decide, by decide +kernel⟩
theorem mi_X2_init : Cond.instanceMethod yX2_init ∈ tg := tg_in 250 (by decide +kernel) (by decide +kernel)
theorem fp_X8_57 : FP RX8 57 8 7 true (.object "RoomRings$Dice") := ⟨RX8, TX8, 9, tyX8, rfl, in_X8, by decide, tg_in 287 (by decide +kernel) (by decide +kernel), tyX8_ok, nmX8, rfl, (fun _ => rfl), by decide +kernel⟩
theorem kl_X8_61 : Cond.classLink RX8 61 RX4 ∈ tg := tg_in 258 (by decide +kernel) (by decide +kernel)
theorem fp_X8_63 : FP RX8 63 8 8 true (.array (.object "RoomRings$Image")) := ⟨RX8, TX8, 9, tyX8, rfl, in_X8, by decide, tg_in 288 (by decide +kernel) (by decide +kernel), tyX8_ok, nmX8, rfl, (fun _ => rfl), by decide +kernel⟩
theorem fl_X8_63 : FL RX8 63 8 8 := ⟨RX8, TX8, 9, rfl, in_X8, by decide, tg_in 288 (by decide +kernel) (by decide +kernel)⟩
theorem nw_X8_61 : NW RX8 61 4 3 [.inl 0, .inl 0, .inr none] := ⟨RX4, TX4, tyX4, rfl, in_X4, tyX4_ok, tg_in 258 (by decide +kernel) (by decide +kernel), tg_in 260 (by decide +kernel) (by decide +kernel), tg_in 78 (by decide +kernel) (by decide +kernel), fun b => lt_s (lt_s (lt_s (lt_0) rfl) rfl) rfl⟩
theorem nl_X8_67 : (RX8, 67, yX4_init, "RoomRings") ∈ nwL := List.mem_of_getElem? (i := 7) (by decide +kernel)
theorem my_X4_init : MY yX4_init cX4_init 1 none 0 := ⟨tg_in 263 (by decide +kernel) (by decide +kernel), tg_in 78 (by decide +kernel) (by decide +kernel), by decide, by decide, by decide +kernel⟩
theorem mi_X4_init : Cond.instanceMethod yX4_init ∈ tg := tg_in 262 (by decide +kernel) (by decide +kernel)
theorem cn_X8_68 : Cond.constant RX8 68 (-1000000002) ∈ tg := tg_in 312 (by decide +kernel) (by decide +kernel)
theorem fl_X8_10 : FL RX8 10 8 0 := ⟨RX8, TX8, 9, rfl, in_X8, by decide, tg_in 280 (by decide +kernel) (by decide +kernel)⟩
theorem ml_X8_69 : Cond.methodLink RX8 69 yX7_add ∈ tg := tg_in 313 (by decide +kernel) (by decide +kernel)
theorem my_X7_add : MY yX7_add cX7_add 2 (some .int) 1 := ⟨tg_in 316 (by decide +kernel) (by decide +kernel), tg_in 71 (by decide +kernel) (by decide +kernel), by decide, by decide, by decide +kernel⟩
theorem mv_X7_add : MV1 yX7_add := ⟨tg_in 314 (by decide +kernel) (by decide +kernel), tg_in 315 (by decide +kernel) (by decide +kernel)⟩
theorem fl_X8_19 : FL RX8 19 8 1 := ⟨RX8, TX8, 9, rfl, in_X8, by decide, tg_in 281 (by decide +kernel) (by decide +kernel)⟩
theorem fl_X8_90 : FL RX8 90 3 1 := ⟨RX3, TX3, 6, rfl, in_X3, by decide, tg_in 132 (by decide +kernel) (by decide +kernel)⟩
theorem ml_X8_87 : Cond.methodLink RX8 87 yX4_drop ∈ tg := tg_in 423 (by decide +kernel) (by decide +kernel)
theorem my_X4_drop : MY yX4_drop cX4_drop 1 none 0 := ⟨tg_in 426 (by decide +kernel) (by decide +kernel), tg_in 78 (by decide +kernel) (by decide +kernel), by decide, by decide, by decide +kernel⟩
theorem mv_X4_drop : MV1 yX4_drop := ⟨tg_in 424 (by decide +kernel) (by decide +kernel), tg_in 425 (by decide +kernel) (by decide +kernel)⟩
theorem fl_X8_23 : FL RX8 23 8 2 := ⟨RX8, TX8, 9, rfl, in_X8, by decide, tg_in 282 (by decide +kernel) (by decide +kernel)⟩
theorem ml_X8_73 : Cond.methodLink RX8 73 yX7_readInto ∈ tg := tg_in 325 (by decide +kernel) (by decide +kernel)
theorem my_X7_readInto : MY yX7_readInto cX7_readInto 3 (some .int) 1 := ⟨tg_in 328 (by decide +kernel) (by decide +kernel), tg_in 71 (by decide +kernel) (by decide +kernel), by decide, by decide, by decide +kernel⟩
theorem mv_X7_readInto : MV1 yX7_readInto := ⟨tg_in 326 (by decide +kernel) (by decide +kernel), tg_in 327 (by decide +kernel) (by decide +kernel)⟩
theorem ml_X8_77 : Cond.methodLink RX8 77 yX3_copy ∈ tg := tg_in 408 (by decide +kernel) (by decide +kernel)
theorem fl_X8_43 : FL RX8 43 8 5 := ⟨RX8, TX8, 9, rfl, in_X8, by decide, tg_in 285 (by decide +kernel) (by decide +kernel)⟩
theorem ml_X8_81 : Cond.methodLink RX8 81 yX6_forget ∈ tg := tg_in 415 (by decide +kernel) (by decide +kernel)
theorem my_X6_forget : MY yX6_forget cX6_forget 1 none 0 := ⟨tg_in 418 (by decide +kernel) (by decide +kernel), tg_in 75 (by decide +kernel) (by decide +kernel), by decide, by decide, by decide +kernel⟩
theorem mv_X6_forget : MV1 yX6_forget := ⟨tg_in 416 (by decide +kernel) (by decide +kernel), tg_in 417 (by decide +kernel) (by decide +kernel)⟩
theorem fl_X8_50 : FL RX8 50 8 6 := ⟨RX8, TX8, 9, rfl, in_X8, by decide, tg_in 286 (by decide +kernel) (by decide +kernel)⟩
theorem ml_X8_84 : Cond.methodLink RX8 84 yX5_clear ∈ tg := tg_in 419 (by decide +kernel) (by decide +kernel)
theorem my_X5_clear : MY yX5_clear cX5_clear 1 none 0 := ⟨tg_in 422 (by decide +kernel) (by decide +kernel), tg_in 76 (by decide +kernel) (by decide +kernel), by decide, by decide, by decide +kernel⟩
theorem mv_X5_clear : MV1 yX5_clear := ⟨tg_in 420 (by decide +kernel) (by decide +kernel), tg_in 421 (by decide +kernel) (by decide +kernel)⟩
theorem fl_X8_94 : FL RX8 94 7 1 := ⟨RX7, TX7, 6, rfl, in_X7, by decide, tg_in 100 (by decide +kernel) (by decide +kernel)⟩
theorem fl_X8_29 : FL RX8 29 8 3 := ⟨RX8, TX8, 9, rfl, in_X8, by decide, tg_in 283 (by decide +kernel) (by decide +kernel)⟩
theorem ml_X8_225 : Cond.methodLink RX8 225 yX1_deal ∈ tg := tg_in 439 (by decide +kernel) (by decide +kernel)
theorem my_X1_deal : MY yX1_deal cX1_deal 3 none 1 := ⟨tg_in 442 (by decide +kernel) (by decide +kernel), tg_in 73 (by decide +kernel) (by decide +kernel), by decide, by decide, by decide +kernel⟩
theorem mv_X1_deal : MV1 yX1_deal := ⟨tg_in 440 (by decide +kernel) (by decide +kernel), tg_in 441 (by decide +kernel) (by decide +kernel)⟩
theorem fl_X8_36 : FL RX8 36 8 4 := ⟨RX8, TX8, 9, rfl, in_X8, by decide, tg_in 284 (by decide +kernel) (by decide +kernel)⟩
theorem ml_X8_282 : Cond.methodLink RX8 282 yX0_weigh ∈ tg := tg_in 505 (by decide +kernel) (by decide +kernel)
theorem my_X0_weigh : MY yX0_weigh cX0_weigh 4 none 1 := ⟨tg_in 508 (by decide +kernel) (by decide +kernel), tg_in 74 (by decide +kernel) (by decide +kernel), by decide, by decide, by decide +kernel⟩
theorem mv_X0_weigh : MV1 yX0_weigh := ⟨tg_in 506 (by decide +kernel) (by decide +kernel), tg_in 507 (by decide +kernel) (by decide +kernel)⟩
theorem fl_X8_97 : FL RX8 97 3 0 := ⟨RX3, TX3, 6, rfl, in_X3, by decide, tg_in 127 (by decide +kernel) (by decide +kernel)⟩
theorem fl_X8_100 : FL RX8 100 7 0 := ⟨RX7, TX7, 6, rfl, in_X7, by decide, tg_in 98 (by decide +kernel) (by decide +kernel)⟩
theorem ml_X8_103 : Cond.methodLink RX8 103 yX8_dealt ∈ tg := tg_in 435 (by decide +kernel) (by decide +kernel)
theorem my_X8_dealt : MY yX8_dealt cX8_dealt 1 (some (.object "RoomRings$Dealing")) 0 := ⟨tg_in 438 (by decide +kernel) (by decide +kernel), tg_in 70 (by decide +kernel) (by decide +kernel), by decide, by decide, by decide +kernel⟩
theorem mv_X8_dealt : MV1 yX8_dealt := ⟨tg_in 437 (by decide +kernel) (by decide +kernel), tg_in 10 (by decide +kernel) (by decide +kernel)⟩
theorem fl_X8_107 : FL RX8 107 1 0 := ⟨RX1, TX1, 8, rfl, in_X1, by decide, tg_in 159 (by decide +kernel) (by decide +kernel)⟩
theorem ml_X8_110 : Cond.methodLink RX8 110 yX1_emptyHanded ∈ tg := tg_in 487 (by decide +kernel) (by decide +kernel)
theorem my_X1_emptyHanded : MY yX1_emptyHanded cX1_emptyHanded 4 (some .int) 1 := ⟨tg_in 490 (by decide +kernel) (by decide +kernel), tg_in 73 (by decide +kernel) (by decide +kernel), by decide, by decide, by decide +kernel⟩
theorem mv_X1_emptyHanded : MV1 yX1_emptyHanded := ⟨tg_in 488 (by decide +kernel) (by decide +kernel), tg_in 489 (by decide +kernel) (by decide +kernel)⟩
theorem fl_X8_113 : FL RX8 113 1 1 := ⟨RX1, TX1, 8, rfl, in_X1, by decide, tg_in 161 (by decide +kernel) (by decide +kernel)⟩
theorem ml_X8_116 : Cond.methodLink RX8 116 yX3_emptyRooms ∈ tg := tg_in 491 (by decide +kernel) (by decide +kernel)
theorem my_X3_emptyRooms : MY yX3_emptyRooms cX3_emptyRooms 1 (some .int) 0 := ⟨tg_in 494 (by decide +kernel) (by decide +kernel), tg_in 72 (by decide +kernel) (by decide +kernel), by decide, by decide, by decide +kernel⟩
theorem mv_X3_emptyRooms : MV1 yX3_emptyRooms := ⟨tg_in 492 (by decide +kernel) (by decide +kernel), tg_in 493 (by decide +kernel) (by decide +kernel)⟩
theorem ml_X8_120 : Cond.methodLink RX8 120 yX8_weighed ∈ tg := tg_in 501 (by decide +kernel) (by decide +kernel)
theorem my_X8_weighed : MY yX8_weighed cX8_weighed 1 (some (.object "RoomRings$Bartering")) 0 := ⟨tg_in 504 (by decide +kernel) (by decide +kernel), tg_in 70 (by decide +kernel) (by decide +kernel), by decide, by decide, by decide +kernel⟩
theorem mv_X8_weighed : MV1 yX8_weighed := ⟨tg_in 503 (by decide +kernel) (by decide +kernel), tg_in 16 (by decide +kernel) (by decide +kernel)⟩
theorem fl_X8_124 : FL RX8 124 0 0 := ⟨RX0, TX0, 3, rfl, in_X0, by decide, tg_in 192 (by decide +kernel) (by decide +kernel)⟩
theorem fl_X8_127 : FL RX8 127 0 1 := ⟨RX0, TX0, 3, rfl, in_X0, by decide, tg_in 194 (by decide +kernel) (by decide +kernel)⟩
theorem fl_X8_130 : FL RX8 130 5 0 := ⟨RX5, TX5, 6, rfl, in_X5, by decide, tg_in 227 (by decide +kernel) (by decide +kernel)⟩
theorem fl_X8_133 : FL RX8 133 5 1 := ⟨RX5, TX5, 6, rfl, in_X5, by decide, tg_in 229 (by decide +kernel) (by decide +kernel)⟩
theorem fl_X8_136 : FL RX8 136 6 0 := ⟨RX6, TX6, 2, rfl, in_X6, by decide, tg_in 213 (by decide +kernel) (by decide +kernel)⟩
theorem fl_X8_291 : FL RX8 291 3 5 := ⟨RX3, TX3, 6, rfl, in_X3, by decide, tg_in 138 (by decide +kernel) (by decide +kernel)⟩
theorem ml_X8_295 : Cond.methodLink RX8 295 yX8_at ∈ tg := tg_in 571 (by decide +kernel) (by decide +kernel)
theorem ml_X8_299 : Cond.methodLink RX8 299 yX8_without ∈ tg := tg_in 572 (by decide +kernel) (by decide +kernel)
theorem ml_X8_302 : Cond.methodLink RX8 302 yX3_seatsOf ∈ tg := tg_in 573 (by decide +kernel) (by decide +kernel)
theorem ml_X8_305 : Cond.methodLink RX8 305 yX3_best ∈ tg := tg_in 574 (by decide +kernel) (by decide +kernel)
theorem ml_X8_288 : Cond.methodLink RX8 288 yX8_firstOnes ∈ tg := tg_in 570 (by decide +kernel) (by decide +kernel)
theorem ml_X8_139 : Cond.methodLink RX8 139 yX3_hasPerson ∈ tg := tg_in 540 (by decide +kernel) (by decide +kernel)
theorem my_X3_hasPerson : MY yX3_hasPerson cX3_hasPerson 2 (some .boolean) 1 := ⟨tg_in 543 (by decide +kernel) (by decide +kernel), tg_in 72 (by decide +kernel) (by decide +kernel), by decide, by decide, by decide +kernel⟩
theorem mv_X3_hasPerson : MV1 yX3_hasPerson := ⟨tg_in 541 (by decide +kernel) (by decide +kernel), tg_in 542 (by decide +kernel) (by decide +kernel)⟩
theorem cn_X8_143 : Cond.constant RX8 143 (-1000000001) ∈ tg := tg_in 544 (by decide +kernel) (by decide +kernel)
theorem ml_X8_144 : Cond.methodLink RX8 144 yX3_seatOf ∈ tg := tg_in 545 (by decide +kernel) (by decide +kernel)
theorem ml_X8_147 : Cond.methodLink RX8 147 yX3_amount ∈ tg := tg_in 546 (by decide +kernel) (by decide +kernel)
theorem my_X3_amount : MY yX3_amount cX3_amount 2 (some .int) 1 := ⟨tg_in 549 (by decide +kernel) (by decide +kernel), tg_in 72 (by decide +kernel) (by decide +kernel), by decide, by decide, by decide +kernel⟩
theorem mv_X3_amount : MV1 yX3_amount := ⟨tg_in 547 (by decide +kernel) (by decide +kernel), tg_in 548 (by decide +kernel) (by decide +kernel)⟩
theorem ml_X8_150 : Cond.methodLink RX8 150 yX3_placeOf ∈ tg := tg_in 550 (by decide +kernel) (by decide +kernel)
theorem ml_X8_153 : Cond.methodLink RX8 153 yX1_roomOf ∈ tg := tg_in 554 (by decide +kernel) (by decide +kernel)
theorem ml_X8_156 : Cond.methodLink RX8 156 yX1_roundOf ∈ tg := tg_in 558 (by decide +kernel) (by decide +kernel)
theorem my_X1_roundOf : MY yX1_roundOf cX1_roundOf 2 (some .int) 1 := ⟨tg_in 561 (by decide +kernel) (by decide +kernel), tg_in 73 (by decide +kernel) (by decide +kernel), by decide, by decide, by decide +kernel⟩
theorem mv_X1_roundOf : MV1 yX1_roundOf := ⟨tg_in 559 (by decide +kernel) (by decide +kernel), tg_in 560 (by decide +kernel) (by decide +kernel)⟩
theorem ml_X8_159 : Cond.methodLink RX8 159 yX1_ringOf ∈ tg := tg_in 562 (by decide +kernel) (by decide +kernel)
theorem my_X1_ringOf : MY yX1_ringOf cX1_ringOf 2 (some .int) 1 := ⟨tg_in 565 (by decide +kernel) (by decide +kernel), tg_in 73 (by decide +kernel) (by decide +kernel), by decide, by decide, by decide +kernel⟩
theorem mv_X1_ringOf : MV1 yX1_ringOf := ⟨tg_in 563 (by decide +kernel) (by decide +kernel), tg_in 564 (by decide +kernel) (by decide +kernel)⟩
theorem ml_X8_162 : Cond.methodLink RX8 162 yX8_chosenByLot ∈ tg := tg_in 566 (by decide +kernel) (by decide +kernel)
theorem my_X8_chosenByLot : MY yX8_chosenByLot cX8_chosenByLot 7 (some .int) 1 := ⟨tg_in 569 (by decide +kernel) (by decide +kernel), tg_in 70 (by decide +kernel) (by decide +kernel), by decide, by decide, by decide +kernel⟩
theorem mv_X8_chosenByLot : MV1 yX8_chosenByLot := ⟨tg_in 568 (by decide +kernel) (by decide +kernel), tg_in 19 (by decide +kernel) (by decide +kernel)⟩
theorem ml_X8_165 : Cond.methodLink RX8 165 yX3_rank ∈ tg := tg_in 575 (by decide +kernel) (by decide +kernel)
theorem ml_X8_169 : Cond.methodLink RX8 169 yX3_liking ∈ tg := tg_in 580 (by decide +kernel) (by decide +kernel)
theorem my_X3_liking : MY yX3_liking cX3_liking 3 (some .int) 2 := ⟨tg_in 583 (by decide +kernel) (by decide +kernel), tg_in 72 (by decide +kernel) (by decide +kernel), by decide, by decide, by decide +kernel⟩
theorem mv_X3_liking : MV1 yX3_liking := ⟨tg_in 581 (by decide +kernel) (by decide +kernel), tg_in 582 (by decide +kernel) (by decide +kernel)⟩
theorem ml_X8_172 : Cond.methodLink RX8 172 yX3_hasRoom ∈ tg := tg_in 588 (by decide +kernel) (by decide +kernel)
theorem ml_X8_175 : Cond.methodLink RX8 175 yX3_sitter ∈ tg := tg_in 589 (by decide +kernel) (by decide +kernel)
theorem ml_X8_178 : Cond.methodLink RX8 178 yX1_winner ∈ tg := tg_in 590 (by decide +kernel) (by decide +kernel)
theorem my_X1_winner : MY yX1_winner cX1_winner 4 (some .int) 2 := ⟨tg_in 593 (by decide +kernel) (by decide +kernel), tg_in 73 (by decide +kernel) (by decide +kernel), by decide, by decide, by decide +kernel⟩
theorem mv_X1_winner : MV1 yX1_winner := ⟨tg_in 591 (by decide +kernel) (by decide +kernel), tg_in 592 (by decide +kernel) (by decide +kernel)⟩
theorem ml_X8_182 : Cond.methodLink RX8 182 yX6_push ∈ tg := tg_in 598 (by decide +kernel) (by decide +kernel)
theorem my_X6_push : MY yX6_push cX6_push 3 none 1 := ⟨tg_in 601 (by decide +kernel) (by decide +kernel), tg_in 75 (by decide +kernel) (by decide +kernel), by decide, by decide, by decide +kernel⟩
theorem mv_X6_push : MV1 yX6_push := ⟨tg_in 599 (by decide +kernel) (by decide +kernel), tg_in 600 (by decide +kernel) (by decide +kernel)⟩
theorem ml_X8_185 : Cond.methodLink RX8 185 yX3_putLiking ∈ tg := tg_in 607 (by decide +kernel) (by decide +kernel)
theorem my_X3_putLiking : MY yX3_putLiking cX3_putLiking 8 none 3 := ⟨tg_in 610 (by decide +kernel) (by decide +kernel), tg_in 72 (by decide +kernel) (by decide +kernel), by decide, by decide, by decide +kernel⟩
theorem mv_X3_putLiking : MV1 yX3_putLiking := ⟨tg_in 608 (by decide +kernel) (by decide +kernel), tg_in 609 (by decide +kernel) (by decide +kernel)⟩
theorem ml_X8_189 : Cond.methodLink RX8 189 yX3_likingPlace ∈ tg := tg_in 621 (by decide +kernel) (by decide +kernel)
theorem cn_X8_192 : Cond.constant RX8 192 (-1000000003) ∈ tg := tg_in 622 (by decide +kernel) (by decide +kernel)
theorem ml_X8_193 : Cond.methodLink RX8 193 yX3_dropLiking ∈ tg := tg_in 623 (by decide +kernel) (by decide +kernel)
theorem ml_X8_197 : Cond.methodLink RX8 197 yX3_toPlace ∈ tg := tg_in 628 (by decide +kernel) (by decide +kernel)
theorem my_X3_toPlace : MY yX3_toPlace cX3_toPlace 5 none 2 := ⟨tg_in 631 (by decide +kernel) (by decide +kernel), tg_in 72 (by decide +kernel) (by decide +kernel), by decide, by decide, by decide +kernel⟩
theorem mv_X3_toPlace : MV1 yX3_toPlace := ⟨tg_in 629 (by decide +kernel) (by decide +kernel), tg_in 630 (by decide +kernel) (by decide +kernel)⟩
theorem ml_X8_203 : Cond.methodLink RX8 203 yX3_seat ∈ tg := tg_in 645 (by decide +kernel) (by decide +kernel)
theorem ml_X8_200 : Cond.methodLink RX8 200 yX8_moveAll ∈ tg := tg_in 641 (by decide +kernel) (by decide +kernel)
theorem my_X8_moveAll : MY yX8_moveAll cX8_moveAll 4 (some .int) 0 := ⟨tg_in 644 (by decide +kernel) (by decide +kernel), tg_in 70 (by decide +kernel) (by decide +kernel), by decide, by decide, by decide +kernel⟩
theorem mv_X8_moveAll : MV1 yX8_moveAll := ⟨tg_in 643 (by decide +kernel) (by decide +kernel), tg_in 21 (by decide +kernel) (by decide +kernel)⟩
theorem fl_X8_57 : FL RX8 57 8 7 := ⟨RX8, TX8, 9, rfl, in_X8, by decide, tg_in 287 (by decide +kernel) (by decide +kernel)⟩
theorem ml_X8_285 : Cond.methodLink RX8 285 yX2_draw ∈ tg := tg_in 658 (by decide +kernel) (by decide +kernel)
theorem my_X2_draw : MY yX2_draw cX2_draw 2 (some .int) 1 := ⟨tg_in 661 (by decide +kernel) (by decide +kernel), tg_in 77 (by decide +kernel) (by decide +kernel), by decide, by decide, by decide +kernel⟩
theorem mv_X2_draw : MV1 yX2_draw := ⟨tg_in 659 (by decide +kernel) (by decide +kernel), tg_in 660 (by decide +kernel) (by decide +kernel)⟩
theorem ml_X8_209 : Cond.methodLink RX8 209 yJ6_bitCount_0f7a4 ∈ tg := tg_in 666 (by decide +kernel) (by decide +kernel)
theorem ml_X8_206 : Cond.methodLink RX8 206 yX8_drawDeed ∈ tg := tg_in 654 (by decide +kernel) (by decide +kernel)
theorem my_X8_drawDeed : MY yX8_drawDeed cX8_drawDeed 4 none 0 := ⟨tg_in 657 (by decide +kernel) (by decide +kernel), tg_in 70 (by decide +kernel) (by decide +kernel), by decide, by decide, by decide +kernel⟩
theorem mv_X8_drawDeed : MV1 yX8_drawDeed := ⟨tg_in 656 (by decide +kernel) (by decide +kernel), tg_in 22 (by decide +kernel) (by decide +kernel)⟩
theorem ml_X8_214 : Cond.methodLink RX8 214 yX6_pop ∈ tg := tg_in 671 (by decide +kernel) (by decide +kernel)
theorem my_X6_pop : MY yX6_pop cX6_pop 5 none 2 := ⟨tg_in 674 (by decide +kernel) (by decide +kernel), tg_in 75 (by decide +kernel) (by decide +kernel), by decide, by decide, by decide +kernel⟩
theorem mv_X6_pop : MV1 yX6_pop := ⟨tg_in 672 (by decide +kernel) (by decide +kernel), tg_in 673 (by decide +kernel) (by decide +kernel)⟩
theorem ml_X8_218 : Cond.methodLink RX8 218 yX3_clearLikings ∈ tg := tg_in 679 (by decide +kernel) (by decide +kernel)
theorem my_X3_clearLikings : MY yX3_clearLikings cX3_clearLikings 2 none 1 := ⟨tg_in 682 (by decide +kernel) (by decide +kernel), tg_in 72 (by decide +kernel) (by decide +kernel), by decide, by decide, by decide +kernel⟩
theorem mv_X3_clearLikings : MV1 yX3_clearLikings := ⟨tg_in 680 (by decide +kernel) (by decide +kernel), tg_in 681 (by decide +kernel) (by decide +kernel)⟩
theorem ml_X8_222 : Cond.methodLink RX8 222 yX3_addLiking ∈ tg := tg_in 683 (by decide +kernel) (by decide +kernel)
theorem ml_X8_234 : Cond.methodLink RX8 234 yX3_orderBy ∈ tg := tg_in 697 (by decide +kernel) (by decide +kernel)
theorem my_X3_orderBy : MY yX3_orderBy cX3_orderBy 7 none 1 := ⟨tg_in 700 (by decide +kernel) (by decide +kernel), tg_in 72 (by decide +kernel) (by decide +kernel), by decide, by decide, by decide +kernel⟩
theorem mv_X3_orderBy : MV1 yX3_orderBy := ⟨tg_in 698 (by decide +kernel) (by decide +kernel), tg_in 699 (by decide +kernel) (by decide +kernel)⟩
theorem ml_X8_228 : Cond.methodLink RX8 228 yX3_hasRoomOrNone ∈ tg := tg_in 688 (by decide +kernel) (by decide +kernel)
theorem my_X3_hasRoomOrNone : MY yX3_hasRoomOrNone cX3_hasRoomOrNone 2 (some .boolean) 1 := ⟨tg_in 691 (by decide +kernel) (by decide +kernel), tg_in 72 (by decide +kernel) (by decide +kernel), by decide, by decide, by decide +kernel⟩
theorem mv_X3_hasRoomOrNone : MV1 yX3_hasRoomOrNone := ⟨tg_in 689 (by decide +kernel) (by decide +kernel), tg_in 690 (by decide +kernel) (by decide +kernel)⟩
theorem ml_X8_231 : Cond.methodLink RX8 231 yX3_orders ∈ tg := tg_in 693 (by decide +kernel) (by decide +kernel)
theorem my_X3_orders : MY yX3_orders cX3_orders 3 (some .int) 0 := ⟨tg_in 696 (by decide +kernel) (by decide +kernel), tg_in 72 (by decide +kernel) (by decide +kernel), by decide, by decide, by decide +kernel⟩
theorem mv_X3_orders : MV1 yX3_orders := ⟨tg_in 694 (by decide +kernel) (by decide +kernel), tg_in 695 (by decide +kernel) (by decide +kernel)⟩
theorem cl_X8_239 : Cond.constantLong RX8 239 (100) ∈ tg := tg_in 711 (by decide +kernel) (by decide +kernel)
theorem cl_X8_237 : Cond.constantLong RX8 237 (1000000000) ∈ tg := tg_in 710 (by decide +kernel) (by decide +kernel)
theorem ml_X8_241 : Cond.methodLink RX8 241 yX5_addSeen ∈ tg := tg_in 716 (by decide +kernel) (by decide +kernel)
theorem my_X5_addSeen : MY yX5_addSeen cX5_addSeen 3 (some .int) 2 := ⟨tg_in 719 (by decide +kernel) (by decide +kernel), tg_in 76 (by decide +kernel) (by decide +kernel), by decide, by decide, by decide +kernel⟩
theorem mv_X5_addSeen : MV1 yX5_addSeen := ⟨tg_in 717 (by decide +kernel) (by decide +kernel), tg_in 718 (by decide +kernel) (by decide +kernel)⟩
theorem ml_X8_245 : Cond.methodLink RX8 245 yX5_fitting ∈ tg := tg_in 726 (by decide +kernel) (by decide +kernel)
theorem my_X5_fitting : MY yX5_fitting cX5_fitting 5 (some .int) 2 := ⟨tg_in 729 (by decide +kernel) (by decide +kernel), tg_in 76 (by decide +kernel) (by decide +kernel), by decide, by decide, by decide +kernel⟩
theorem mv_X5_fitting : MV1 yX5_fitting := ⟨tg_in 727 (by decide +kernel) (by decide +kernel), tg_in 728 (by decide +kernel) (by decide +kernel)⟩
theorem mm_X8_253 : Cond.methodLink RX8 253 Lib.Math.max.name ∈ tg ∧ Cond.static Lib.Math.max.name ∈ tg ∧ Cond.initialized "java/lang/Math" ∈ tg ∧ Cond.code Lib.Math.max.name Lib.Math.max.code 2 (some .int) ∈ tg := ⟨tg_in 742 (by decide +kernel) (by decide +kernel), tg_in 743 (by decide +kernel) (by decide +kernel), tg_in 80 (by decide +kernel) (by decide +kernel), tg_in 744 (by decide +kernel) (by decide +kernel)⟩
theorem ml_X8_249 : Cond.methodLink RX8 249 yX8_holds ∈ tg := tg_in 741 (by decide +kernel) (by decide +kernel)
theorem ml_X8_258 : Cond.methodLink RX8 258 yX5_addEntry ∈ tg := tg_in 749 (by decide +kernel) (by decide +kernel)
theorem my_X5_addEntry : MY yX5_addEntry cX5_addEntry 3 (some .int) 2 := ⟨tg_in 752 (by decide +kernel) (by decide +kernel), tg_in 76 (by decide +kernel) (by decide +kernel), by decide, by decide, by decide +kernel⟩
theorem mv_X5_addEntry : MV1 yX5_addEntry := ⟨tg_in 750 (by decide +kernel) (by decide +kernel), tg_in 751 (by decide +kernel) (by decide +kernel)⟩
theorem ml_X8_261 : Cond.methodLink RX8 261 yX5_firstWrong ∈ tg := tg_in 757 (by decide +kernel) (by decide +kernel)
theorem my_X5_firstWrong : MY yX5_firstWrong cX5_firstWrong 3 (some .int) 1 := ⟨tg_in 760 (by decide +kernel) (by decide +kernel), tg_in 76 (by decide +kernel) (by decide +kernel), by decide, by decide, by decide +kernel⟩
theorem mv_X5_firstWrong : MV1 yX5_firstWrong := ⟨tg_in 758 (by decide +kernel) (by decide +kernel), tg_in 759 (by decide +kernel) (by decide +kernel)⟩
theorem fl_X8_265 : FL RX8 265 2 0 := ⟨RX2, TX2, 1, rfl, in_X2, by decide, tg_in 254 (by decide +kernel) (by decide +kernel)⟩
theorem fp_X8_265 : FP RX8 265 2 0 false .int := ⟨RX2, TX2, 1, tyX2, rfl, in_X2, by decide, tg_in 254 (by decide +kernel) (by decide +kernel), tyX2_ok, nmX2, rfl, (fun h => by cases h), by decide +kernel⟩
theorem ml_X8_268 : Cond.methodLink RX8 268 yX8_imageAt ∈ tg := tg_in 773 (by decide +kernel) (by decide +kernel)
theorem my_X8_imageAt : MY yX8_imageAt cX8_imageAt 2 (some (.object "RoomRings$Image")) 1 := ⟨tg_in 776 (by decide +kernel) (by decide +kernel), tg_in 70 (by decide +kernel) (by decide +kernel), by decide, by decide, by decide +kernel⟩
theorem mv_X8_imageAt : MV1 yX8_imageAt := ⟨tg_in 775 (by decide +kernel) (by decide +kernel), tg_in 25 (by decide +kernel) (by decide +kernel)⟩
theorem ml_X8_272 : Cond.methodLink RX8 272 yX4_store ∈ tg := tg_in 777 (by decide +kernel) (by decide +kernel)
theorem my_X4_store : MY yX4_store cX4_store 3 none 2 := ⟨tg_in 780 (by decide +kernel) (by decide +kernel), tg_in 78 (by decide +kernel) (by decide +kernel), by decide, by decide, by decide +kernel⟩
theorem mv_X4_store : MV1 yX4_store := ⟨tg_in 778 (by decide +kernel) (by decide +kernel), tg_in 779 (by decide +kernel) (by decide +kernel)⟩
theorem fl_X8_276 : FL RX8 276 4 0 := ⟨RX4, TX4, 3, rfl, in_X4, by decide, tg_in 268 (by decide +kernel) (by decide +kernel)⟩
theorem fl_X8_280 : FL RX8 280 4 2 := ⟨RX4, TX4, 3, rfl, in_X4, by decide, tg_in 272 (by decide +kernel) (by decide +kernel)⟩
theorem fl_X8_281 : FL RX8 281 4 1 := ⟨RX4, TX4, 3, rfl, in_X4, by decide, tg_in 270 (by decide +kernel) (by decide +kernel)⟩
theorem in_X9 : ∀ w ∈ u_ws RX9 TX9 28, w ∈ tg := us_in (lt_s (lt_s (lt_s (lt_s (lt_s (lt_s (lt_s (lt_s (lt_s (lt_s (lt_s (lt_s (lt_s (lt_s (lt_s (lt_s (lt_s (lt_s (lt_s (lt_s (lt_s (lt_s (lt_s (lt_s (lt_s (lt_s (lt_s (lt_s (lt_0) (tg_in 824 (by decide +kernel) (by decide +kernel))) (tg_in 826 (by decide +kernel) (by decide +kernel))) (tg_in 828 (by decide +kernel) (by decide +kernel))) (tg_in 830 (by decide +kernel) (by decide +kernel))) (tg_in 832 (by decide +kernel) (by decide +kernel))) (tg_in 834 (by decide +kernel) (by decide +kernel))) (tg_in 836 (by decide +kernel) (by decide +kernel))) (tg_in 838 (by decide +kernel) (by decide +kernel))) (tg_in 840 (by decide +kernel) (by decide +kernel))) (tg_in 842 (by decide +kernel) (by decide +kernel))) (tg_in 844 (by decide +kernel) (by decide +kernel))) (tg_in 846 (by decide +kernel) (by decide +kernel))) (tg_in 848 (by decide +kernel) (by decide +kernel))) (tg_in 850 (by decide +kernel) (by decide +kernel))) (tg_in 852 (by decide +kernel) (by decide +kernel))) (tg_in 854 (by decide +kernel) (by decide +kernel))) (tg_in 856 (by decide +kernel) (by decide +kernel))) (tg_in 858 (by decide +kernel) (by decide +kernel))) (tg_in 860 (by decide +kernel) (by decide +kernel))) (tg_in 862 (by decide +kernel) (by decide +kernel))) (tg_in 864 (by decide +kernel) (by decide +kernel))) (tg_in 866 (by decide +kernel) (by decide +kernel))) (tg_in 868 (by decide +kernel) (by decide +kernel))) (tg_in 870 (by decide +kernel) (by decide +kernel))) (tg_in 872 (by decide +kernel) (by decide +kernel))) (tg_in 874 (by decide +kernel) (by decide +kernel))) (tg_in 876 (by decide +kernel) (by decide +kernel))) (tg_in 878 (by decide +kernel) (by decide +kernel)))
theorem fl_X9_7 : FL RX9 7 9 0 := ⟨RX9, TX9, 28, rfl, in_X9, by decide, tg_in 796 (by decide +kernel) (by decide +kernel)⟩
theorem ml_X9_1 : Cond.methodLink RX9 1 objectInit ∈ tg := tg_in 791 (by decide +kernel) (by decide +kernel)
theorem fp_X9_7 : FP RX9 7 9 0 true (.array .int) := ⟨RX9, TX9, 28, tyX9, rfl, in_X9, by decide, tg_in 796 (by decide +kernel) (by decide +kernel), tyX9_ok, nmX9, rfl, (fun _ => rfl), by decide +kernel⟩
theorem fp_X9_13 : FP RX9 13 9 5 true (.array .int) := ⟨RX9, TX9, 28, tyX9, rfl, in_X9, by decide, tg_in 801 (by decide +kernel) (by decide +kernel), tyX9_ok, nmX9, rfl, (fun _ => rfl), by decide +kernel⟩
theorem fp_X9_16 : FP RX9 16 9 7 false .int := ⟨RX9, TX9, 28, tyX9, rfl, in_X9, by decide, tg_in 803 (by decide +kernel) (by decide +kernel), tyX9_ok, nmX9, rfl, (fun h => by cases h), by decide +kernel⟩
theorem fp_X9_20 : FP RX9 20 9 8 true (.array .int) := ⟨RX9, TX9, 28, tyX9, rfl, in_X9, by decide, tg_in 804 (by decide +kernel) (by decide +kernel), tyX9_ok, nmX9, rfl, (fun _ => rfl), by decide +kernel⟩
theorem fp_X9_23 : FP RX9 23 9 9 true (.array .int) := ⟨RX9, TX9, 28, tyX9, rfl, in_X9, by decide, tg_in 805 (by decide +kernel) (by decide +kernel), tyX9_ok, nmX9, rfl, (fun _ => rfl), by decide +kernel⟩
theorem fp_X9_26 : FP RX9 26 9 10 true (.array .int) := ⟨RX9, TX9, 28, tyX9, rfl, in_X9, by decide, tg_in 806 (by decide +kernel) (by decide +kernel), tyX9_ok, nmX9, rfl, (fun _ => rfl), by decide +kernel⟩
theorem fp_X9_29 : FP RX9 29 9 12 true (.array .int) := ⟨RX9, TX9, 28, tyX9, rfl, in_X9, by decide, tg_in 808 (by decide +kernel) (by decide +kernel), tyX9_ok, nmX9, rfl, (fun _ => rfl), by decide +kernel⟩
theorem fp_X9_32 : FP RX9 32 9 13 true (.array .int) := ⟨RX9, TX9, 28, tyX9, rfl, in_X9, by decide, tg_in 809 (by decide +kernel) (by decide +kernel), tyX9_ok, nmX9, rfl, (fun _ => rfl), by decide +kernel⟩
theorem fp_X9_35 : FP RX9 35 9 14 true (.array .int) := ⟨RX9, TX9, 28, tyX9, rfl, in_X9, by decide, tg_in 810 (by decide +kernel) (by decide +kernel), tyX9_ok, nmX9, rfl, (fun _ => rfl), by decide +kernel⟩
theorem fp_X9_38 : FP RX9 38 9 16 true (.array .int) := ⟨RX9, TX9, 28, tyX9, rfl, in_X9, by decide, tg_in 812 (by decide +kernel) (by decide +kernel), tyX9_ok, nmX9, rfl, (fun _ => rfl), by decide +kernel⟩
theorem fp_X9_41 : FP RX9 41 9 17 true (.array .int) := ⟨RX9, TX9, 28, tyX9, rfl, in_X9, by decide, tg_in 813 (by decide +kernel) (by decide +kernel), tyX9_ok, nmX9, rfl, (fun _ => rfl), by decide +kernel⟩
theorem fp_X9_44 : FP RX9 44 9 27 true (.array .int) := ⟨RX9, TX9, 28, tyX9, rfl, in_X9, by decide, tg_in 823 (by decide +kernel) (by decide +kernel), tyX9_ok, nmX9, rfl, (fun _ => rfl), by decide +kernel⟩
theorem ml_X9_47 : Cond.methodLink RX9 47 yX9_beginLots ∈ tg := tg_in 792 (by decide +kernel) (by decide +kernel)
theorem my_X9_beginLots : MY yX9_beginLots cX9_beginLots 3 none 1 := ⟨tg_in 795 (by decide +kernel) (by decide +kernel), tg_in 79 (by decide +kernel) (by decide +kernel), by decide, by decide, by decide +kernel⟩
theorem mv_X9_beginLots : MV1 yX9_beginLots := ⟨tg_in 794 (by decide +kernel) (by decide +kernel), tg_in 26 (by decide +kernel) (by decide +kernel)⟩
theorem fl_X9_51 : FL RX9 51 9 2 := ⟨RX9, TX9, 28, rfl, in_X9, by decide, tg_in 798 (by decide +kernel) (by decide +kernel)⟩
theorem ml_X9_54 : Cond.methodLink RX9 54 yX9_in ∈ tg := tg_in 885 (by decide +kernel) (by decide +kernel)
theorem my_X9_in : MY yX9_in cX9_in 3 (some .boolean) 3 := ⟨tg_in 887 (by decide +kernel) (by decide +kernel), tg_in 79 (by decide +kernel) (by decide +kernel), by decide, by decide, by decide +kernel⟩
theorem ms_X9_in : Cond.static yX9_in ∈ tg := tg_in 886 (by decide +kernel) (by decide +kernel)
theorem fl_X9_58 : FL RX9 58 9 1 := ⟨RX9, TX9, 28, rfl, in_X9, by decide, tg_in 797 (by decide +kernel) (by decide +kernel)⟩
theorem cn_X9_61 : Cond.constant RX9 61 (-1000000002) ∈ tg := tg_in 888 (by decide +kernel) (by decide +kernel)
theorem fl_X9_62 : FL RX9 62 9 6 := ⟨RX9, TX9, 28, rfl, in_X9, by decide, tg_in 802 (by decide +kernel) (by decide +kernel)⟩
theorem cn_X9_65 : Cond.constant RX9 65 (-1000000004) ∈ tg := tg_in 889 (by decide +kernel) (by decide +kernel)
theorem fl_X9_13 : FL RX9 13 9 5 := ⟨RX9, TX9, 28, rfl, in_X9, by decide, tg_in 801 (by decide +kernel) (by decide +kernel)⟩
theorem fp_X9_62 : FP RX9 62 9 6 false .int := ⟨RX9, TX9, 28, tyX9, rfl, in_X9, by decide, tg_in 802 (by decide +kernel) (by decide +kernel), tyX9_ok, nmX9, rfl, (fun h => by cases h), by decide +kernel⟩
theorem fl_X9_66 : FL RX9 66 9 20 := ⟨RX9, TX9, 28, rfl, in_X9, by decide, tg_in 816 (by decide +kernel) (by decide +kernel)⟩
theorem ml_X9_69 : Cond.methodLink RX9 69 yX9_fine ∈ tg := tg_in 898 (by decide +kernel) (by decide +kernel)
theorem my_X9_fine : MY yX9_fine cX9_fine 1 (some .boolean) 0 := ⟨tg_in 901 (by decide +kernel) (by decide +kernel), tg_in 79 (by decide +kernel) (by decide +kernel), by decide, by decide, by decide +kernel⟩
theorem mv_X9_fine : MV1 yX9_fine := ⟨tg_in 900 (by decide +kernel) (by decide +kernel), tg_in 28 (by decide +kernel) (by decide +kernel)⟩
theorem fp_X9_66 : FP RX9 66 9 20 false .int := ⟨RX9, TX9, 28, tyX9, rfl, in_X9, by decide, tg_in 816 (by decide +kernel) (by decide +kernel), tyX9_ok, nmX9, rfl, (fun h => by cases h), by decide +kernel⟩
theorem fp_X9_73 : FP RX9 73 9 21 false .int := ⟨RX9, TX9, 28, tyX9, rfl, in_X9, by decide, tg_in 817 (by decide +kernel) (by decide +kernel), tyX9_ok, nmX9, rfl, (fun h => by cases h), by decide +kernel⟩
theorem fl_X9_76 : FL RX9 76 9 19 := ⟨RX9, TX9, 28, rfl, in_X9, by decide, tg_in 815 (by decide +kernel) (by decide +kernel)⟩
theorem fp_X9_76 : FP RX9 76 9 19 false .int := ⟨RX9, TX9, 28, tyX9, rfl, in_X9, by decide, tg_in 815 (by decide +kernel) (by decide +kernel), tyX9_ok, nmX9, rfl, (fun h => by cases h), by decide +kernel⟩
theorem fl_X9_83 : FL RX9 83 9 24 := ⟨RX9, TX9, 28, rfl, in_X9, by decide, tg_in 820 (by decide +kernel) (by decide +kernel)⟩
theorem ml_X9_86 : Cond.methodLink RX9 86 yX9_fail ∈ tg := tg_in 906 (by decide +kernel) (by decide +kernel)
theorem my_X9_fail : MY yX9_fail cX9_fail 3 none 2 := ⟨tg_in 909 (by decide +kernel) (by decide +kernel), tg_in 79 (by decide +kernel) (by decide +kernel), by decide, by decide, by decide +kernel⟩
theorem mv_X9_fail : MV1 yX9_fail := ⟨tg_in 908 (by decide +kernel) (by decide +kernel), tg_in 30 (by decide +kernel) (by decide +kernel)⟩
theorem ml_X9_79 : Cond.methodLink RX9 79 yX9_here ∈ tg := tg_in 894 (by decide +kernel) (by decide +kernel)
theorem my_X9_here : MY yX9_here cX9_here 1 (some .int) 0 := ⟨tg_in 897 (by decide +kernel) (by decide +kernel), tg_in 79 (by decide +kernel) (by decide +kernel), by decide, by decide, by decide +kernel⟩
theorem mv_X9_here : MV1 yX9_here := ⟨tg_in 896 (by decide +kernel) (by decide +kernel), tg_in 27 (by decide +kernel) (by decide +kernel)⟩
theorem fp_X9_83 : FP RX9 83 9 24 false .int := ⟨RX9, TX9, 28, tyX9, rfl, in_X9, by decide, tg_in 820 (by decide +kernel) (by decide +kernel), tyX9_ok, nmX9, rfl, (fun h => by cases h), by decide +kernel⟩
theorem fl_X9_90 : FL RX9 90 9 22 := ⟨RX9, TX9, 28, rfl, in_X9, by decide, tg_in 818 (by decide +kernel) (by decide +kernel)⟩
theorem ml_X9_93 : Cond.methodLink RX9 93 yX9_number ∈ tg := tg_in 910 (by decide +kernel) (by decide +kernel)
theorem my_X9_number : MY yX9_number cX9_number 5 (some .int) 2 := ⟨tg_in 913 (by decide +kernel) (by decide +kernel), tg_in 79 (by decide +kernel) (by decide +kernel), by decide, by decide, by decide +kernel⟩
theorem mv_X9_number : MV1 yX9_number := ⟨tg_in 912 (by decide +kernel) (by decide +kernel), tg_in 31 (by decide +kernel) (by decide +kernel)⟩
theorem ml_X9_97 : Cond.methodLink RX9 97 yX9_placeOfLike ∈ tg := tg_in 926 (by decide +kernel) (by decide +kernel)
theorem my_X9_placeOfLike : MY yX9_placeOfLike cX9_placeOfLike 5 (some .int) 3 := ⟨tg_in 929 (by decide +kernel) (by decide +kernel), tg_in 79 (by decide +kernel) (by decide +kernel), by decide, by decide, by decide +kernel⟩
theorem mv_X9_placeOfLike : MV1 yX9_placeOfLike := ⟨tg_in 928 (by decide +kernel) (by decide +kernel), tg_in 35 (by decide +kernel) (by decide +kernel)⟩
theorem fl_X9_101 : FL RX9 101 9 23 := ⟨RX9, TX9, 28, rfl, in_X9, by decide, tg_in 819 (by decide +kernel) (by decide +kernel)⟩
theorem fp_X9_101 : FP RX9 101 9 23 false .int := ⟨RX9, TX9, 28, tyX9, rfl, in_X9, by decide, tg_in 819 (by decide +kernel) (by decide +kernel), tyX9_ok, nmX9, rfl, (fun h => by cases h), by decide +kernel⟩
theorem ml_X9_107 : Cond.methodLink RX9 107 yX9_readLike ∈ tg := tg_in 922 (by decide +kernel) (by decide +kernel)
theorem my_X9_readLike : MY yX9_readLike cX9_readLike 3 none 1 := ⟨tg_in 925 (by decide +kernel) (by decide +kernel), tg_in 79 (by decide +kernel) (by decide +kernel), by decide, by decide, by decide +kernel⟩
theorem mv_X9_readLike : MV1 yX9_readLike := ⟨tg_in 924 (by decide +kernel) (by decide +kernel), tg_in 34 (by decide +kernel) (by decide +kernel)⟩
theorem ml_X9_104 : Cond.methodLink RX9 104 yX9_sitterIn ∈ tg := tg_in 918 (by decide +kernel) (by decide +kernel)
theorem my_X9_sitterIn : MY yX9_sitterIn cX9_sitterIn 5 (some .int) 3 := ⟨tg_in 921 (by decide +kernel) (by decide +kernel), tg_in 79 (by decide +kernel) (by decide +kernel), by decide, by decide, by decide +kernel⟩
theorem mv_X9_sitterIn : MV1 yX9_sitterIn := ⟨tg_in 920 (by decide +kernel) (by decide +kernel), tg_in 33 (by decide +kernel) (by decide +kernel)⟩
theorem fp_X9_90 : FP RX9 90 9 22 false .int := ⟨RX9, TX9, 28, tyX9, rfl, in_X9, by decide, tg_in 818 (by decide +kernel) (by decide +kernel), tyX9_ok, nmX9, rfl, (fun h => by cases h), by decide +kernel⟩
theorem ml_X9_110 : Cond.methodLink RX9 110 yX9_readPerson ∈ tg := tg_in 914 (by decide +kernel) (by decide +kernel)
theorem my_X9_readPerson : MY yX9_readPerson cX9_readPerson 4 none 1 := ⟨tg_in 917 (by decide +kernel) (by decide +kernel), tg_in 79 (by decide +kernel) (by decide +kernel), by decide, by decide, by decide +kernel⟩
theorem mv_X9_readPerson : MV1 yX9_readPerson := ⟨tg_in 916 (by decide +kernel) (by decide +kernel), tg_in 32 (by decide +kernel) (by decide +kernel)⟩
theorem fl_X9_73 : FL RX9 73 9 21 := ⟨RX9, TX9, 28, rfl, in_X9, by decide, tg_in 817 (by decide +kernel) (by decide +kernel)⟩
theorem ml_X9_116 : Cond.methodLink RX9 116 yX9_copyRow ∈ tg := tg_in 930 (by decide +kernel) (by decide +kernel)
theorem my_X9_copyRow : MY yX9_copyRow cX9_copyRow 4 none 2 := ⟨tg_in 933 (by decide +kernel) (by decide +kernel), tg_in 79 (by decide +kernel) (by decide +kernel), by decide, by decide, by decide +kernel⟩
theorem mv_X9_copyRow : MV1 yX9_copyRow := ⟨tg_in 932 (by decide +kernel) (by decide +kernel), tg_in 36 (by decide +kernel) (by decide +kernel)⟩
theorem fp_X9_58 : FP RX9 58 9 1 false .int := ⟨RX9, TX9, 28, tyX9, rfl, in_X9, by decide, tg_in 797 (by decide +kernel) (by decide +kernel), tyX9_ok, nmX9, rfl, (fun h => by cases h), by decide +kernel⟩
theorem fp_X9_51 : FP RX9 51 9 2 false .int := ⟨RX9, TX9, 28, tyX9, rfl, in_X9, by decide, tg_in 798 (by decide +kernel) (by decide +kernel), tyX9_ok, nmX9, rfl, (fun h => by cases h), by decide +kernel⟩
theorem fp_X9_119 : FP RX9 119 9 3 false .int := ⟨RX9, TX9, 28, tyX9, rfl, in_X9, by decide, tg_in 799 (by decide +kernel) (by decide +kernel), tyX9_ok, nmX9, rfl, (fun h => by cases h), by decide +kernel⟩
theorem fp_X9_122 : FP RX9 122 9 4 false .int := ⟨RX9, TX9, 28, tyX9, rfl, in_X9, by decide, tg_in 800 (by decide +kernel) (by decide +kernel), tyX9_ok, nmX9, rfl, (fun h => by cases h), by decide +kernel⟩
theorem fp_X9_125 : FP RX9 125 9 15 false .int := ⟨RX9, TX9, 28, tyX9, rfl, in_X9, by decide, tg_in 811 (by decide +kernel) (by decide +kernel), tyX9_ok, nmX9, rfl, (fun h => by cases h), by decide +kernel⟩
theorem fp_X9_128 : FP RX9 128 9 18 false .int := ⟨RX9, TX9, 28, tyX9, rfl, in_X9, by decide, tg_in 814 (by decide +kernel) (by decide +kernel), tyX9_ok, nmX9, rfl, (fun h => by cases h), by decide +kernel⟩
theorem ml_X9_113 : Cond.methodLink RX9 113 yX9_readClause ∈ tg := tg_in 902 (by decide +kernel) (by decide +kernel)
theorem my_X9_readClause : MY yX9_readClause cX9_readClause 4 none 0 := ⟨tg_in 905 (by decide +kernel) (by decide +kernel), tg_in 79 (by decide +kernel) (by decide +kernel), by decide, by decide, by decide +kernel⟩
theorem mv_X9_readClause : MV1 yX9_readClause := ⟨tg_in 904 (by decide +kernel) (by decide +kernel), tg_in 29 (by decide +kernel) (by decide +kernel)⟩
theorem fl_X9_16 : FL RX9 16 9 7 := ⟨RX9, TX9, 28, rfl, in_X9, by decide, tg_in 803 (by decide +kernel) (by decide +kernel)⟩
theorem fl_X9_29 : FL RX9 29 9 12 := ⟨RX9, TX9, 28, rfl, in_X9, by decide, tg_in 808 (by decide +kernel) (by decide +kernel)⟩
theorem ml_X9_131 : Cond.methodLink RX9 131 yX9_layWants ∈ tg := tg_in 957 (by decide +kernel) (by decide +kernel)
theorem my_X9_layWants : MY yX9_layWants cX9_layWants 7 (some .int) 2 := ⟨tg_in 960 (by decide +kernel) (by decide +kernel), tg_in 79 (by decide +kernel) (by decide +kernel), by decide, by decide, by decide +kernel⟩
theorem mv_X9_layWants : MV1 yX9_layWants := ⟨tg_in 959 (by decide +kernel) (by decide +kernel), tg_in 40 (by decide +kernel) (by decide +kernel)⟩
theorem ml_X9_134 : Cond.methodLink RX9 134 yX9_has ∈ tg := tg_in 950 (by decide +kernel) (by decide +kernel)
theorem my_X9_has : MY yX9_has cX9_has 2 (some .boolean) 2 := ⟨tg_in 952 (by decide +kernel) (by decide +kernel), tg_in 79 (by decide +kernel) (by decide +kernel), by decide, by decide, by decide +kernel⟩
theorem ms_X9_has : Cond.static yX9_has ∈ tg := tg_in 951 (by decide +kernel) (by decide +kernel)
theorem fl_X9_138 : FL RX9 138 9 25 := ⟨RX9, TX9, 28, rfl, in_X9, by decide, tg_in 821 (by decide +kernel) (by decide +kernel)⟩
theorem ml_X9_141 : Cond.methodLink RX9 141 yX9_firstByLots ∈ tg := tg_in 977 (by decide +kernel) (by decide +kernel)
theorem my_X9_firstByLots : MY yX9_firstByLots cX9_firstByLots 3 (some .int) 1 := ⟨tg_in 980 (by decide +kernel) (by decide +kernel), tg_in 79 (by decide +kernel) (by decide +kernel), by decide, by decide, by decide +kernel⟩
theorem mv_X9_firstByLots : MV1 yX9_firstByLots := ⟨tg_in 979 (by decide +kernel) (by decide +kernel), tg_in 45 (by decide +kernel) (by decide +kernel)⟩
theorem fl_X9_145 : FL RX9 145 9 26 := ⟨RX9, TX9, 28, rfl, in_X9, by decide, tg_in 822 (by decide +kernel) (by decide +kernel)⟩
theorem ml_X9_148 : Cond.methodLink RX9 148 yX9_mostOf ∈ tg := tg_in 953 (by decide +kernel) (by decide +kernel)
theorem my_X9_mostOf : MY yX9_mostOf cX9_mostOf 6 (some .int) 3 := ⟨tg_in 956 (by decide +kernel) (by decide +kernel), tg_in 79 (by decide +kernel) (by decide +kernel), by decide, by decide, by decide +kernel⟩
theorem mv_X9_mostOf : MV1 yX9_mostOf := ⟨tg_in 955 (by decide +kernel) (by decide +kernel), tg_in 39 (by decide +kernel) (by decide +kernel)⟩
theorem ml_X9_151 : Cond.methodLink RX9 151 yX9_pointsAt ∈ tg := tg_in 973 (by decide +kernel) (by decide +kernel)
theorem my_X9_pointsAt : MY yX9_pointsAt cX9_pointsAt 4 (some .int) 2 := ⟨tg_in 976 (by decide +kernel) (by decide +kernel), tg_in 79 (by decide +kernel) (by decide +kernel), by decide, by decide, by decide +kernel⟩
theorem mv_X9_pointsAt : MV1 yX9_pointsAt := ⟨tg_in 975 (by decide +kernel) (by decide +kernel), tg_in 44 (by decide +kernel) (by decide +kernel)⟩
theorem fp_X9_138 : FP RX9 138 9 25 false .int := ⟨RX9, TX9, 28, tyX9, rfl, in_X9, by decide, tg_in 821 (by decide +kernel) (by decide +kernel), tyX9_ok, nmX9, rfl, (fun h => by cases h), by decide +kernel⟩
theorem fl_X9_20 : FL RX9 20 9 8 := ⟨RX9, TX9, 28, rfl, in_X9, by decide, tg_in 804 (by decide +kernel) (by decide +kernel)⟩
theorem fl_X9_23 : FL RX9 23 9 9 := ⟨RX9, TX9, 28, rfl, in_X9, by decide, tg_in 805 (by decide +kernel) (by decide +kernel)⟩
theorem fl_X9_154 : FL RX9 154 9 11 := ⟨RX9, TX9, 28, rfl, in_X9, by decide, tg_in 807 (by decide +kernel) (by decide +kernel)⟩
theorem fl_X9_26 : FL RX9 26 9 10 := ⟨RX9, TX9, 28, rfl, in_X9, by decide, tg_in 806 (by decide +kernel) (by decide +kernel)⟩
theorem ml_X9_157 : Cond.methodLink RX9 157 yX9_next ∈ tg := tg_in 969 (by decide +kernel) (by decide +kernel)
theorem my_X9_next : MY yX9_next cX9_next 3 (some .int) 2 := ⟨tg_in 972 (by decide +kernel) (by decide +kernel), tg_in 79 (by decide +kernel) (by decide +kernel), by decide, by decide, by decide +kernel⟩
theorem mv_X9_next : MV1 yX9_next := ⟨tg_in 971 (by decide +kernel) (by decide +kernel), tg_in 43 (by decide +kernel) (by decide +kernel)⟩
theorem fp_X9_145 : FP RX9 145 9 26 false .int := ⟨RX9, TX9, 28, tyX9, rfl, in_X9, by decide, tg_in 822 (by decide +kernel) (by decide +kernel), tyX9_ok, nmX9, rfl, (fun h => by cases h), by decide +kernel⟩
theorem ml_X9_160 : Cond.methodLink RX9 160 yX9_ringFrom ∈ tg := tg_in 965 (by decide +kernel) (by decide +kernel)
theorem my_X9_ringFrom : MY yX9_ringFrom cX9_ringFrom 6 (some .int) 2 := ⟨tg_in 968 (by decide +kernel) (by decide +kernel), tg_in 79 (by decide +kernel) (by decide +kernel), by decide, by decide, by decide +kernel⟩
theorem mv_X9_ringFrom : MV1 yX9_ringFrom := ⟨tg_in 967 (by decide +kernel) (by decide +kernel), tg_in 42 (by decide +kernel) (by decide +kernel)⟩
theorem fp_X9_154 : FP RX9 154 9 11 false .int := ⟨RX9, TX9, 28, tyX9, rfl, in_X9, by decide, tg_in 807 (by decide +kernel) (by decide +kernel), tyX9_ok, nmX9, rfl, (fun h => by cases h), by decide +kernel⟩
theorem ml_X9_163 : Cond.methodLink RX9 163 yX9_dropThoseWithout ∈ tg := tg_in 946 (by decide +kernel) (by decide +kernel)
theorem my_X9_dropThoseWithout : MY yX9_dropThoseWithout cX9_dropThoseWithout 4 none 1 := ⟨tg_in 949 (by decide +kernel) (by decide +kernel), tg_in 79 (by decide +kernel) (by decide +kernel), by decide, by decide, by decide +kernel⟩
theorem mv_X9_dropThoseWithout : MV1 yX9_dropThoseWithout := ⟨tg_in 948 (by decide +kernel) (by decide +kernel), tg_in 38 (by decide +kernel) (by decide +kernel)⟩
theorem ml_X9_166 : Cond.methodLink RX9 166 yX9_giveRings ∈ tg := tg_in 961 (by decide +kernel) (by decide +kernel)
theorem my_X9_giveRings : MY yX9_giveRings cX9_giveRings 6 none 1 := ⟨tg_in 964 (by decide +kernel) (by decide +kernel), tg_in 79 (by decide +kernel) (by decide +kernel), by decide, by decide, by decide +kernel⟩
theorem mv_X9_giveRings : MV1 yX9_giveRings := ⟨tg_in 963 (by decide +kernel) (by decide +kernel), tg_in 41 (by decide +kernel) (by decide +kernel)⟩
theorem ml_X9_169 : Cond.methodLink RX9 169 yX9_whoGets ∈ tg := tg_in 989 (by decide +kernel) (by decide +kernel)
theorem my_X9_whoGets : MY yX9_whoGets cX9_whoGets 3 (some .int) 1 := ⟨tg_in 992 (by decide +kernel) (by decide +kernel), tg_in 79 (by decide +kernel) (by decide +kernel), by decide, by decide, by decide +kernel⟩
theorem mv_X9_whoGets : MV1 yX9_whoGets := ⟨tg_in 991 (by decide +kernel) (by decide +kernel), tg_in 48 (by decide +kernel) (by decide +kernel)⟩
theorem fl_X9_44 : FL RX9 44 9 27 := ⟨RX9, TX9, 28, rfl, in_X9, by decide, tg_in 823 (by decide +kernel) (by decide +kernel)⟩
theorem ml_X9_178 : Cond.methodLink RX9 178 yX9_rankOf ∈ tg := tg_in 1011 (by decide +kernel) (by decide +kernel)
theorem my_X9_rankOf : MY yX9_rankOf cX9_rankOf 6 (some .int) 3 := ⟨tg_in 1014 (by decide +kernel) (by decide +kernel), tg_in 79 (by decide +kernel) (by decide +kernel), by decide, by decide, by decide +kernel⟩
theorem mv_X9_rankOf : MV1 yX9_rankOf := ⟨tg_in 1013 (by decide +kernel) (by decide +kernel), tg_in 52 (by decide +kernel) (by decide +kernel)⟩
theorem ml_X9_172 : Cond.methodLink RX9 172 yX9_bits ∈ tg := tg_in 1005 (by decide +kernel) (by decide +kernel)
theorem my_X9_bits : MY yX9_bits cX9_bits 3 (some .int) 1 := ⟨tg_in 1007 (by decide +kernel) (by decide +kernel), tg_in 79 (by decide +kernel) (by decide +kernel), by decide, by decide, by decide +kernel⟩
theorem ms_X9_bits : Cond.static yX9_bits ∈ tg := tg_in 1006 (by decide +kernel) (by decide +kernel)
theorem ml_X9_175 : Cond.methodLink RX9 175 yX9_personAt ∈ tg := tg_in 1008 (by decide +kernel) (by decide +kernel)
theorem my_X9_personAt : MY yX9_personAt cX9_personAt 4 (some .int) 2 := ⟨tg_in 1010 (by decide +kernel) (by decide +kernel), tg_in 79 (by decide +kernel) (by decide +kernel), by decide, by decide, by decide +kernel⟩
theorem ms_X9_personAt : Cond.static yX9_personAt ∈ tg := tg_in 1009 (by decide +kernel) (by decide +kernel)
theorem ml_X9_181 : Cond.methodLink RX9 181 yX9_sitters ∈ tg := tg_in 997 (by decide +kernel) (by decide +kernel)
theorem my_X9_sitters : MY yX9_sitters cX9_sitters 3 (some .int) 0 := ⟨tg_in 1000 (by decide +kernel) (by decide +kernel), tg_in 79 (by decide +kernel) (by decide +kernel), by decide, by decide, by decide +kernel⟩
theorem mv_X9_sitters : MV1 yX9_sitters := ⟨tg_in 999 (by decide +kernel) (by decide +kernel), tg_in 50 (by decide +kernel) (by decide +kernel)⟩
theorem ml_X9_184 : Cond.methodLink RX9 184 yX9_partings ∈ tg := tg_in 1001 (by decide +kernel) (by decide +kernel)
theorem my_X9_partings : MY yX9_partings cX9_partings 6 (some .int) 1 := ⟨tg_in 1004 (by decide +kernel) (by decide +kernel), tg_in 79 (by decide +kernel) (by decide +kernel), by decide, by decide, by decide +kernel⟩
theorem mv_X9_partings : MV1 yX9_partings := ⟨tg_in 1003 (by decide +kernel) (by decide +kernel), tg_in 51 (by decide +kernel) (by decide +kernel)⟩
theorem ml_X9_187 : Cond.methodLink RX9 187 yX9_giveOut ∈ tg := tg_in 942 (by decide +kernel) (by decide +kernel)
theorem my_X9_giveOut : MY yX9_giveOut cX9_giveOut 2 none 1 := ⟨tg_in 945 (by decide +kernel) (by decide +kernel), tg_in 79 (by decide +kernel) (by decide +kernel), by decide, by decide, by decide +kernel⟩
theorem mv_X9_giveOut : MV1 yX9_giveOut := ⟨tg_in 944 (by decide +kernel) (by decide +kernel), tg_in 37 (by decide +kernel) (by decide +kernel)⟩
theorem ml_X9_190 : Cond.methodLink RX9 190 yX9_without ∈ tg := tg_in 981 (by decide +kernel) (by decide +kernel)
theorem my_X9_without : MY yX9_without cX9_without 3 (some .int) 0 := ⟨tg_in 984 (by decide +kernel) (by decide +kernel), tg_in 79 (by decide +kernel) (by decide +kernel), by decide, by decide, by decide +kernel⟩
theorem mv_X9_without : MV1 yX9_without := ⟨tg_in 983 (by decide +kernel) (by decide +kernel), tg_in 46 (by decide +kernel) (by decide +kernel)⟩
theorem ml_X9_193 : Cond.methodLink RX9 193 yX9_roomsLeft ∈ tg := tg_in 985 (by decide +kernel) (by decide +kernel)
theorem my_X9_roomsLeft : MY yX9_roomsLeft cX9_roomsLeft 5 (some .int) 1 := ⟨tg_in 988 (by decide +kernel) (by decide +kernel), tg_in 79 (by decide +kernel) (by decide +kernel), by decide, by decide, by decide +kernel⟩
theorem mv_X9_roomsLeft : MV1 yX9_roomsLeft := ⟨tg_in 987 (by decide +kernel) (by decide +kernel), tg_in 47 (by decide +kernel) (by decide +kernel)⟩
theorem ml_X9_196 : Cond.methodLink RX9 196 yX9_groups ∈ tg := tg_in 993 (by decide +kernel) (by decide +kernel)
theorem my_X9_groups : MY yX9_groups cX9_groups 5 (some .int) 1 := ⟨tg_in 996 (by decide +kernel) (by decide +kernel), tg_in 79 (by decide +kernel) (by decide +kernel), by decide, by decide, by decide +kernel⟩
theorem mv_X9_groups : MV1 yX9_groups := ⟨tg_in 995 (by decide +kernel) (by decide +kernel), tg_in 49 (by decide +kernel) (by decide +kernel)⟩
theorem fl_X9_125 : FL RX9 125 9 15 := ⟨RX9, TX9, 28, rfl, in_X9, by decide, tg_in 811 (by decide +kernel) (by decide +kernel)⟩
theorem fl_X9_128 : FL RX9 128 9 18 := ⟨RX9, TX9, 28, rfl, in_X9, by decide, tg_in 814 (by decide +kernel) (by decide +kernel)⟩
theorem fl_X9_119 : FL RX9 119 9 3 := ⟨RX9, TX9, 28, rfl, in_X9, by decide, tg_in 799 (by decide +kernel) (by decide +kernel)⟩
theorem ml_X9_200 : Cond.methodLink RX9 200 yX9_kept ∈ tg := tg_in 1032 (by decide +kernel) (by decide +kernel)
theorem my_X9_kept : MY yX9_kept cX9_kept 4 (some .int) 1 := ⟨tg_in 1035 (by decide +kernel) (by decide +kernel), tg_in 79 (by decide +kernel) (by decide +kernel), by decide, by decide, by decide +kernel⟩
theorem mv_X9_kept : MV1 yX9_kept := ⟨tg_in 1034 (by decide +kernel) (by decide +kernel), tg_in 56 (by decide +kernel) (by decide +kernel)⟩
theorem ml_X9_202 : Cond.methodLink RX9 202 yX9_isPerson ∈ tg := tg_in 1019 (by decide +kernel) (by decide +kernel)
theorem my_X9_isPerson : MY yX9_isPerson cX9_isPerson 2 (some .boolean) 1 := ⟨tg_in 1022 (by decide +kernel) (by decide +kernel), tg_in 79 (by decide +kernel) (by decide +kernel), by decide, by decide, by decide +kernel⟩
theorem mv_X9_isPerson : MV1 yX9_isPerson := ⟨tg_in 1021 (by decide +kernel) (by decide +kernel), tg_in 53 (by decide +kernel) (by decide +kernel)⟩
theorem cn_X9_206 : Cond.constant RX9 206 (-1000000001) ∈ tg := tg_in 1023 (by decide +kernel) (by decide +kernel)
theorem ml_X9_207 : Cond.methodLink RX9 207 yX9_placeInLots ∈ tg := tg_in 1024 (by decide +kernel) (by decide +kernel)
theorem my_X9_placeInLots : MY yX9_placeInLots cX9_placeInLots 3 (some .int) 1 := ⟨tg_in 1027 (by decide +kernel) (by decide +kernel), tg_in 79 (by decide +kernel) (by decide +kernel), by decide, by decide, by decide +kernel⟩
theorem mv_X9_placeInLots : MV1 yX9_placeInLots := ⟨tg_in 1026 (by decide +kernel) (by decide +kernel), tg_in 54 (by decide +kernel) (by decide +kernel)⟩
theorem ml_X9_210 : Cond.methodLink RX9 210 yX9_byLot ∈ tg := tg_in 1028 (by decide +kernel) (by decide +kernel)
theorem my_X9_byLot : MY yX9_byLot cX9_byLot 7 (some .int) 1 := ⟨tg_in 1031 (by decide +kernel) (by decide +kernel), tg_in 79 (by decide +kernel) (by decide +kernel), by decide, by decide, by decide +kernel⟩
theorem mv_X9_byLot : MV1 yX9_byLot := ⟨tg_in 1030 (by decide +kernel) (by decide +kernel), tg_in 55 (by decide +kernel) (by decide +kernel)⟩
theorem ml_X9_213 : Cond.methodLink RX9 213 yX9_better ∈ tg := tg_in 1036 (by decide +kernel) (by decide +kernel)
theorem my_X9_better : MY yX9_better cX9_better 2 (some .int) 1 := ⟨tg_in 1039 (by decide +kernel) (by decide +kernel), tg_in 79 (by decide +kernel) (by decide +kernel), by decide, by decide, by decide +kernel⟩
theorem mv_X9_better : MV1 yX9_better := ⟨tg_in 1038 (by decide +kernel) (by decide +kernel), tg_in 57 (by decide +kernel) (by decide +kernel)⟩
theorem ml_X9_216 : Cond.methodLink RX9 216 yX9_isRoom ∈ tg := tg_in 1048 (by decide +kernel) (by decide +kernel)
theorem my_X9_isRoom : MY yX9_isRoom cX9_isRoom 2 (some .boolean) 1 := ⟨tg_in 1051 (by decide +kernel) (by decide +kernel), tg_in 79 (by decide +kernel) (by decide +kernel), by decide, by decide, by decide +kernel⟩
theorem mv_X9_isRoom : MV1 yX9_isRoom := ⟨tg_in 1050 (by decide +kernel) (by decide +kernel), tg_in 58 (by decide +kernel) (by decide +kernel)⟩
theorem ml_X9_219 : Cond.methodLink RX9 219 yX9_strikeOut ∈ tg := tg_in 1064 (by decide +kernel) (by decide +kernel)
theorem my_X9_strikeOut : MY yX9_strikeOut cX9_strikeOut 6 none 3 := ⟨tg_in 1067 (by decide +kernel) (by decide +kernel), tg_in 79 (by decide +kernel) (by decide +kernel), by decide, by decide, by decide +kernel⟩
theorem mv_X9_strikeOut : MV1 yX9_strikeOut := ⟨tg_in 1066 (by decide +kernel) (by decide +kernel), tg_in 61 (by decide +kernel) (by decide +kernel)⟩
theorem ml_X9_223 : Cond.methodLink RX9 223 yX9_remember ∈ tg := tg_in 1056 (by decide +kernel) (by decide +kernel)
theorem my_X9_remember : MY yX9_remember cX9_remember 2 none 0 := ⟨tg_in 1059 (by decide +kernel) (by decide +kernel), tg_in 79 (by decide +kernel) (by decide +kernel), by decide, by decide, by decide +kernel⟩
theorem mv_X9_remember : MV1 yX9_remember := ⟨tg_in 1058 (by decide +kernel) (by decide +kernel), tg_in 59 (by decide +kernel) (by decide +kernel)⟩
theorem ml_X9_226 : Cond.methodLink RX9 226 yX9_putIn ∈ tg := tg_in 1060 (by decide +kernel) (by decide +kernel)
theorem my_X9_putIn : MY yX9_putIn cX9_putIn 8 none 4 := ⟨tg_in 1063 (by decide +kernel) (by decide +kernel), tg_in 79 (by decide +kernel) (by decide +kernel), by decide, by decide, by decide +kernel⟩
theorem mv_X9_putIn : MV1 yX9_putIn := ⟨tg_in 1062 (by decide +kernel) (by decide +kernel), tg_in 60 (by decide +kernel) (by decide +kernel)⟩
theorem cn_X9_230 : Cond.constant RX9 230 (-1000000003) ∈ tg := tg_in 1072 (by decide +kernel) (by decide +kernel)
theorem ml_X9_231 : Cond.methodLink RX9 231 yX9_setLot ∈ tg := tg_in 1077 (by decide +kernel) (by decide +kernel)
theorem my_X9_setLot : MY yX9_setLot cX9_setLot 4 none 2 := ⟨tg_in 1080 (by decide +kernel) (by decide +kernel), tg_in 79 (by decide +kernel) (by decide +kernel), by decide, by decide, by decide +kernel⟩
theorem mv_X9_setLot : MV1 yX9_setLot := ⟨tg_in 1079 (by decide +kernel) (by decide +kernel), tg_in 62 (by decide +kernel) (by decide +kernel)⟩
theorem ml_X9_234 : Cond.methodLink RX9 234 yX9_moveAll ∈ tg := tg_in 1089 (by decide +kernel) (by decide +kernel)
theorem my_X9_moveAll : MY yX9_moveAll cX9_moveAll 3 (some .int) 0 := ⟨tg_in 1092 (by decide +kernel) (by decide +kernel), tg_in 79 (by decide +kernel) (by decide +kernel), by decide, by decide, by decide +kernel⟩
theorem mv_X9_moveAll : MV1 yX9_moveAll := ⟨tg_in 1091 (by decide +kernel) (by decide +kernel), tg_in 63 (by decide +kernel) (by decide +kernel)⟩
theorem cl_X9_237 : Cond.constantLong RX9 237 (1103515245) ∈ tg := tg_in 1109 (by decide +kernel) (by decide +kernel)
theorem cl_X9_239 : Cond.constantLong RX9 239 (12345) ∈ tg := tg_in 1110 (by decide +kernel) (by decide +kernel)
theorem cl_X9_241 : Cond.constantLong RX9 241 (2147483648) ∈ tg := tg_in 1111 (by decide +kernel) (by decide +kernel)
theorem cn_X9_243 : Cond.constant RX9 243 (65536) ∈ tg := tg_in 1112 (by decide +kernel) (by decide +kernel)
theorem ml_X9_244 : Cond.methodLink RX9 244 yX9_draw ∈ tg := tg_in 1105 (by decide +kernel) (by decide +kernel)
theorem my_X9_draw : MY yX9_draw cX9_draw 4 (some .int) 1 := ⟨tg_in 1108 (by decide +kernel) (by decide +kernel), tg_in 79 (by decide +kernel) (by decide +kernel), by decide, by decide, by decide +kernel⟩
theorem mv_X9_draw : MV1 yX9_draw := ⟨tg_in 1107 (by decide +kernel) (by decide +kernel), tg_in 65 (by decide +kernel) (by decide +kernel)⟩
theorem ml_X9_247 : Cond.methodLink RX9 247 yX9_time ∈ tg := tg_in 1101 (by decide +kernel) (by decide +kernel)
theorem my_X9_time : MY yX9_time cX9_time 4 none 0 := ⟨tg_in 1104 (by decide +kernel) (by decide +kernel), tg_in 79 (by decide +kernel) (by decide +kernel), by decide, by decide, by decide +kernel⟩
theorem mv_X9_time : MV1 yX9_time := ⟨tg_in 1103 (by decide +kernel) (by decide +kernel), tg_in 64 (by decide +kernel) (by decide +kernel)⟩
theorem ml_X9_250 : Cond.methodLink RX9 250 yX9_swap ∈ tg := tg_in 1129 (by decide +kernel) (by decide +kernel)
theorem my_X9_swap : MY yX9_swap cX9_swap 4 none 2 := ⟨tg_in 1132 (by decide +kernel) (by decide +kernel), tg_in 79 (by decide +kernel) (by decide +kernel), by decide, by decide, by decide +kernel⟩
theorem mv_X9_swap : MV1 yX9_swap := ⟨tg_in 1131 (by decide +kernel) (by decide +kernel), tg_in 67 (by decide +kernel) (by decide +kernel)⟩
theorem ml_X9_253 : Cond.methodLink RX9 253 yX9_nextLots ∈ tg := tg_in 1125 (by decide +kernel) (by decide +kernel)
theorem my_X9_nextLots : MY yX9_nextLots cX9_nextLots 5 (some .boolean) 0 := ⟨tg_in 1128 (by decide +kernel) (by decide +kernel), tg_in 79 (by decide +kernel) (by decide +kernel), by decide, by decide, by decide +kernel⟩
theorem mv_X9_nextLots : MV1 yX9_nextLots := ⟨tg_in 1127 (by decide +kernel) (by decide +kernel), tg_in 66 (by decide +kernel) (by decide +kernel)⟩
theorem cl_X9_258 : Cond.constantLong RX9 258 (100) ∈ tg := tg_in 1138 (by decide +kernel) (by decide +kernel)
theorem cl_X9_256 : Cond.constantLong RX9 256 (1000000000) ∈ tg := tg_in 1137 (by decide +kernel) (by decide +kernel)
theorem ml_X9_260 : Cond.methodLink RX9 260 yX9_isRoomOrNone ∈ tg := tg_in 1143 (by decide +kernel) (by decide +kernel)
theorem my_X9_isRoomOrNone : MY yX9_isRoomOrNone cX9_isRoomOrNone 2 (some .boolean) 1 := ⟨tg_in 1146 (by decide +kernel) (by decide +kernel), tg_in 79 (by decide +kernel) (by decide +kernel), by decide, by decide, by decide +kernel⟩
theorem mv_X9_isRoomOrNone : MV1 yX9_isRoomOrNone := ⟨tg_in 1145 (by decide +kernel) (by decide +kernel), tg_in 68 (by decide +kernel) (by decide +kernel)⟩
theorem fl_X9_32 : FL RX9 32 9 13 := ⟨RX9, TX9, 28, rfl, in_X9, by decide, tg_in 809 (by decide +kernel) (by decide +kernel)⟩
theorem fl_X9_35 : FL RX9 35 9 14 := ⟨RX9, TX9, 28, rfl, in_X9, by decide, tg_in 810 (by decide +kernel) (by decide +kernel)⟩
theorem ml_X9_263 : Cond.methodLink RX9 263 yX9_couldBe ∈ tg := tg_in 1155 (by decide +kernel) (by decide +kernel)
theorem my_X9_couldBe : MY yX9_couldBe cX9_couldBe 5 (some .int) 0 := ⟨tg_in 1150 (by decide +kernel) (by decide +kernel), tg_in 79 (by decide +kernel) (by decide +kernel), by decide, by decide, by decide +kernel⟩
theorem mv_X9_couldBe : MV1 yX9_couldBe := ⟨tg_in 1148 (by decide +kernel) (by decide +kernel), tg_in 1149 (by decide +kernel) (by decide +kernel)⟩
theorem fl_X9_38 : FL RX9 38 9 16 := ⟨RX9, TX9, 28, rfl, in_X9, by decide, tg_in 812 (by decide +kernel) (by decide +kernel)⟩
theorem fl_X9_41 : FL RX9 41 9 17 := ⟨RX9, TX9, 28, rfl, in_X9, by decide, tg_in 813 (by decide +kernel) (by decide +kernel)⟩
theorem fl_X9_122 : FL RX9 122 9 4 := ⟨RX9, TX9, 28, rfl, in_X9, by decide, tg_in 800 (by decide +kernel) (by decide +kernel)⟩
theorem ml_L_13 : Cond.methodLink RL 13 yX8_feed ∈ tg := tg_in 308 (by decide +kernel) (by decide +kernel)
theorem ml_L_17 : Cond.methodLink RL 17 yX9_feed ∈ tg := tg_in 881 (by decide +kernel) (by decide +kernel)
theorem my_X8_feed : MY yX8_feed cX8_feed 2 (some .int) 1 := ⟨tg_in 311 (by decide +kernel) (by decide +kernel), tg_in 70 (by decide +kernel) (by decide +kernel), by decide, by decide, by decide +kernel⟩
theorem mv_X8_feed : MV1 yX8_feed := ⟨tg_in 309 (by decide +kernel) (by decide +kernel), tg_in 310 (by decide +kernel) (by decide +kernel)⟩
theorem my_X9_feed : MY yX9_feed cX9_feed 2 (some .int) 1 := ⟨tg_in 884 (by decide +kernel) (by decide +kernel), tg_in 79 (by decide +kernel) (by decide +kernel), by decide, by decide, by decide +kernel⟩
theorem mv_X9_feed : MV1 yX9_feed := ⟨tg_in 882 (by decide +kernel) (by decide +kernel), tg_in 883 (by decide +kernel) (by decide +kernel)⟩
theorem ml_L_18 : Cond.methodLink RL 18 yX8_hostel ∈ tg := tg_in 321 (by decide +kernel) (by decide +kernel)
theorem ml_L_22 : Cond.methodLink RL 22 yX9_hostel ∈ tg := tg_in 890 (by decide +kernel) (by decide +kernel)
theorem my_X8_hostel : MY yX8_hostel cX8_hostel 4 (some .int) 0 := ⟨tg_in 324 (by decide +kernel) (by decide +kernel), tg_in 70 (by decide +kernel) (by decide +kernel), by decide, by decide, by decide +kernel⟩
theorem mv_X8_hostel : MV1 yX8_hostel := ⟨tg_in 322 (by decide +kernel) (by decide +kernel), tg_in 323 (by decide +kernel) (by decide +kernel)⟩
theorem my_X9_hostel : MY yX9_hostel cX9_hostel 2 (some .int) 0 := ⟨tg_in 893 (by decide +kernel) (by decide +kernel), tg_in 79 (by decide +kernel) (by decide +kernel), by decide, by decide, by decide +kernel⟩
theorem mv_X9_hostel : MV1 yX9_hostel := ⟨tg_in 891 (by decide +kernel) (by decide +kernel), tg_in 892 (by decide +kernel) (by decide +kernel)⟩
theorem ml_L_23 : Cond.methodLink RL 23 yX8_fault ∈ tg := tg_in 427 (by decide +kernel) (by decide +kernel)
theorem ml_L_26 : Cond.methodLink RL 26 yX9_fault ∈ tg := tg_in 934 (by decide +kernel) (by decide +kernel)
theorem my_X8_fault : MY yX8_fault cX8_fault 1 (some .int) 0 := ⟨tg_in 430 (by decide +kernel) (by decide +kernel), tg_in 70 (by decide +kernel) (by decide +kernel), by decide, by decide, by decide +kernel⟩
theorem mv_X8_fault : MV1 yX8_fault := ⟨tg_in 428 (by decide +kernel) (by decide +kernel), tg_in 429 (by decide +kernel) (by decide +kernel)⟩
theorem my_X9_fault : MY yX9_fault cX9_fault 1 (some .int) 0 := ⟨tg_in 937 (by decide +kernel) (by decide +kernel), tg_in 79 (by decide +kernel) (by decide +kernel), by decide, by decide, by decide +kernel⟩
theorem mv_X9_fault : MV1 yX9_fault := ⟨tg_in 935 (by decide +kernel) (by decide +kernel), tg_in 936 (by decide +kernel) (by decide +kernel)⟩
theorem ml_L_27 : Cond.methodLink RL 27 yX8_told ∈ tg := tg_in 431 (by decide +kernel) (by decide +kernel)
theorem ml_L_30 : Cond.methodLink RL 30 yX9_told ∈ tg := tg_in 938 (by decide +kernel) (by decide +kernel)
theorem my_X8_told : MY yX8_told cX8_told 2 (some .int) 1 := ⟨tg_in 434 (by decide +kernel) (by decide +kernel), tg_in 70 (by decide +kernel) (by decide +kernel), by decide, by decide, by decide +kernel⟩
theorem mv_X8_told : MV1 yX8_told := ⟨tg_in 432 (by decide +kernel) (by decide +kernel), tg_in 433 (by decide +kernel) (by decide +kernel)⟩
theorem my_X9_told : MY yX9_told cX9_told 2 (some .int) 1 := ⟨tg_in 941 (by decide +kernel) (by decide +kernel), tg_in 79 (by decide +kernel) (by decide +kernel), by decide, by decide, by decide +kernel⟩
theorem mv_X9_told : MV1 yX9_told := ⟨tg_in 939 (by decide +kernel) (by decide +kernel), tg_in 940 (by decide +kernel) (by decide +kernel)⟩
theorem ml_L_31 : Cond.methodLink RL 31 yX8_person ∈ tg := tg_in 536 (by decide +kernel) (by decide +kernel)
theorem ml_L_35 : Cond.methodLink RL 35 yX9_person ∈ tg := tg_in 1015 (by decide +kernel) (by decide +kernel)
theorem my_X8_person : MY yX8_person cX8_person 3 (some .int) 2 := ⟨tg_in 539 (by decide +kernel) (by decide +kernel), tg_in 70 (by decide +kernel) (by decide +kernel), by decide, by decide, by decide +kernel⟩
theorem mv_X8_person : MV1 yX8_person := ⟨tg_in 537 (by decide +kernel) (by decide +kernel), tg_in 538 (by decide +kernel) (by decide +kernel)⟩
theorem my_X9_person : MY yX9_person cX9_person 3 (some .int) 2 := ⟨tg_in 1018 (by decide +kernel) (by decide +kernel), tg_in 79 (by decide +kernel) (by decide +kernel), by decide, by decide, by decide +kernel⟩
theorem mv_X9_person : MV1 yX9_person := ⟨tg_in 1016 (by decide +kernel) (by decide +kernel), tg_in 1017 (by decide +kernel) (by decide +kernel)⟩
theorem ml_L_36 : Cond.methodLink RL 36 yX8_likes ∈ tg := tg_in 576 (by decide +kernel) (by decide +kernel)
theorem ml_L_39 : Cond.methodLink RL 39 yX9_likes ∈ tg := tg_in 1040 (by decide +kernel) (by decide +kernel)
theorem my_X8_likes : MY yX8_likes cX8_likes 3 (some .int) 2 := ⟨tg_in 579 (by decide +kernel) (by decide +kernel), tg_in 70 (by decide +kernel) (by decide +kernel), by decide, by decide, by decide +kernel⟩
theorem mv_X8_likes : MV1 yX8_likes := ⟨tg_in 577 (by decide +kernel) (by decide +kernel), tg_in 578 (by decide +kernel) (by decide +kernel)⟩
theorem my_X9_likes : MY yX9_likes cX9_likes 3 (some .int) 2 := ⟨tg_in 1043 (by decide +kernel) (by decide +kernel), tg_in 79 (by decide +kernel) (by decide +kernel), by decide, by decide, by decide +kernel⟩
theorem mv_X9_likes : MV1 yX9_likes := ⟨tg_in 1041 (by decide +kernel) (by decide +kernel), tg_in 1042 (by decide +kernel) (by decide +kernel)⟩
theorem ml_L_40 : Cond.methodLink RL 40 yX8_room ∈ tg := tg_in 584 (by decide +kernel) (by decide +kernel)
theorem ml_L_43 : Cond.methodLink RL 43 yX9_room ∈ tg := tg_in 1044 (by decide +kernel) (by decide +kernel)
theorem my_X8_room : MY yX8_room cX8_room 3 (some .int) 2 := ⟨tg_in 587 (by decide +kernel) (by decide +kernel), tg_in 70 (by decide +kernel) (by decide +kernel), by decide, by decide, by decide +kernel⟩
theorem mv_X8_room : MV1 yX8_room := ⟨tg_in 585 (by decide +kernel) (by decide +kernel), tg_in 586 (by decide +kernel) (by decide +kernel)⟩
theorem my_X9_room : MY yX9_room cX9_room 3 (some .int) 2 := ⟨tg_in 1047 (by decide +kernel) (by decide +kernel), tg_in 79 (by decide +kernel) (by decide +kernel), by decide, by decide, by decide +kernel⟩
theorem mv_X9_room : MV1 yX9_room := ⟨tg_in 1045 (by decide +kernel) (by decide +kernel), tg_in 1046 (by decide +kernel) (by decide +kernel)⟩
theorem ml_L_44 : Cond.methodLink RL 44 yX8_like ∈ tg := tg_in 594 (by decide +kernel) (by decide +kernel)
theorem ml_L_48 : Cond.methodLink RL 48 yX9_like ∈ tg := tg_in 1052 (by decide +kernel) (by decide +kernel)
theorem my_X8_like : MY yX8_like cX8_like 4 (some .int) 3 := ⟨tg_in 597 (by decide +kernel) (by decide +kernel), tg_in 70 (by decide +kernel) (by decide +kernel), by decide, by decide, by decide +kernel⟩
theorem mv_X8_like : MV1 yX8_like := ⟨tg_in 595 (by decide +kernel) (by decide +kernel), tg_in 596 (by decide +kernel) (by decide +kernel)⟩
theorem my_X9_like : MY yX9_like cX9_like 4 (some .int) 3 := ⟨tg_in 1055 (by decide +kernel) (by decide +kernel), tg_in 79 (by decide +kernel) (by decide +kernel), by decide, by decide, by decide +kernel⟩
theorem mv_X9_like : MV1 yX9_like := ⟨tg_in 1053 (by decide +kernel) (by decide +kernel), tg_in 1054 (by decide +kernel) (by decide +kernel)⟩
theorem ml_L_49 : Cond.methodLink RL 49 yX8_strike ∈ tg := tg_in 617 (by decide +kernel) (by decide +kernel)
theorem ml_L_52 : Cond.methodLink RL 52 yX9_strike ∈ tg := tg_in 1068 (by decide +kernel) (by decide +kernel)
theorem my_X8_strike : MY yX8_strike cX8_strike 3 (some .int) 2 := ⟨tg_in 620 (by decide +kernel) (by decide +kernel), tg_in 70 (by decide +kernel) (by decide +kernel), by decide, by decide, by decide +kernel⟩
theorem mv_X8_strike : MV1 yX8_strike := ⟨tg_in 618 (by decide +kernel) (by decide +kernel), tg_in 619 (by decide +kernel) (by decide +kernel)⟩
theorem my_X9_strike : MY yX9_strike cX9_strike 3 (some .int) 2 := ⟨tg_in 1071 (by decide +kernel) (by decide +kernel), tg_in 79 (by decide +kernel) (by decide +kernel), by decide, by decide, by decide +kernel⟩
theorem mv_X9_strike : MV1 yX9_strike := ⟨tg_in 1069 (by decide +kernel) (by decide +kernel), tg_in 1070 (by decide +kernel) (by decide +kernel)⟩
theorem ml_L_53 : Cond.methodLink RL 53 yX8_lot ∈ tg := tg_in 624 (by decide +kernel) (by decide +kernel)
theorem ml_L_56 : Cond.methodLink RL 56 yX9_lot ∈ tg := tg_in 1073 (by decide +kernel) (by decide +kernel)
theorem my_X8_lot : MY yX8_lot cX8_lot 4 (some .int) 2 := ⟨tg_in 627 (by decide +kernel) (by decide +kernel), tg_in 70 (by decide +kernel) (by decide +kernel), by decide, by decide, by decide +kernel⟩
theorem mv_X8_lot : MV1 yX8_lot := ⟨tg_in 625 (by decide +kernel) (by decide +kernel), tg_in 626 (by decide +kernel) (by decide +kernel)⟩
theorem my_X9_lot : MY yX9_lot cX9_lot 4 (some .int) 2 := ⟨tg_in 1076 (by decide +kernel) (by decide +kernel), tg_in 79 (by decide +kernel) (by decide +kernel), by decide, by decide, by decide +kernel⟩
theorem mv_X9_lot : MV1 yX9_lot := ⟨tg_in 1074 (by decide +kernel) (by decide +kernel), tg_in 1075 (by decide +kernel) (by decide +kernel)⟩
theorem ml_L_57 : Cond.methodLink RL 57 yX8_refuse ∈ tg := tg_in 633 (by decide +kernel) (by decide +kernel)
theorem ml_L_60 : Cond.methodLink RL 60 yX9_refuse ∈ tg := tg_in 1081 (by decide +kernel) (by decide +kernel)
theorem my_X8_refuse : MY yX8_refuse cX8_refuse 3 (some .int) 1 := ⟨tg_in 636 (by decide +kernel) (by decide +kernel), tg_in 70 (by decide +kernel) (by decide +kernel), by decide, by decide, by decide +kernel⟩
theorem mv_X8_refuse : MV1 yX8_refuse := ⟨tg_in 634 (by decide +kernel) (by decide +kernel), tg_in 635 (by decide +kernel) (by decide +kernel)⟩
theorem my_X9_refuse : MY yX9_refuse cX9_refuse 2 (some .int) 1 := ⟨tg_in 1084 (by decide +kernel) (by decide +kernel), tg_in 79 (by decide +kernel) (by decide +kernel), by decide, by decide, by decide +kernel⟩
theorem mv_X9_refuse : MV1 yX9_refuse := ⟨tg_in 1082 (by decide +kernel) (by decide +kernel), tg_in 1083 (by decide +kernel) (by decide +kernel)⟩
theorem ml_L_61 : Cond.methodLink RL 61 yX8_moved ∈ tg := tg_in 637 (by decide +kernel) (by decide +kernel)
theorem ml_L_64 : Cond.methodLink RL 64 yX9_moved ∈ tg := tg_in 1085 (by decide +kernel) (by decide +kernel)
theorem my_X8_moved : MY yX8_moved cX8_moved 1 (some .int) 0 := ⟨tg_in 640 (by decide +kernel) (by decide +kernel), tg_in 70 (by decide +kernel) (by decide +kernel), by decide, by decide, by decide +kernel⟩
theorem mv_X8_moved : MV1 yX8_moved := ⟨tg_in 638 (by decide +kernel) (by decide +kernel), tg_in 639 (by decide +kernel) (by decide +kernel)⟩
theorem my_X9_moved : MY yX9_moved cX9_moved 1 (some .int) 0 := ⟨tg_in 1088 (by decide +kernel) (by decide +kernel), tg_in 79 (by decide +kernel) (by decide +kernel), by decide, by decide, by decide +kernel⟩
theorem mv_X9_moved : MV1 yX9_moved := ⟨tg_in 1086 (by decide +kernel) (by decide +kernel), tg_in 1087 (by decide +kernel) (by decide +kernel)⟩
theorem ml_L_65 : Cond.methodLink RL 65 yX8_leave ∈ tg := tg_in 646 (by decide +kernel) (by decide +kernel)
theorem ml_L_68 : Cond.methodLink RL 68 yX9_leave ∈ tg := tg_in 1093 (by decide +kernel) (by decide +kernel)
theorem my_X8_leave : MY yX8_leave cX8_leave 3 (some .int) 1 := ⟨tg_in 649 (by decide +kernel) (by decide +kernel), tg_in 70 (by decide +kernel) (by decide +kernel), by decide, by decide, by decide +kernel⟩
theorem mv_X8_leave : MV1 yX8_leave := ⟨tg_in 647 (by decide +kernel) (by decide +kernel), tg_in 648 (by decide +kernel) (by decide +kernel)⟩
theorem my_X9_leave : MY yX9_leave cX9_leave 3 (some .int) 1 := ⟨tg_in 1096 (by decide +kernel) (by decide +kernel), tg_in 79 (by decide +kernel) (by decide +kernel), by decide, by decide, by decide +kernel⟩
theorem mv_X9_leave : MV1 yX9_leave := ⟨tg_in 1094 (by decide +kernel) (by decide +kernel), tg_in 1095 (by decide +kernel) (by decide +kernel)⟩
theorem ml_L_69 : Cond.methodLink RL 69 yX8_drift ∈ tg := tg_in 650 (by decide +kernel) (by decide +kernel)
theorem ml_L_72 : Cond.methodLink RL 72 yX9_drift ∈ tg := tg_in 1097 (by decide +kernel) (by decide +kernel)
theorem my_X8_drift : MY yX8_drift cX8_drift 3 (some .int) 1 := ⟨tg_in 653 (by decide +kernel) (by decide +kernel), tg_in 70 (by decide +kernel) (by decide +kernel), by decide, by decide, by decide +kernel⟩
theorem mv_X8_drift : MV1 yX8_drift := ⟨tg_in 651 (by decide +kernel) (by decide +kernel), tg_in 652 (by decide +kernel) (by decide +kernel)⟩
theorem my_X9_drift : MY yX9_drift cX9_drift 3 (some .int) 1 := ⟨tg_in 1100 (by decide +kernel) (by decide +kernel), tg_in 79 (by decide +kernel) (by decide +kernel), by decide, by decide, by decide +kernel⟩
theorem mv_X9_drift : MV1 yX9_drift := ⟨tg_in 1098 (by decide +kernel) (by decide +kernel), tg_in 1099 (by decide +kernel) (by decide +kernel)⟩
theorem ml_L_73 : Cond.methodLink RL 73 yX8_undo ∈ tg := tg_in 667 (by decide +kernel) (by decide +kernel)
theorem ml_L_76 : Cond.methodLink RL 76 yX9_undo ∈ tg := tg_in 1113 (by decide +kernel) (by decide +kernel)
theorem my_X8_undo : MY yX8_undo cX8_undo 2 (some .int) 1 := ⟨tg_in 670 (by decide +kernel) (by decide +kernel), tg_in 70 (by decide +kernel) (by decide +kernel), by decide, by decide, by decide +kernel⟩
theorem mv_X8_undo : MV1 yX8_undo := ⟨tg_in 668 (by decide +kernel) (by decide +kernel), tg_in 669 (by decide +kernel) (by decide +kernel)⟩
theorem my_X9_undo : MY yX9_undo cX9_undo 3 (some .int) 1 := ⟨tg_in 1116 (by decide +kernel) (by decide +kernel), tg_in 79 (by decide +kernel) (by decide +kernel), by decide, by decide, by decide +kernel⟩
theorem mv_X9_undo : MV1 yX9_undo := ⟨tg_in 1114 (by decide +kernel) (by decide +kernel), tg_in 1115 (by decide +kernel) (by decide +kernel)⟩
theorem ml_L_77 : Cond.methodLink RL 77 yX8_otherwise ∈ tg := tg_in 675 (by decide +kernel) (by decide +kernel)
theorem ml_L_80 : Cond.methodLink RL 80 yX9_otherwise ∈ tg := tg_in 1117 (by decide +kernel) (by decide +kernel)
theorem my_X8_otherwise : MY yX8_otherwise cX8_otherwise 3 (some .int) 2 := ⟨tg_in 678 (by decide +kernel) (by decide +kernel), tg_in 70 (by decide +kernel) (by decide +kernel), by decide, by decide, by decide +kernel⟩
theorem mv_X8_otherwise : MV1 yX8_otherwise := ⟨tg_in 676 (by decide +kernel) (by decide +kernel), tg_in 677 (by decide +kernel) (by decide +kernel)⟩
theorem my_X9_otherwise : MY yX9_otherwise cX9_otherwise 3 (some .int) 2 := ⟨tg_in 1120 (by decide +kernel) (by decide +kernel), tg_in 79 (by decide +kernel) (by decide +kernel), by decide, by decide, by decide +kernel⟩
theorem mv_X9_otherwise : MV1 yX9_otherwise := ⟨tg_in 1118 (by decide +kernel) (by decide +kernel), tg_in 1119 (by decide +kernel) (by decide +kernel)⟩
theorem ml_L_81 : Cond.methodLink RL 81 yX8_odds ∈ tg := tg_in 684 (by decide +kernel) (by decide +kernel)
theorem ml_L_84 : Cond.methodLink RL 84 yX9_odds ∈ tg := tg_in 1121 (by decide +kernel) (by decide +kernel)
theorem my_X8_odds : MY yX8_odds cX8_odds 6 (some .int) 2 := ⟨tg_in 687 (by decide +kernel) (by decide +kernel), tg_in 70 (by decide +kernel) (by decide +kernel), by decide, by decide, by decide +kernel⟩
theorem mv_X8_odds : MV1 yX8_odds := ⟨tg_in 685 (by decide +kernel) (by decide +kernel), tg_in 686 (by decide +kernel) (by decide +kernel)⟩
theorem my_X9_odds : MY yX9_odds cX9_odds 5 (some .int) 2 := ⟨tg_in 1124 (by decide +kernel) (by decide +kernel), tg_in 79 (by decide +kernel) (by decide +kernel), by decide, by decide, by decide +kernel⟩
theorem mv_X9_odds : MV1 yX9_odds := ⟨tg_in 1122 (by decide +kernel) (by decide +kernel), tg_in 1123 (by decide +kernel) (by decide +kernel)⟩
theorem ml_L_85 : Cond.methodLink RL 85 yX8_quiet ∈ tg := tg_in 706 (by decide +kernel) (by decide +kernel)
theorem ml_L_88 : Cond.methodLink RL 88 yX9_quiet ∈ tg := tg_in 1133 (by decide +kernel) (by decide +kernel)
theorem my_X8_quiet : MY yX8_quiet cX8_quiet 6 (some .int) 2 := ⟨tg_in 709 (by decide +kernel) (by decide +kernel), tg_in 70 (by decide +kernel) (by decide +kernel), by decide, by decide, by decide +kernel⟩
theorem mv_X8_quiet : MV1 yX8_quiet := ⟨tg_in 707 (by decide +kernel) (by decide +kernel), tg_in 708 (by decide +kernel) (by decide +kernel)⟩
theorem my_X9_quiet : MY yX9_quiet cX9_quiet 6 (some .int) 2 := ⟨tg_in 1136 (by decide +kernel) (by decide +kernel), tg_in 79 (by decide +kernel) (by decide +kernel), by decide, by decide, by decide +kernel⟩
theorem mv_X9_quiet : MV1 yX9_quiet := ⟨tg_in 1134 (by decide +kernel) (by decide +kernel), tg_in 1135 (by decide +kernel) (by decide +kernel)⟩
theorem ml_L_89 : Cond.methodLink RL 89 yX8_see ∈ tg := tg_in 712 (by decide +kernel) (by decide +kernel)
theorem ml_L_93 : Cond.methodLink RL 93 yX9_see ∈ tg := tg_in 1139 (by decide +kernel) (by decide +kernel)
theorem my_X8_see : MY yX8_see cX8_see 3 (some .int) 2 := ⟨tg_in 715 (by decide +kernel) (by decide +kernel), tg_in 70 (by decide +kernel) (by decide +kernel), by decide, by decide, by decide +kernel⟩
theorem mv_X8_see : MV1 yX8_see := ⟨tg_in 713 (by decide +kernel) (by decide +kernel), tg_in 714 (by decide +kernel) (by decide +kernel)⟩
theorem my_X9_see : MY yX9_see cX9_see 3 (some .int) 2 := ⟨tg_in 1142 (by decide +kernel) (by decide +kernel), tg_in 79 (by decide +kernel) (by decide +kernel), by decide, by decide, by decide +kernel⟩
theorem mv_X9_see : MV1 yX9_see := ⟨tg_in 1140 (by decide +kernel) (by decide +kernel), tg_in 1141 (by decide +kernel) (by decide +kernel)⟩
theorem ml_L_94 : Cond.methodLink RL 94 yX8_couldBe ∈ tg := tg_in 722 (by decide +kernel) (by decide +kernel)
theorem ml_L_97 : Cond.methodLink RL 97 yX9_couldBe ∈ tg := tg_in 1147 (by decide +kernel) (by decide +kernel)
theorem my_X8_couldBe : MY yX8_couldBe cX8_couldBe 1 (some .int) 0 := ⟨tg_in 725 (by decide +kernel) (by decide +kernel), tg_in 70 (by decide +kernel) (by decide +kernel), by decide, by decide, by decide +kernel⟩
theorem mv_X8_couldBe : MV1 yX8_couldBe := ⟨tg_in 723 (by decide +kernel) (by decide +kernel), tg_in 724 (by decide +kernel) (by decide +kernel)⟩
theorem ml_L_98 : Cond.methodLink RL 98 yX8_ask ∈ tg := tg_in 737 (by decide +kernel) (by decide +kernel)
theorem ml_L_101 : Cond.methodLink RL 101 yX9_ask ∈ tg := tg_in 1151 (by decide +kernel) (by decide +kernel)
theorem my_X8_ask : MY yX8_ask cX8_ask 8 (some .int) 0 := ⟨tg_in 740 (by decide +kernel) (by decide +kernel), tg_in 70 (by decide +kernel) (by decide +kernel), by decide, by decide, by decide +kernel⟩
theorem mv_X8_ask : MV1 yX8_ask := ⟨tg_in 738 (by decide +kernel) (by decide +kernel), tg_in 739 (by decide +kernel) (by decide +kernel)⟩
theorem my_X9_ask : MY yX9_ask cX9_ask 7 (some .int) 0 := ⟨tg_in 1154 (by decide +kernel) (by decide +kernel), tg_in 79 (by decide +kernel) (by decide +kernel), by decide, by decide, by decide +kernel⟩
theorem mv_X9_ask : MV1 yX9_ask := ⟨tg_in 1152 (by decide +kernel) (by decide +kernel), tg_in 1153 (by decide +kernel) (by decide +kernel)⟩
theorem ml_L_102 : Cond.methodLink RL 102 yX8_write ∈ tg := tg_in 745 (by decide +kernel) (by decide +kernel)
theorem ml_L_105 : Cond.methodLink RL 105 yX9_write ∈ tg := tg_in 1156 (by decide +kernel) (by decide +kernel)
theorem my_X8_write : MY yX8_write cX8_write 3 (some .int) 2 := ⟨tg_in 748 (by decide +kernel) (by decide +kernel), tg_in 70 (by decide +kernel) (by decide +kernel), by decide, by decide, by decide +kernel⟩
theorem mv_X8_write : MV1 yX8_write := ⟨tg_in 746 (by decide +kernel) (by decide +kernel), tg_in 747 (by decide +kernel) (by decide +kernel)⟩
theorem my_X9_write : MY yX9_write cX9_write 3 (some .int) 2 := ⟨tg_in 1159 (by decide +kernel) (by decide +kernel), tg_in 79 (by decide +kernel) (by decide +kernel), by decide, by decide, by decide +kernel⟩
theorem mv_X9_write : MV1 yX9_write := ⟨tg_in 1157 (by decide +kernel) (by decide +kernel), tg_in 1158 (by decide +kernel) (by decide +kernel)⟩
theorem ml_L_106 : Cond.methodLink RL 106 yX8_judge ∈ tg := tg_in 753 (by decide +kernel) (by decide +kernel)
theorem ml_L_109 : Cond.methodLink RL 109 yX9_judge ∈ tg := tg_in 1160 (by decide +kernel) (by decide +kernel)
theorem my_X8_judge : MY yX8_judge cX8_judge 1 (some .int) 0 := ⟨tg_in 756 (by decide +kernel) (by decide +kernel), tg_in 70 (by decide +kernel) (by decide +kernel), by decide, by decide, by decide +kernel⟩
theorem mv_X8_judge : MV1 yX8_judge := ⟨tg_in 754 (by decide +kernel) (by decide +kernel), tg_in 755 (by decide +kernel) (by decide +kernel)⟩
theorem my_X9_judge : MY yX9_judge cX9_judge 2 (some .int) 0 := ⟨tg_in 1163 (by decide +kernel) (by decide +kernel), tg_in 79 (by decide +kernel) (by decide +kernel), by decide, by decide, by decide +kernel⟩
theorem mv_X9_judge : MV1 yX9_judge := ⟨tg_in 1161 (by decide +kernel) (by decide +kernel), tg_in 1162 (by decide +kernel) (by decide +kernel)⟩
theorem ml_L_110 : Cond.methodLink RL 110 yX8_tear ∈ tg := tg_in 761 (by decide +kernel) (by decide +kernel)
theorem ml_L_113 : Cond.methodLink RL 113 yX9_tear ∈ tg := tg_in 1164 (by decide +kernel) (by decide +kernel)
theorem my_X8_tear : MY yX8_tear cX8_tear 2 (some .int) 0 := ⟨tg_in 764 (by decide +kernel) (by decide +kernel), tg_in 70 (by decide +kernel) (by decide +kernel), by decide, by decide, by decide +kernel⟩
theorem mv_X8_tear : MV1 yX8_tear := ⟨tg_in 762 (by decide +kernel) (by decide +kernel), tg_in 763 (by decide +kernel) (by decide +kernel)⟩
theorem my_X9_tear : MY yX9_tear cX9_tear 2 (some .int) 0 := ⟨tg_in 1167 (by decide +kernel) (by decide +kernel), tg_in 79 (by decide +kernel) (by decide +kernel), by decide, by decide, by decide +kernel⟩
theorem mv_X9_tear : MV1 yX9_tear := ⟨tg_in 1165 (by decide +kernel) (by decide +kernel), tg_in 1166 (by decide +kernel) (by decide +kernel)⟩
theorem ml_L_114 : Cond.methodLink RL 114 yX8_seed ∈ tg := tg_in 765 (by decide +kernel) (by decide +kernel)
theorem ml_L_117 : Cond.methodLink RL 117 yX9_seed ∈ tg := tg_in 1168 (by decide +kernel) (by decide +kernel)
theorem my_X8_seed : MY yX8_seed cX8_seed 3 (some .int) 1 := ⟨tg_in 768 (by decide +kernel) (by decide +kernel), tg_in 70 (by decide +kernel) (by decide +kernel), by decide, by decide, by decide +kernel⟩
theorem mv_X8_seed : MV1 yX8_seed := ⟨tg_in 766 (by decide +kernel) (by decide +kernel), tg_in 767 (by decide +kernel) (by decide +kernel)⟩
theorem my_X9_seed : MY yX9_seed cX9_seed 3 (some .int) 1 := ⟨tg_in 1171 (by decide +kernel) (by decide +kernel), tg_in 79 (by decide +kernel) (by decide +kernel), by decide, by decide, by decide +kernel⟩
theorem mv_X9_seed : MV1 yX9_seed := ⟨tg_in 1169 (by decide +kernel) (by decide +kernel), tg_in 1170 (by decide +kernel) (by decide +kernel)⟩
theorem ml_L_118 : Cond.methodLink RL 118 yX8_keep ∈ tg := tg_in 769 (by decide +kernel) (by decide +kernel)
theorem ml_L_121 : Cond.methodLink RL 121 yX9_keep ∈ tg := tg_in 1172 (by decide +kernel) (by decide +kernel)
theorem my_X8_keep : MY yX8_keep cX8_keep 3 (some .int) 1 := ⟨tg_in 772 (by decide +kernel) (by decide +kernel), tg_in 70 (by decide +kernel) (by decide +kernel), by decide, by decide, by decide +kernel⟩
theorem mv_X8_keep : MV1 yX8_keep := ⟨tg_in 770 (by decide +kernel) (by decide +kernel), tg_in 771 (by decide +kernel) (by decide +kernel)⟩
theorem my_X9_keep : MY yX9_keep cX9_keep 2 (some .int) 1 := ⟨tg_in 1175 (by decide +kernel) (by decide +kernel), tg_in 79 (by decide +kernel) (by decide +kernel), by decide, by decide, by decide +kernel⟩
theorem mv_X9_keep : MV1 yX9_keep := ⟨tg_in 1173 (by decide +kernel) (by decide +kernel), tg_in 1174 (by decide +kernel) (by decide +kernel)⟩
theorem ml_L_122 : Cond.methodLink RL 122 yX8_goBack ∈ tg := tg_in 782 (by decide +kernel) (by decide +kernel)
theorem ml_L_125 : Cond.methodLink RL 125 yX9_goBack ∈ tg := tg_in 1176 (by decide +kernel) (by decide +kernel)
theorem my_X8_goBack : MY yX8_goBack cX8_goBack 3 (some .int) 1 := ⟨tg_in 785 (by decide +kernel) (by decide +kernel), tg_in 70 (by decide +kernel) (by decide +kernel), by decide, by decide, by decide +kernel⟩
theorem mv_X8_goBack : MV1 yX8_goBack := ⟨tg_in 783 (by decide +kernel) (by decide +kernel), tg_in 784 (by decide +kernel) (by decide +kernel)⟩
theorem my_X9_goBack : MY yX9_goBack cX9_goBack 2 (some .int) 1 := ⟨tg_in 1179 (by decide +kernel) (by decide +kernel), tg_in 79 (by decide +kernel) (by decide +kernel), by decide, by decide, by decide +kernel⟩
theorem mv_X9_goBack : MV1 yX9_goBack := ⟨tg_in 1177 (by decide +kernel) (by decide +kernel), tg_in 1178 (by decide +kernel) (by decide +kernel)⟩
theorem nw_L_7 : NW RL 7 8 9 [.inr none, .inr none, .inr none, .inr none, .inr none, .inr none, .inr none, .inr none, .inr none] := ⟨RX8, TX8, tyX8, rfl, in_X8, tyX8_ok, tg_in 83 (by decide +kernel) (by decide +kernel), tg_in 84 (by decide +kernel) (by decide +kernel), tg_in 70 (by decide +kernel) (by decide +kernel), fun b => lt_s (lt_s (lt_s (lt_s (lt_s (lt_s (lt_s (lt_s (lt_s (lt_0) rfl) rfl) rfl) rfl) rfl) rfl) rfl) rfl) rfl⟩
theorem nw_L_10 : NW RL 10 9 28 [.inr none, .inl 0, .inl 0, .inl 0, .inl 0, .inr none, .inl 0, .inl 0, .inr none, .inr none, .inr none, .inl 0, .inr none, .inr none, .inr none, .inl 0, .inr none, .inr none, .inl 0, .inl 0, .inl 0, .inl 0, .inl 0, .inl 0, .inl 0, .inl 0, .inl 0, .inr none] := ⟨RX9, TX9, tyX9, rfl, in_X9, tyX9_ok, tg_in 786 (by decide +kernel) (by decide +kernel), tg_in 787 (by decide +kernel) (by decide +kernel), tg_in 79 (by decide +kernel) (by decide +kernel), fun b => lt_s (lt_s (lt_s (lt_s (lt_s (lt_s (lt_s (lt_s (lt_s (lt_s (lt_s (lt_s (lt_s (lt_s (lt_s (lt_s (lt_s (lt_s (lt_s (lt_s (lt_s (lt_s (lt_s (lt_s (lt_s (lt_s (lt_s (lt_s (lt_0) rfl) rfl) rfl) rfl) rfl) rfl) rfl) rfl) rfl) rfl) rfl) rfl) rfl) rfl) rfl) rfl) rfl) rfl) rfl) rfl) rfl) rfl) rfl) rfl) rfl) rfl) rfl) rfl⟩
theorem ml_L_9 : Cond.methodLink RL 9 yX8_init ∈ tg := tg_in 85 (by decide +kernel) (by decide +kernel)
theorem ml_L_12 : Cond.methodLink RL 12 yX9_init ∈ tg := tg_in 788 (by decide +kernel) (by decide +kernel)
theorem my_X8_init : MY yX8_init cX8_init 2 none 0 := ⟨tg_in 87 (by decide +kernel) (by decide +kernel), tg_in 70 (by decide +kernel) (by decide +kernel), by decide, by decide, by decide +kernel⟩
theorem my_X9_init : MY yX9_init cX9_init 1 none 0 := ⟨tg_in 790 (by decide +kernel) (by decide +kernel), tg_in 79 (by decide +kernel) (by decide +kernel), by decide, by decide, by decide +kernel⟩
theorem mi_X8_init : Cond.instanceMethod yX8_init ∈ tg := tg_in 86 (by decide +kernel) (by decide +kernel)
theorem mi_X9_init : Cond.instanceMethod yX9_init ∈ tg := tg_in 789 (by decide +kernel) (by decide +kernel)
