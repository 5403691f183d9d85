set_option maxRecDepth 20000 in
theorem uw_X0 : ∀ w ∈ u_ws RX0 TX0 3, w ∈ tb := fun w h => tb_in ((show ∀ w ∈ u_ws RX0 TX0 3, w ∈ lw_tbl by decide +kernel) w h) ((show ∀ w ∈ u_ws RX0 TX0 3, goodWord w = true by decide +kernel) w h)
set_option maxRecDepth 20000 in
theorem uw_X1 : ∀ w ∈ u_ws RX1 TX1 3, w ∈ tb := fun w h => tb_in ((show ∀ w ∈ u_ws RX1 TX1 3, w ∈ lw_tbl by decide +kernel) w h) ((show ∀ w ∈ u_ws RX1 TX1 3, goodWord w = true by decide +kernel) w h)
set_option maxRecDepth 20000 in
theorem uw_X2 : ∀ w ∈ u_ws RX2 TX2 14, w ∈ tb := fun w h => tb_in ((show ∀ w ∈ u_ws RX2 TX2 14, w ∈ lw_tbl by decide +kernel) w h) ((show ∀ w ∈ u_ws RX2 TX2 14, goodWord w = true by decide +kernel) w h)
set_option maxRecDepth 20000 in
theorem uw_X3 : ∀ w ∈ u_ws RX3 TX3 7, w ∈ tb := fun w h => tb_in ((show ∀ w ∈ u_ws RX3 TX3 7, w ∈ lw_tbl by decide +kernel) w h) ((show ∀ w ∈ u_ws RX3 TX3 7, goodWord w = true by decide +kernel) w h)
set_option maxRecDepth 20000 in
theorem uw_X4 : ∀ w ∈ u_ws RX4 TX4 2, w ∈ tb := fun w h => tb_in ((show ∀ w ∈ u_ws RX4 TX4 2, w ∈ lw_tbl by decide +kernel) w h) ((show ∀ w ∈ u_ws RX4 TX4 2, goodWord w = true by decide +kernel) w h)
set_option maxRecDepth 20000 in
theorem uw_X5 : ∀ w ∈ u_ws RX5 TX5 2, w ∈ tb := fun w h => tb_in ((show ∀ w ∈ u_ws RX5 TX5 2, w ∈ lw_tbl by decide +kernel) w h) ((show ∀ w ∈ u_ws RX5 TX5 2, goodWord w = true by decide +kernel) w h)
set_option maxRecDepth 20000 in
theorem uw_X6 : ∀ w ∈ u_ws RX6 TX6 6, w ∈ tb := fun w h => tb_in ((show ∀ w ∈ u_ws RX6 TX6 6, w ∈ lw_tbl by decide +kernel) w h) ((show ∀ w ∈ u_ws RX6 TX6 6, goodWord w = true by decide +kernel) w h)
set_option maxRecDepth 20000 in
theorem uw_X7 : ∀ w ∈ u_ws RX7 TX7 1, w ∈ tb := fun w h => tb_in ((show ∀ w ∈ u_ws RX7 TX7 1, w ∈ lw_tbl by decide +kernel) w h) ((show ∀ w ∈ u_ws RX7 TX7 1, goodWord w = true by decide +kernel) w h)
set_option maxRecDepth 20000 in
theorem uw_X8 : ∀ w ∈ u_ws RX8 TX8 13, w ∈ tb := fun w h => tb_in ((show ∀ w ∈ u_ws RX8 TX8 13, w ∈ lw_tbl by decide +kernel) w h) ((show ∀ w ∈ u_ws RX8 TX8 13, goodWord w = true by decide +kernel) w h)
set_option maxRecDepth 20000 in
theorem uw_X9 : ∀ w ∈ u_ws RX9 TX9 47, w ∈ tb := fun w h => tb_in ((show ∀ w ∈ u_ws RX9 TX9 47, w ∈ lw_tbl by decide +kernel) w h) ((show ∀ w ∈ u_ws RX9 TX9 47, goodWord w = true by decide +kernel) w h)
theorem fl_RX0_9 : FL RX0 9 0 0 := ⟨(RX0, TX0, 3), rfl, by decide, tb_in (List.mem_of_getElem? (i := 121) (by decide +kernel)) rfl, uw_X0⟩
theorem fl_RX0_15 : FL RX0 15 0 1 := ⟨(RX0, TX0, 3), rfl, by decide, tb_in (List.mem_of_getElem? (i := 122) (by decide +kernel)) rfl, uw_X0⟩
theorem fp_RX0_15 : FP RX0 15 0 1 .int := ⟨(RX0, TX0, 3), tyX0, rfl, by decide, tb_in (List.mem_of_getElem? (i := 122) (by decide +kernel)) rfl, uw_X0, rfl, by decide +kernel, tyX0_ok, nmX0⟩
theorem fl_RX0_19 : FL RX0 19 0 2 := ⟨(RX0, TX0, 3), rfl, by decide, tb_in (List.mem_of_getElem? (i := 124) (by decide +kernel)) rfl, uw_X0⟩
theorem fl_RX1_7 : FL RX1 7 1 0 := ⟨(RX1, TX1, 3), rfl, by decide, tb_in (List.mem_of_getElem? (i := 704) (by decide +kernel)) rfl, uw_X1⟩
theorem fl_RX1_13 : FL RX1 13 1 1 := ⟨(RX1, TX1, 3), rfl, by decide, tb_in (List.mem_of_getElem? (i := 706) (by decide +kernel)) rfl, uw_X1⟩
theorem fl_RX1_17 : FL RX1 17 1 2 := ⟨(RX1, TX1, 3), rfl, by decide, tb_in (List.mem_of_getElem? (i := 708) (by decide +kernel)) rfl, uw_X1⟩
theorem fp_RX1_17 : FP RX1 17 1 2 .int := ⟨(RX1, TX1, 3), tyX1, rfl, by decide, tb_in (List.mem_of_getElem? (i := 708) (by decide +kernel)) rfl, uw_X1, rfl, by decide +kernel, tyX1_ok, nmX1⟩
theorem fl_RX2_10 : FL RX2 10 2 4 := ⟨(RX2, TX2, 14), rfl, by decide, tb_in (List.mem_of_getElem? (i := 253) (by decide +kernel)) rfl, uw_X2⟩
theorem fl_RX2_16 : FL RX2 16 2 5 := ⟨(RX2, TX2, 14), rfl, by decide, tb_in (List.mem_of_getElem? (i := 256) (by decide +kernel)) rfl, uw_X2⟩
theorem fl_RX2_19 : FL RX2 19 2 6 := ⟨(RX2, TX2, 14), rfl, by decide, tb_in (List.mem_of_getElem? (i := 260) (by decide +kernel)) rfl, uw_X2⟩
theorem fl_RX2_22 : FL RX2 22 2 7 := ⟨(RX2, TX2, 14), rfl, by decide, tb_in (List.mem_of_getElem? (i := 262) (by decide +kernel)) rfl, uw_X2⟩
theorem fl_RX2_25 : FL RX2 25 2 0 := ⟨(RX2, TX2, 14), rfl, by decide, tb_in (List.mem_of_getElem? (i := 242) (by decide +kernel)) rfl, uw_X2⟩
theorem fl_RX2_29 : FL RX2 29 2 1 := ⟨(RX2, TX2, 14), rfl, by decide, tb_in (List.mem_of_getElem? (i := 246) (by decide +kernel)) rfl, uw_X2⟩
theorem fl_RX2_32 : FL RX2 32 2 9 := ⟨(RX2, TX2, 14), rfl, by decide, tb_in (List.mem_of_getElem? (i := 267) (by decide +kernel)) rfl, uw_X2⟩
theorem fp_RX2_32 : FP RX2 32 2 9 .int := ⟨(RX2, TX2, 14), tyX2, rfl, by decide, tb_in (List.mem_of_getElem? (i := 267) (by decide +kernel)) rfl, uw_X2, rfl, by decide +kernel, tyX2_ok, nmX2⟩
theorem fl_RX2_35 : FL RX2 35 2 2 := ⟨(RX2, TX2, 14), rfl, by decide, tb_in (List.mem_of_getElem? (i := 248) (by decide +kernel)) rfl, uw_X2⟩
theorem fl_RX2_38 : FL RX2 38 2 3 := ⟨(RX2, TX2, 14), rfl, by decide, tb_in (List.mem_of_getElem? (i := 251) (by decide +kernel)) rfl, uw_X2⟩
theorem fl_RX2_41 : FL RX2 41 2 10 := ⟨(RX2, TX2, 14), rfl, by decide, tb_in (List.mem_of_getElem? (i := 270) (by decide +kernel)) rfl, uw_X2⟩
theorem fp_RX2_41 : FP RX2 41 2 10 .int := ⟨(RX2, TX2, 14), tyX2, rfl, by decide, tb_in (List.mem_of_getElem? (i := 270) (by decide +kernel)) rfl, uw_X2, rfl, by decide +kernel, tyX2_ok, nmX2⟩
theorem fl_RX2_48 : FL RX2 48 2 13 := ⟨(RX2, TX2, 14), rfl, by decide, tb_in (List.mem_of_getElem? (i := 280) (by decide +kernel)) rfl, uw_X2⟩
theorem fl_RX2_52 : FL RX2 52 2 11 := ⟨(RX2, TX2, 14), rfl, by decide, tb_in (List.mem_of_getElem? (i := 275) (by decide +kernel)) rfl, uw_X2⟩
theorem fp_RX2_52 : FP RX2 52 2 11 .int := ⟨(RX2, TX2, 14), tyX2, rfl, by decide, tb_in (List.mem_of_getElem? (i := 275) (by decide +kernel)) rfl, uw_X2, rfl, by decide +kernel, tyX2_ok, nmX2⟩
theorem fl_RX2_55 : FL RX2 55 2 8 := ⟨(RX2, TX2, 14), rfl, by decide, tb_in (List.mem_of_getElem? (i := 266) (by decide +kernel)) rfl, uw_X2⟩
theorem fl_RX3_11 : FL RX3 11 3 0 := ⟨(RX3, TX3, 7), rfl, by decide, tb_in (List.mem_of_getElem? (i := 74) (by decide +kernel)) rfl, uw_X3⟩
theorem fl_RX3_17 : FL RX3 17 3 1 := ⟨(RX3, TX3, 7), rfl, by decide, tb_in (List.mem_of_getElem? (i := 75) (by decide +kernel)) rfl, uw_X3⟩
theorem fl_RX3_21 : FL RX3 21 3 2 := ⟨(RX3, TX3, 7), rfl, by decide, tb_in (List.mem_of_getElem? (i := 76) (by decide +kernel)) rfl, uw_X3⟩
theorem fl_RX3_24 : FL RX3 24 3 3 := ⟨(RX3, TX3, 7), rfl, by decide, tb_in (List.mem_of_getElem? (i := 77) (by decide +kernel)) rfl, uw_X3⟩
theorem fl_RX3_27 : FL RX3 27 3 4 := ⟨(RX3, TX3, 7), rfl, by decide, tb_in (List.mem_of_getElem? (i := 78) (by decide +kernel)) rfl, uw_X3⟩
theorem fl_RX3_30 : FL RX3 30 3 5 := ⟨(RX3, TX3, 7), rfl, by decide, tb_in (List.mem_of_getElem? (i := 79) (by decide +kernel)) rfl, uw_X3⟩
theorem fp_RX3_30 : FP RX3 30 3 5 .int := ⟨(RX3, TX3, 7), tyX3, rfl, by decide, tb_in (List.mem_of_getElem? (i := 79) (by decide +kernel)) rfl, uw_X3, rfl, by decide +kernel, tyX3_ok, nmX3⟩
theorem fl_RX3_46 : FL RX3 46 2 8 := ⟨(RX2, TX2, 14), rfl, by decide, tb_in (List.mem_of_getElem? (i := 265) (by decide +kernel)) rfl, uw_X2⟩
theorem fp_RX3_46 : FP RX3 46 2 8 .int := ⟨(RX2, TX2, 14), tyX2, rfl, by decide, tb_in (List.mem_of_getElem? (i := 265) (by decide +kernel)) rfl, uw_X2, rfl, by decide +kernel, tyX2_ok, nmX2⟩
theorem fl_RX3_49 : FL RX3 49 3 6 := ⟨(RX3, TX3, 7), rfl, by decide, tb_in (List.mem_of_getElem? (i := 83) (by decide +kernel)) rfl, uw_X3⟩
theorem fp_RX3_49 : FP RX3 49 3 6 .int := ⟨(RX3, TX3, 7), tyX3, rfl, by decide, tb_in (List.mem_of_getElem? (i := 83) (by decide +kernel)) rfl, uw_X3, rfl, by decide +kernel, tyX3_ok, nmX3⟩
theorem fl_RX3_56 : FL RX3 56 2 1 := ⟨(RX2, TX2, 14), rfl, by decide, tb_in (List.mem_of_getElem? (i := 247) (by decide +kernel)) rfl, uw_X2⟩
theorem fl_RX3_59 : FL RX3 59 2 5 := ⟨(RX2, TX2, 14), rfl, by decide, tb_in (List.mem_of_getElem? (i := 258) (by decide +kernel)) rfl, uw_X2⟩
theorem fl_RX3_72 : FL RX3 72 2 11 := ⟨(RX2, TX2, 14), rfl, by decide, tb_in (List.mem_of_getElem? (i := 276) (by decide +kernel)) rfl, uw_X2⟩
theorem fp_RX3_72 : FP RX3 72 2 11 .int := ⟨(RX2, TX2, 14), tyX2, rfl, by decide, tb_in (List.mem_of_getElem? (i := 276) (by decide +kernel)) rfl, uw_X2, rfl, by decide +kernel, tyX2_ok, nmX2⟩
theorem fl_RX3_78 : FL RX3 78 2 10 := ⟨(RX2, TX2, 14), rfl, by decide, tb_in (List.mem_of_getElem? (i := 274) (by decide +kernel)) rfl, uw_X2⟩
theorem fl_RX4_17 : FL RX4 17 4 0 := ⟨(RX4, TX4, 2), rfl, by decide, tb_in (List.mem_of_getElem? (i := 176) (by decide +kernel)) rfl, uw_X4⟩
theorem fl_RX4_23 : FL RX4 23 4 1 := ⟨(RX4, TX4, 2), rfl, by decide, tb_in (List.mem_of_getElem? (i := 177) (by decide +kernel)) rfl, uw_X4⟩
theorem fl_RX4_26 : FL RX4 26 2 0 := ⟨(RX2, TX2, 14), rfl, by decide, tb_in (List.mem_of_getElem? (i := 243) (by decide +kernel)) rfl, uw_X2⟩
theorem fl_RX4_32 : FL RX4 32 2 10 := ⟨(RX2, TX2, 14), rfl, by decide, tb_in (List.mem_of_getElem? (i := 272) (by decide +kernel)) rfl, uw_X2⟩
theorem fl_RX4_35 : FL RX4 35 2 9 := ⟨(RX2, TX2, 14), rfl, by decide, tb_in (List.mem_of_getElem? (i := 268) (by decide +kernel)) rfl, uw_X2⟩
theorem fl_RX4_38 : FL RX4 38 1 1 := ⟨(RX1, TX1, 3), rfl, by decide, tb_in (List.mem_of_getElem? (i := 707) (by decide +kernel)) rfl, uw_X1⟩
theorem fl_RX4_48 : FL RX4 48 7 0 := ⟨(RX7, TX7, 1), rfl, by decide, tb_in (List.mem_of_getElem? (i := 695) (by decide +kernel)) rfl, uw_X7⟩
theorem fl_RX5_9 : FL RX5 9 5 0 := ⟨(RX5, TX5, 2), rfl, by decide, tb_in (List.mem_of_getElem? (i := 106) (by decide +kernel)) rfl, uw_X5⟩
theorem fl_RX5_15 : FL RX5 15 5 1 := ⟨(RX5, TX5, 2), rfl, by decide, tb_in (List.mem_of_getElem? (i := 108) (by decide +kernel)) rfl, uw_X5⟩
theorem fl_RX5_24 : FL RX5 24 3 5 := ⟨(RX3, TX3, 7), rfl, by decide, tb_in (List.mem_of_getElem? (i := 81) (by decide +kernel)) rfl, uw_X3⟩
theorem fl_RX5_34 : FL RX5 34 2 10 := ⟨(RX2, TX2, 14), rfl, by decide, tb_in (List.mem_of_getElem? (i := 271) (by decide +kernel)) rfl, uw_X2⟩
theorem fl_RX5_39 : FL RX5 39 2 2 := ⟨(RX2, TX2, 14), rfl, by decide, tb_in (List.mem_of_getElem? (i := 249) (by decide +kernel)) rfl, uw_X2⟩
theorem fl_RX5_53 : FL RX5 53 2 8 := ⟨(RX2, TX2, 14), rfl, by decide, tb_in (List.mem_of_getElem? (i := 263) (by decide +kernel)) rfl, uw_X2⟩
theorem fl_RX5_56 : FL RX5 56 2 5 := ⟨(RX2, TX2, 14), rfl, by decide, tb_in (List.mem_of_getElem? (i := 257) (by decide +kernel)) rfl, uw_X2⟩
theorem fl_RX5_63 : FL RX5 63 2 0 := ⟨(RX2, TX2, 14), rfl, by decide, tb_in (List.mem_of_getElem? (i := 244) (by decide +kernel)) rfl, uw_X2⟩
theorem fl_RX5_69 : FL RX5 69 2 4 := ⟨(RX2, TX2, 14), rfl, by decide, tb_in (List.mem_of_getElem? (i := 254) (by decide +kernel)) rfl, uw_X2⟩
theorem fl_RX5_82 : FL RX5 82 2 12 := ⟨(RX2, TX2, 14), rfl, by decide, tb_in (List.mem_of_getElem? (i := 278) (by decide +kernel)) rfl, uw_X2⟩
theorem fl_RX6_9 : FL RX6 9 6 0 := ⟨(RX6, TX6, 6), rfl, by decide, tb_in (List.mem_of_getElem? (i := 139) (by decide +kernel)) rfl, uw_X6⟩
theorem fl_RX6_15 : FL RX6 15 6 1 := ⟨(RX6, TX6, 6), rfl, by decide, tb_in (List.mem_of_getElem? (i := 140) (by decide +kernel)) rfl, uw_X6⟩
theorem fl_RX6_18 : FL RX6 18 6 2 := ⟨(RX6, TX6, 6), rfl, by decide, tb_in (List.mem_of_getElem? (i := 141) (by decide +kernel)) rfl, uw_X6⟩
theorem fl_RX6_21 : FL RX6 21 6 3 := ⟨(RX6, TX6, 6), rfl, by decide, tb_in (List.mem_of_getElem? (i := 142) (by decide +kernel)) rfl, uw_X6⟩
theorem fp_RX6_21 : FP RX6 21 6 3 .int := ⟨(RX6, TX6, 6), tyX6, rfl, by decide, tb_in (List.mem_of_getElem? (i := 142) (by decide +kernel)) rfl, uw_X6, rfl, by decide +kernel, tyX6_ok, nmX6⟩
theorem fl_RX6_27 : FL RX6 27 6 4 := ⟨(RX6, TX6, 6), rfl, by decide, tb_in (List.mem_of_getElem? (i := 144) (by decide +kernel)) rfl, uw_X6⟩
theorem fp_RX6_27 : FP RX6 27 6 4 .int := ⟨(RX6, TX6, 6), tyX6, rfl, by decide, tb_in (List.mem_of_getElem? (i := 144) (by decide +kernel)) rfl, uw_X6, rfl, by decide +kernel, tyX6_ok, nmX6⟩
theorem fl_RX6_39 : FL RX6 39 6 5 := ⟨(RX6, TX6, 6), rfl, by decide, tb_in (List.mem_of_getElem? (i := 145) (by decide +kernel)) rfl, uw_X6⟩
theorem fp_RX6_39 : FP RX6 39 6 5 .int := ⟨(RX6, TX6, 6), tyX6, rfl, by decide, tb_in (List.mem_of_getElem? (i := 145) (by decide +kernel)) rfl, uw_X6, rfl, by decide +kernel, tyX6_ok, nmX6⟩
theorem fl_RX7_7 : FL RX7 7 7 0 := ⟨(RX7, TX7, 1), rfl, by decide, tb_in (List.mem_of_getElem? (i := 694) (by decide +kernel)) rfl, uw_X7⟩
theorem fl_RX8_10 : FL RX8 10 8 0 := ⟨(RX8, TX8, 13), rfl, by decide, tb_in (List.mem_of_getElem? (i := 188) (by decide +kernel)) rfl, uw_X8⟩
theorem fl_RX8_19 : FL RX8 19 8 1 := ⟨(RX8, TX8, 13), rfl, by decide, tb_in (List.mem_of_getElem? (i := 189) (by decide +kernel)) rfl, uw_X8⟩
theorem fl_RX8_26 : FL RX8 26 8 2 := ⟨(RX8, TX8, 13), rfl, by decide, tb_in (List.mem_of_getElem? (i := 190) (by decide +kernel)) rfl, uw_X8⟩
theorem fl_RX8_33 : FL RX8 33 8 3 := ⟨(RX8, TX8, 13), rfl, by decide, tb_in (List.mem_of_getElem? (i := 191) (by decide +kernel)) rfl, uw_X8⟩
theorem fl_RX8_40 : FL RX8 40 8 4 := ⟨(RX8, TX8, 13), rfl, by decide, tb_in (List.mem_of_getElem? (i := 192) (by decide +kernel)) rfl, uw_X8⟩
theorem fl_RX8_46 : FL RX8 46 8 5 := ⟨(RX8, TX8, 13), rfl, by decide, tb_in (List.mem_of_getElem? (i := 193) (by decide +kernel)) rfl, uw_X8⟩
theorem fl_RX8_52 : FL RX8 52 8 6 := ⟨(RX8, TX8, 13), rfl, by decide, tb_in (List.mem_of_getElem? (i := 194) (by decide +kernel)) rfl, uw_X8⟩
theorem fl_RX8_56 : FL RX8 56 8 7 := ⟨(RX8, TX8, 13), rfl, by decide, tb_in (List.mem_of_getElem? (i := 195) (by decide +kernel)) rfl, uw_X8⟩
theorem fl_RX8_60 : FL RX8 60 8 8 := ⟨(RX8, TX8, 13), rfl, by decide, tb_in (List.mem_of_getElem? (i := 196) (by decide +kernel)) rfl, uw_X8⟩
theorem fl_RX8_67 : FL RX8 67 3 5 := ⟨(RX3, TX3, 7), rfl, by decide, tb_in (List.mem_of_getElem? (i := 80) (by decide +kernel)) rfl, uw_X3⟩
theorem fl_RX8_88 : FL RX8 88 2 8 := ⟨(RX2, TX2, 14), rfl, by decide, tb_in (List.mem_of_getElem? (i := 264) (by decide +kernel)) rfl, uw_X2⟩
theorem fp_RX8_88 : FP RX8 88 2 8 .int := ⟨(RX2, TX2, 14), tyX2, rfl, by decide, tb_in (List.mem_of_getElem? (i := 264) (by decide +kernel)) rfl, uw_X2, rfl, by decide +kernel, tyX2_ok, nmX2⟩
theorem fl_RX8_95 : FL RX8 95 2 0 := ⟨(RX2, TX2, 14), rfl, by decide, tb_in (List.mem_of_getElem? (i := 245) (by decide +kernel)) rfl, uw_X2⟩
theorem fl_RX8_102 : FL RX8 102 3 6 := ⟨(RX3, TX3, 7), rfl, by decide, tb_in (List.mem_of_getElem? (i := 82) (by decide +kernel)) rfl, uw_X3⟩
theorem fl_RX8_109 : FL RX8 109 2 9 := ⟨(RX2, TX2, 14), rfl, by decide, tb_in (List.mem_of_getElem? (i := 269) (by decide +kernel)) rfl, uw_X2⟩
theorem fp_RX8_109 : FP RX8 109 2 9 .int := ⟨(RX2, TX2, 14), tyX2, rfl, by decide, tb_in (List.mem_of_getElem? (i := 269) (by decide +kernel)) rfl, uw_X2, rfl, by decide +kernel, tyX2_ok, nmX2⟩
theorem fl_RX8_122 : FL RX8 122 2 4 := ⟨(RX2, TX2, 14), rfl, by decide, tb_in (List.mem_of_getElem? (i := 255) (by decide +kernel)) rfl, uw_X2⟩
theorem fl_RX8_136 : FL RX8 136 0 1 := ⟨(RX0, TX0, 3), rfl, by decide, tb_in (List.mem_of_getElem? (i := 123) (by decide +kernel)) rfl, uw_X0⟩
theorem fl_RX8_143 : FL RX8 143 8 11 := ⟨(RX8, TX8, 13), rfl, by decide, tb_in (List.mem_of_getElem? (i := 199) (by decide +kernel)) rfl, uw_X8⟩
theorem fp_RX8_143 : FP RX8 143 8 11 .int := ⟨(RX8, TX8, 13), tyX8, rfl, by decide, tb_in (List.mem_of_getElem? (i := 199) (by decide +kernel)) rfl, uw_X8, rfl, by decide +kernel, tyX8_ok, nmX8⟩
theorem fl_RX8_146 : FL RX8 146 2 10 := ⟨(RX2, TX2, 14), rfl, by decide, tb_in (List.mem_of_getElem? (i := 273) (by decide +kernel)) rfl, uw_X2⟩
theorem fp_RX8_146 : FP RX8 146 2 10 .int := ⟨(RX2, TX2, 14), tyX2, rfl, by decide, tb_in (List.mem_of_getElem? (i := 273) (by decide +kernel)) rfl, uw_X2, rfl, by decide +kernel, tyX2_ok, nmX2⟩
theorem fl_RX8_158 : FL RX8 158 2 11 := ⟨(RX2, TX2, 14), rfl, by decide, tb_in (List.mem_of_getElem? (i := 277) (by decide +kernel)) rfl, uw_X2⟩
theorem fl_RX8_161 : FL RX8 161 2 13 := ⟨(RX2, TX2, 14), rfl, by decide, tb_in (List.mem_of_getElem? (i := 281) (by decide +kernel)) rfl, uw_X2⟩
theorem fp_RX8_161 : FP RX8 161 2 13 .boolean := ⟨(RX2, TX2, 14), tyX2, rfl, by decide, tb_in (List.mem_of_getElem? (i := 281) (by decide +kernel)) rfl, uw_X2, rfl, by decide +kernel, tyX2_ok, nmX2⟩
theorem fl_RX8_166 : FL RX8 166 2 12 := ⟨(RX2, TX2, 14), rfl, by decide, tb_in (List.mem_of_getElem? (i := 279) (by decide +kernel)) rfl, uw_X2⟩
theorem fp_RX8_166 : FP RX8 166 2 12 .int := ⟨(RX2, TX2, 14), tyX2, rfl, by decide, tb_in (List.mem_of_getElem? (i := 279) (by decide +kernel)) rfl, uw_X2, rfl, by decide +kernel, tyX2_ok, nmX2⟩
theorem fl_RX8_176 : FL RX8 176 0 2 := ⟨(RX0, TX0, 3), rfl, by decide, tb_in (List.mem_of_getElem? (i := 125) (by decide +kernel)) rfl, uw_X0⟩
theorem fp_RX8_176 : FP RX8 176 0 2 .int := ⟨(RX0, TX0, 3), tyX0, rfl, by decide, tb_in (List.mem_of_getElem? (i := 125) (by decide +kernel)) rfl, uw_X0, rfl, by decide +kernel, tyX0_ok, nmX0⟩
theorem fl_RX8_186 : FL RX8 186 6 3 := ⟨(RX6, TX6, 6), rfl, by decide, tb_in (List.mem_of_getElem? (i := 143) (by decide +kernel)) rfl, uw_X6⟩
theorem fp_RX8_186 : FP RX8 186 6 3 .int := ⟨(RX6, TX6, 6), tyX6, rfl, by decide, tb_in (List.mem_of_getElem? (i := 143) (by decide +kernel)) rfl, uw_X6, rfl, by decide +kernel, tyX6_ok, nmX6⟩
theorem fl_RX8_194 : FL RX8 194 8 9 := ⟨(RX8, TX8, 13), rfl, by decide, tb_in (List.mem_of_getElem? (i := 197) (by decide +kernel)) rfl, uw_X8⟩
theorem fp_RX8_194 : FP RX8 194 8 9 .int := ⟨(RX8, TX8, 13), tyX8, rfl, by decide, tb_in (List.mem_of_getElem? (i := 197) (by decide +kernel)) rfl, uw_X8, rfl, by decide +kernel, tyX8_ok, nmX8⟩
theorem fl_RX8_208 : FL RX8 208 8 10 := ⟨(RX8, TX8, 13), rfl, by decide, tb_in (List.mem_of_getElem? (i := 198) (by decide +kernel)) rfl, uw_X8⟩
theorem fp_RX8_208 : FP RX8 208 8 10 .int := ⟨(RX8, TX8, 13), tyX8, rfl, by decide, tb_in (List.mem_of_getElem? (i := 198) (by decide +kernel)) rfl, uw_X8, rfl, by decide +kernel, tyX8_ok, nmX8⟩
theorem fl_RX8_240 : FL RX8 240 2 2 := ⟨(RX2, TX2, 14), rfl, by decide, tb_in (List.mem_of_getElem? (i := 250) (by decide +kernel)) rfl, uw_X2⟩
theorem fl_RX8_243 : FL RX8 243 2 3 := ⟨(RX2, TX2, 14), rfl, by decide, tb_in (List.mem_of_getElem? (i := 252) (by decide +kernel)) rfl, uw_X2⟩
theorem fl_RX8_246 : FL RX8 246 2 5 := ⟨(RX2, TX2, 14), rfl, by decide, tb_in (List.mem_of_getElem? (i := 259) (by decide +kernel)) rfl, uw_X2⟩
theorem fl_RX8_249 : FL RX8 249 2 6 := ⟨(RX2, TX2, 14), rfl, by decide, tb_in (List.mem_of_getElem? (i := 261) (by decide +kernel)) rfl, uw_X2⟩
theorem fl_RX8_252 : FL RX8 252 1 2 := ⟨(RX1, TX1, 3), rfl, by decide, tb_in (List.mem_of_getElem? (i := 709) (by decide +kernel)) rfl, uw_X1⟩
theorem fp_RX8_252 : FP RX8 252 1 2 .int := ⟨(RX1, TX1, 3), tyX1, rfl, by decide, tb_in (List.mem_of_getElem? (i := 709) (by decide +kernel)) rfl, uw_X1, rfl, by decide +kernel, tyX1_ok, nmX1⟩
theorem fl_RX8_255 : FL RX8 255 1 0 := ⟨(RX1, TX1, 3), rfl, by decide, tb_in (List.mem_of_getElem? (i := 705) (by decide +kernel)) rfl, uw_X1⟩
theorem fl_RX8_293 : FL RX8 293 8 12 := ⟨(RX8, TX8, 13), rfl, by decide, tb_in (List.mem_of_getElem? (i := 200) (by decide +kernel)) rfl, uw_X8⟩
theorem fp_RX8_293 : FP RX8 293 8 12 .int := ⟨(RX8, TX8, 13), tyX8, rfl, by decide, tb_in (List.mem_of_getElem? (i := 200) (by decide +kernel)) rfl, uw_X8, rfl, by decide +kernel, tyX8_ok, nmX8⟩
theorem fl_RX8_304 : FL RX8 304 5 0 := ⟨(RX5, TX5, 2), rfl, by decide, tb_in (List.mem_of_getElem? (i := 107) (by decide +kernel)) rfl, uw_X5⟩
theorem fl_RX8_307 : FL RX8 307 5 1 := ⟨(RX5, TX5, 2), rfl, by decide, tb_in (List.mem_of_getElem? (i := 109) (by decide +kernel)) rfl, uw_X5⟩
theorem fl_RX9_7 : FL RX9 7 9 2 := ⟨(RX9, TX9, 47), rfl, by decide, tb_in (List.mem_of_getElem? (i := 803) (by decide +kernel)) rfl, uw_X9⟩
theorem fl_RX9_13 : FL RX9 13 9 3 := ⟨(RX9, TX9, 47), rfl, by decide, tb_in (List.mem_of_getElem? (i := 804) (by decide +kernel)) rfl, uw_X9⟩
theorem fl_RX9_16 : FL RX9 16 9 4 := ⟨(RX9, TX9, 47), rfl, by decide, tb_in (List.mem_of_getElem? (i := 805) (by decide +kernel)) rfl, uw_X9⟩
theorem fl_RX9_19 : FL RX9 19 9 5 := ⟨(RX9, TX9, 47), rfl, by decide, tb_in (List.mem_of_getElem? (i := 806) (by decide +kernel)) rfl, uw_X9⟩
theorem fl_RX9_22 : FL RX9 22 9 6 := ⟨(RX9, TX9, 47), rfl, by decide, tb_in (List.mem_of_getElem? (i := 807) (by decide +kernel)) rfl, uw_X9⟩
theorem fl_RX9_25 : FL RX9 25 9 7 := ⟨(RX9, TX9, 47), rfl, by decide, tb_in (List.mem_of_getElem? (i := 808) (by decide +kernel)) rfl, uw_X9⟩
theorem fl_RX9_28 : FL RX9 28 9 8 := ⟨(RX9, TX9, 47), rfl, by decide, tb_in (List.mem_of_getElem? (i := 809) (by decide +kernel)) rfl, uw_X9⟩
theorem fl_RX9_31 : FL RX9 31 9 9 := ⟨(RX9, TX9, 47), rfl, by decide, tb_in (List.mem_of_getElem? (i := 810) (by decide +kernel)) rfl, uw_X9⟩
theorem fl_RX9_34 : FL RX9 34 9 10 := ⟨(RX9, TX9, 47), rfl, by decide, tb_in (List.mem_of_getElem? (i := 811) (by decide +kernel)) rfl, uw_X9⟩
theorem fl_RX9_37 : FL RX9 37 9 11 := ⟨(RX9, TX9, 47), rfl, by decide, tb_in (List.mem_of_getElem? (i := 812) (by decide +kernel)) rfl, uw_X9⟩
theorem fl_RX9_40 : FL RX9 40 9 12 := ⟨(RX9, TX9, 47), rfl, by decide, tb_in (List.mem_of_getElem? (i := 813) (by decide +kernel)) rfl, uw_X9⟩
theorem fl_RX9_43 : FL RX9 43 9 13 := ⟨(RX9, TX9, 47), rfl, by decide, tb_in (List.mem_of_getElem? (i := 814) (by decide +kernel)) rfl, uw_X9⟩
theorem fl_RX9_46 : FL RX9 46 9 14 := ⟨(RX9, TX9, 47), rfl, by decide, tb_in (List.mem_of_getElem? (i := 815) (by decide +kernel)) rfl, uw_X9⟩
theorem fl_RX9_50 : FL RX9 50 9 15 := ⟨(RX9, TX9, 47), rfl, by decide, tb_in (List.mem_of_getElem? (i := 816) (by decide +kernel)) rfl, uw_X9⟩
theorem fl_RX9_53 : FL RX9 53 9 16 := ⟨(RX9, TX9, 47), rfl, by decide, tb_in (List.mem_of_getElem? (i := 817) (by decide +kernel)) rfl, uw_X9⟩
theorem fl_RX9_56 : FL RX9 56 9 17 := ⟨(RX9, TX9, 47), rfl, by decide, tb_in (List.mem_of_getElem? (i := 818) (by decide +kernel)) rfl, uw_X9⟩
theorem fl_RX9_59 : FL RX9 59 9 22 := ⟨(RX9, TX9, 47), rfl, by decide, tb_in (List.mem_of_getElem? (i := 823) (by decide +kernel)) rfl, uw_X9⟩
theorem fl_RX9_63 : FL RX9 63 9 23 := ⟨(RX9, TX9, 47), rfl, by decide, tb_in (List.mem_of_getElem? (i := 824) (by decide +kernel)) rfl, uw_X9⟩
theorem fl_RX9_66 : FL RX9 66 9 25 := ⟨(RX9, TX9, 47), rfl, by decide, tb_in (List.mem_of_getElem? (i := 826) (by decide +kernel)) rfl, uw_X9⟩
theorem fl_RX9_69 : FL RX9 69 9 26 := ⟨(RX9, TX9, 47), rfl, by decide, tb_in (List.mem_of_getElem? (i := 827) (by decide +kernel)) rfl, uw_X9⟩
theorem fl_RX9_72 : FL RX9 72 9 27 := ⟨(RX9, TX9, 47), rfl, by decide, tb_in (List.mem_of_getElem? (i := 828) (by decide +kernel)) rfl, uw_X9⟩
theorem fl_RX9_75 : FL RX9 75 9 28 := ⟨(RX9, TX9, 47), rfl, by decide, tb_in (List.mem_of_getElem? (i := 829) (by decide +kernel)) rfl, uw_X9⟩
theorem fl_RX9_78 : FL RX9 78 9 29 := ⟨(RX9, TX9, 47), rfl, by decide, tb_in (List.mem_of_getElem? (i := 830) (by decide +kernel)) rfl, uw_X9⟩
theorem fl_RX9_81 : FL RX9 81 9 30 := ⟨(RX9, TX9, 47), rfl, by decide, tb_in (List.mem_of_getElem? (i := 831) (by decide +kernel)) rfl, uw_X9⟩
theorem fl_RX9_85 : FL RX9 85 9 33 := ⟨(RX9, TX9, 47), rfl, by decide, tb_in (List.mem_of_getElem? (i := 834) (by decide +kernel)) rfl, uw_X9⟩
theorem fl_RX9_88 : FL RX9 88 9 34 := ⟨(RX9, TX9, 47), rfl, by decide, tb_in (List.mem_of_getElem? (i := 835) (by decide +kernel)) rfl, uw_X9⟩
theorem fl_RX9_91 : FL RX9 91 9 36 := ⟨(RX9, TX9, 47), rfl, by decide, tb_in (List.mem_of_getElem? (i := 837) (by decide +kernel)) rfl, uw_X9⟩
theorem fl_RX9_94 : FL RX9 94 9 37 := ⟨(RX9, TX9, 47), rfl, by decide, tb_in (List.mem_of_getElem? (i := 838) (by decide +kernel)) rfl, uw_X9⟩
theorem fl_RX9_97 : FL RX9 97 9 39 := ⟨(RX9, TX9, 47), rfl, by decide, tb_in (List.mem_of_getElem? (i := 840) (by decide +kernel)) rfl, uw_X9⟩
theorem fl_RX9_100 : FL RX9 100 9 40 := ⟨(RX9, TX9, 47), rfl, by decide, tb_in (List.mem_of_getElem? (i := 841) (by decide +kernel)) rfl, uw_X9⟩
theorem fl_RX9_103 : FL RX9 103 9 41 := ⟨(RX9, TX9, 47), rfl, by decide, tb_in (List.mem_of_getElem? (i := 842) (by decide +kernel)) rfl, uw_X9⟩
theorem fl_RX9_106 : FL RX9 106 9 43 := ⟨(RX9, TX9, 47), rfl, by decide, tb_in (List.mem_of_getElem? (i := 844) (by decide +kernel)) rfl, uw_X9⟩
theorem fl_RX9_109 : FL RX9 109 9 44 := ⟨(RX9, TX9, 47), rfl, by decide, tb_in (List.mem_of_getElem? (i := 845) (by decide +kernel)) rfl, uw_X9⟩
theorem fl_RX9_112 : FL RX9 112 9 45 := ⟨(RX9, TX9, 47), rfl, by decide, tb_in (List.mem_of_getElem? (i := 846) (by decide +kernel)) rfl, uw_X9⟩
theorem fl_RX9_115 : FL RX9 115 9 46 := ⟨(RX9, TX9, 47), rfl, by decide, tb_in (List.mem_of_getElem? (i := 847) (by decide +kernel)) rfl, uw_X9⟩
theorem fl_RX9_122 : FL RX9 122 9 1 := ⟨(RX9, TX9, 47), rfl, by decide, tb_in (List.mem_of_getElem? (i := 802) (by decide +kernel)) rfl, uw_X9⟩
theorem fp_RX9_122 : FP RX9 122 9 1 .int := ⟨(RX9, TX9, 47), tyX9, rfl, by decide, tb_in (List.mem_of_getElem? (i := 802) (by decide +kernel)) rfl, uw_X9, rfl, by decide +kernel, tyX9_ok, nmX9⟩
theorem fl_RX9_145 : FL RX9 145 9 24 := ⟨(RX9, TX9, 47), rfl, by decide, tb_in (List.mem_of_getElem? (i := 825) (by decide +kernel)) rfl, uw_X9⟩
theorem fp_RX9_145 : FP RX9 145 9 24 .int := ⟨(RX9, TX9, 47), tyX9, rfl, by decide, tb_in (List.mem_of_getElem? (i := 825) (by decide +kernel)) rfl, uw_X9, rfl, by decide +kernel, tyX9_ok, nmX9⟩
theorem fl_RX9_169 : FL RX9 169 9 31 := ⟨(RX9, TX9, 47), rfl, by decide, tb_in (List.mem_of_getElem? (i := 832) (by decide +kernel)) rfl, uw_X9⟩
theorem fp_RX9_169 : FP RX9 169 9 31 .int := ⟨(RX9, TX9, 47), tyX9, rfl, by decide, tb_in (List.mem_of_getElem? (i := 832) (by decide +kernel)) rfl, uw_X9, rfl, by decide +kernel, tyX9_ok, nmX9⟩
theorem fl_RX9_172 : FL RX9 172 9 35 := ⟨(RX9, TX9, 47), rfl, by decide, tb_in (List.mem_of_getElem? (i := 836) (by decide +kernel)) rfl, uw_X9⟩
theorem fp_RX9_172 : FP RX9 172 9 35 .int := ⟨(RX9, TX9, 47), tyX9, rfl, by decide, tb_in (List.mem_of_getElem? (i := 836) (by decide +kernel)) rfl, uw_X9, rfl, by decide +kernel, tyX9_ok, nmX9⟩
theorem fl_RX9_175 : FL RX9 175 9 32 := ⟨(RX9, TX9, 47), rfl, by decide, tb_in (List.mem_of_getElem? (i := 833) (by decide +kernel)) rfl, uw_X9⟩
theorem fp_RX9_175 : FP RX9 175 9 32 .int := ⟨(RX9, TX9, 47), tyX9, rfl, by decide, tb_in (List.mem_of_getElem? (i := 833) (by decide +kernel)) rfl, uw_X9, rfl, by decide +kernel, tyX9_ok, nmX9⟩
theorem fl_RX9_191 : FL RX9 191 9 21 := ⟨(RX9, TX9, 47), rfl, by decide, tb_in (List.mem_of_getElem? (i := 822) (by decide +kernel)) rfl, uw_X9⟩
theorem fp_RX9_191 : FP RX9 191 9 21 .int := ⟨(RX9, TX9, 47), tyX9, rfl, by decide, tb_in (List.mem_of_getElem? (i := 822) (by decide +kernel)) rfl, uw_X9, rfl, by decide +kernel, tyX9_ok, nmX9⟩
theorem fl_RX9_194 : FL RX9 194 9 18 := ⟨(RX9, TX9, 47), rfl, by decide, tb_in (List.mem_of_getElem? (i := 819) (by decide +kernel)) rfl, uw_X9⟩
theorem fp_RX9_194 : FP RX9 194 9 18 .int := ⟨(RX9, TX9, 47), tyX9, rfl, by decide, tb_in (List.mem_of_getElem? (i := 819) (by decide +kernel)) rfl, uw_X9, rfl, by decide +kernel, tyX9_ok, nmX9⟩
theorem fl_RX9_200 : FL RX9 200 9 19 := ⟨(RX9, TX9, 47), rfl, by decide, tb_in (List.mem_of_getElem? (i := 820) (by decide +kernel)) rfl, uw_X9⟩
theorem fp_RX9_200 : FP RX9 200 9 19 .int := ⟨(RX9, TX9, 47), tyX9, rfl, by decide, tb_in (List.mem_of_getElem? (i := 820) (by decide +kernel)) rfl, uw_X9, rfl, by decide +kernel, tyX9_ok, nmX9⟩
theorem fl_RX9_210 : FL RX9 210 9 38 := ⟨(RX9, TX9, 47), rfl, by decide, tb_in (List.mem_of_getElem? (i := 839) (by decide +kernel)) rfl, uw_X9⟩
theorem fp_RX9_210 : FP RX9 210 9 38 .int := ⟨(RX9, TX9, 47), tyX9, rfl, by decide, tb_in (List.mem_of_getElem? (i := 839) (by decide +kernel)) rfl, uw_X9, rfl, by decide +kernel, tyX9_ok, nmX9⟩
theorem fl_RX9_219 : FL RX9 219 9 42 := ⟨(RX9, TX9, 47), rfl, by decide, tb_in (List.mem_of_getElem? (i := 843) (by decide +kernel)) rfl, uw_X9⟩
theorem fp_RX9_219 : FP RX9 219 9 42 .int := ⟨(RX9, TX9, 47), tyX9, rfl, by decide, tb_in (List.mem_of_getElem? (i := 843) (by decide +kernel)) rfl, uw_X9, rfl, by decide +kernel, tyX9_ok, nmX9⟩
theorem fl_RX9_241 : FL RX9 241 9 20 := ⟨(RX9, TX9, 47), rfl, by decide, tb_in (List.mem_of_getElem? (i := 821) (by decide +kernel)) rfl, uw_X9⟩
theorem fp_RX9_241 : FP RX9 241 9 20 .int := ⟨(RX9, TX9, 47), tyX9, rfl, by decide, tb_in (List.mem_of_getElem? (i := 821) (by decide +kernel)) rfl, uw_X9, rfl, by decide +kernel, tyX9_ok, nmX9⟩
theorem mv_X0_isAhead : MV yX0_isAhead cX0_isAhead 2 (some .boolean) 1 := ⟨tb_in (List.mem_of_getElem? (i := 622) (by decide +kernel)) rfl, tb_in (List.mem_of_getElem? (i := 620) (by decide +kernel)) rfl, tb_in (List.mem_of_getElem? (i := 621) (by decide +kernel)) rfl, tb_in (List.mem_of_getElem? (i := 43) (by decide +kernel)) rfl, by decide +kernel, by decide +kernel, by decide +kernel⟩
theorem mv_X0_hasFrost : MV yX0_hasFrost cX0_hasFrost 2 (some .boolean) 1 := ⟨tb_in (List.mem_of_getElem? (i := 444) (by decide +kernel)) rfl, tb_in (List.mem_of_getElem? (i := 442) (by decide +kernel)) rfl, tb_in (List.mem_of_getElem? (i := 443) (by decide +kernel)) rfl, tb_in (List.mem_of_getElem? (i := 43) (by decide +kernel)) rfl, by decide +kernel, by decide +kernel, by decide +kernel⟩
theorem mv_X0_makeBitter : MV yX0_makeBitter cX0_makeBitter 4 (some .boolean) 1 := ⟨tb_in (List.mem_of_getElem? (i := 626) (by decide +kernel)) rfl, tb_in (List.mem_of_getElem? (i := 624) (by decide +kernel)) rfl, tb_in (List.mem_of_getElem? (i := 625) (by decide +kernel)) rfl, tb_in (List.mem_of_getElem? (i := 43) (by decide +kernel)) rfl, by decide +kernel, by decide +kernel, by decide +kernel⟩
theorem mv_X0_pass : MV yX0_pass cX0_pass 4 (some .int) 1 := ⟨tb_in (List.mem_of_getElem? (i := 604) (by decide +kernel)) rfl, tb_in (List.mem_of_getElem? (i := 602) (by decide +kernel)) rfl, tb_in (List.mem_of_getElem? (i := 603) (by decide +kernel)) rfl, tb_in (List.mem_of_getElem? (i := 43) (by decide +kernel)) rfl, by decide +kernel, by decide +kernel, by decide +kernel⟩
theorem mv_X2_isBegun : MV yX2_isBegun cX2_isBegun 1 (some .boolean) 0 := ⟨tb_in (List.mem_of_getElem? (i := 345) (by decide +kernel)) rfl, tb_in (List.mem_of_getElem? (i := 343) (by decide +kernel)) rfl, tb_in (List.mem_of_getElem? (i := 344) (by decide +kernel)) rfl, tb_in (List.mem_of_getElem? (i := 48) (by decide +kernel)) rfl, by decide +kernel, by decide +kernel, by decide +kernel⟩
theorem mv_X2_isWhole : MV yX2_isWhole cX2_isWhole 1 (some .boolean) 0 := ⟨tb_in (List.mem_of_getElem? (i := 422) (by decide +kernel)) rfl, tb_in (List.mem_of_getElem? (i := 420) (by decide +kernel)) rfl, tb_in (List.mem_of_getElem? (i := 421) (by decide +kernel)) rfl, tb_in (List.mem_of_getElem? (i := 48) (by decide +kernel)) rfl, by decide +kernel, by decide +kernel, by decide +kernel⟩
theorem mv_X2_isOnCentring : MV yX2_isOnCentring cX2_isOnCentring 1 (some .boolean) 0 := ⟨tb_in (List.mem_of_getElem? (i := 393) (by decide +kernel)) rfl, tb_in (List.mem_of_getElem? (i := 391) (by decide +kernel)) rfl, tb_in (List.mem_of_getElem? (i := 392) (by decide +kernel)) rfl, tb_in (List.mem_of_getElem? (i := 48) (by decide +kernel)) rfl, by decide +kernel, by decide +kernel, by decide +kernel⟩
theorem mv_X2_standOn : MV yX2_standOn cX2_standOn 4 none 3 := ⟨tb_in (List.mem_of_getElem? (i := 326) (by decide +kernel)) rfl, tb_in (List.mem_of_getElem? (i := 324) (by decide +kernel)) rfl, tb_in (List.mem_of_getElem? (i := 325) (by decide +kernel)) rfl, tb_in (List.mem_of_getElem? (i := 48) (by decide +kernel)) rfl, by decide +kernel, by decide +kernel, by decide +kernel⟩
theorem mv_X2_takeCourse : MV yX2_takeCourse cX2_takeCourse 2 none 1 := ⟨tb_in (List.mem_of_getElem? (i := 578) (by decide +kernel)) rfl, tb_in (List.mem_of_getElem? (i := 576) (by decide +kernel)) rfl, tb_in (List.mem_of_getElem? (i := 577) (by decide +kernel)) rfl, tb_in (List.mem_of_getElem? (i := 48) (by decide +kernel)) rfl, by decide +kernel, by decide +kernel, by decide +kernel⟩
theorem mv_X2_laidTill : MV yX2_laidTill cX2_laidTill 4 (some .int) 1 := ⟨tb_in (List.mem_of_getElem? (i := 764) (by decide +kernel)) rfl, tb_in (List.mem_of_getElem? (i := 762) (by decide +kernel)) rfl, tb_in (List.mem_of_getElem? (i := 763) (by decide +kernel)) rfl, tb_in (List.mem_of_getElem? (i := 48) (by decide +kernel)) rfl, by decide +kernel, by decide +kernel, by decide +kernel⟩
theorem mv_X2_portion : MV yX2_portion cX2_portion 5 (some .int) 2 := ⟨tb_in (List.mem_of_getElem? (i := 402) (by decide +kernel)) rfl, tb_in (List.mem_of_getElem? (i := 400) (by decide +kernel)) rfl, tb_in (List.mem_of_getElem? (i := 401) (by decide +kernel)) rfl, tb_in (List.mem_of_getElem? (i := 48) (by decide +kernel)) rfl, by decide +kernel, by decide +kernel, by decide +kernel⟩
theorem mv_X2_heaviestWay : MV yX2_heaviestWay cX2_heaviestWay 4 (some .int) 1 := ⟨tb_in (List.mem_of_getElem? (i := 772) (by decide +kernel)) rfl, tb_in (List.mem_of_getElem? (i := 770) (by decide +kernel)) rfl, tb_in (List.mem_of_getElem? (i := 771) (by decide +kernel)) rfl, tb_in (List.mem_of_getElem? (i := 48) (by decide +kernel)) rfl, by decide +kernel, by decide +kernel, by decide +kernel⟩
theorem mv_X2_markSupports : MV yX2_markSupports cX2_markSupports 3 none 1 := ⟨tb_in (List.mem_of_getElem? (i := 782) (by decide +kernel)) rfl, tb_in (List.mem_of_getElem? (i := 780) (by decide +kernel)) rfl, tb_in (List.mem_of_getElem? (i := 781) (by decide +kernel)) rfl, tb_in (List.mem_of_getElem? (i := 48) (by decide +kernel)) rfl, by decide +kernel, by decide +kernel, by decide +kernel⟩
theorem mv_X2_standsOn : MV yX2_standsOn cX2_standsOn 3 (some .boolean) 1 := ⟨tb_in (List.mem_of_getElem? (i := 747) (by decide +kernel)) rfl, tb_in (List.mem_of_getElem? (i := 745) (by decide +kernel)) rfl, tb_in (List.mem_of_getElem? (i := 746) (by decide +kernel)) rfl, tb_in (List.mem_of_getElem? (i := 48) (by decide +kernel)) rfl, by decide +kernel, by decide +kernel, by decide +kernel⟩
theorem mv_X3_find : MV yX3_find cX3_find 2 (some (.object "ChurchLodge$Part")) 1 := ⟨tb_in (List.mem_of_getElem? (i := 322) (by decide +kernel)) rfl, tb_in (List.mem_of_getElem? (i := 320) (by decide +kernel)) rfl, tb_in (List.mem_of_getElem? (i := 321) (by decide +kernel)) rfl, tb_in (List.mem_of_getElem? (i := 41) (by decide +kernel)) rfl, by decide +kernel, by decide +kernel, by decide +kernel⟩
theorem mv_X3_add : MV yX3_add cX3_add 2 (some .int) 1 := ⟨tb_in (List.mem_of_getElem? (i := 314) (by decide +kernel)) rfl, tb_in (List.mem_of_getElem? (i := 312) (by decide +kernel)) rfl, tb_in (List.mem_of_getElem? (i := 313) (by decide +kernel)) rfl, tb_in (List.mem_of_getElem? (i := 41) (by decide +kernel)) rfl, by decide +kernel, by decide +kernel, by decide +kernel⟩
theorem mv_X3_readSupports : MV yX3_readSupports cX3_readSupports 9 (some .int) 5 := ⟨tb_in (List.mem_of_getElem? (i := 334) (by decide +kernel)) rfl, tb_in (List.mem_of_getElem? (i := 332) (by decide +kernel)) rfl, tb_in (List.mem_of_getElem? (i := 333) (by decide +kernel)) rfl, tb_in (List.mem_of_getElem? (i := 41) (by decide +kernel)) rfl, by decide +kernel, by decide +kernel, by decide +kernel⟩
theorem ms_X3_isSupportFor : MS yX3_isSupportFor cX3_isSupportFor 3 (some .boolean) 2 := ⟨tb_in (List.mem_of_getElem? (i := 337) (by decide +kernel)) rfl, tb_in (List.mem_of_getElem? (i := 336) (by decide +kernel)) rfl, tb_in (List.mem_of_getElem? (i := 41) (by decide +kernel)) rfl, by decide +kernel, by decide +kernel, by decide +kernel⟩
theorem mv_X3_isReadBefore : MV yX3_isReadBefore cX3_isReadBefore 3 (some .boolean) 1 := ⟨tb_in (List.mem_of_getElem? (i := 341) (by decide +kernel)) rfl, tb_in (List.mem_of_getElem? (i := 340) (by decide +kernel)) rfl, tb_in (List.mem_of_getElem? (i := 0) (by decide +kernel)) rfl, tb_in (List.mem_of_getElem? (i := 41) (by decide +kernel)) rfl, by decide +kernel, by decide +kernel, by decide +kernel⟩
theorem mv_X3_setSupports : MV yX3_setSupports cX3_setSupports 4 none 2 := ⟨tb_in (List.mem_of_getElem? (i := 349) (by decide +kernel)) rfl, tb_in (List.mem_of_getElem? (i := 347) (by decide +kernel)) rfl, tb_in (List.mem_of_getElem? (i := 348) (by decide +kernel)) rfl, tb_in (List.mem_of_getElem? (i := 41) (by decide +kernel)) rfl, by decide +kernel, by decide +kernel, by decide +kernel⟩
theorem mv_X3_keepEdition : MV yX3_keepEdition cX3_keepEdition 3 (some .int) 2 := ⟨tb_in (List.mem_of_getElem? (i := 354) (by decide +kernel)) rfl, tb_in (List.mem_of_getElem? (i := 352) (by decide +kernel)) rfl, tb_in (List.mem_of_getElem? (i := 353) (by decide +kernel)) rfl, tb_in (List.mem_of_getElem? (i := 41) (by decide +kernel)) rfl, by decide +kernel, by decide +kernel, by decide +kernel⟩
theorem mv_X3_coursesIn : MV yX3_coursesIn cX3_coursesIn 5 (some .int) 2 := ⟨tb_in (List.mem_of_getElem? (i := 366) (by decide +kernel)) rfl, tb_in (List.mem_of_getElem? (i := 364) (by decide +kernel)) rfl, tb_in (List.mem_of_getElem? (i := 365) (by decide +kernel)) rfl, tb_in (List.mem_of_getElem? (i := 41) (by decide +kernel)) rfl, by decide +kernel, by decide +kernel, by decide +kernel⟩
theorem mv_X3_isReadyBelow : MV yX3_isReadyBelow cX3_isReadyBelow 4 (some .boolean) 1 := ⟨tb_in (List.mem_of_getElem? (i := 426) (by decide +kernel)) rfl, tb_in (List.mem_of_getElem? (i := 424) (by decide +kernel)) rfl, tb_in (List.mem_of_getElem? (i := 425) (by decide +kernel)) rfl, tb_in (List.mem_of_getElem? (i := 41) (by decide +kernel)) rfl, by decide +kernel, by decide +kernel, by decide +kernel⟩
theorem mv_X3_ageAll : MV yX3_ageAll cX3_ageAll 4 none 1 := ⟨tb_in (List.mem_of_getElem? (i := 609) (by decide +kernel)) rfl, tb_in (List.mem_of_getElem? (i := 607) (by decide +kernel)) rfl, tb_in (List.mem_of_getElem? (i := 608) (by decide +kernel)) rfl, tb_in (List.mem_of_getElem? (i := 41) (by decide +kernel)) rfl, by decide +kernel, by decide +kernel, by decide +kernel⟩
theorem mv_X3_countBorneBy : MV yX3_countBorneBy cX3_countBorneBy 5 (some .int) 1 := ⟨tb_in (List.mem_of_getElem? (i := 743) (by decide +kernel)) rfl, tb_in (List.mem_of_getElem? (i := 741) (by decide +kernel)) rfl, tb_in (List.mem_of_getElem? (i := 742) (by decide +kernel)) rfl, tb_in (List.mem_of_getElem? (i := 41) (by decide +kernel)) rfl, by decide +kernel, by decide +kernel, by decide +kernel⟩
theorem mv_X3_countLaid : MV yX3_countLaid cX3_countLaid 4 (some .int) 0 := ⟨tb_in (List.mem_of_getElem? (i := 790) (by decide +kernel)) rfl, tb_in (List.mem_of_getElem? (i := 788) (by decide +kernel)) rfl, tb_in (List.mem_of_getElem? (i := 789) (by decide +kernel)) rfl, tb_in (List.mem_of_getElem? (i := 41) (by decide +kernel)) rfl, by decide +kernel, by decide +kernel, by decide +kernel⟩
theorem mv_X4_nameNoPart : MV yX4_nameNoPart cX4_nameNoPart 1 none 0 := ⟨tb_in (List.mem_of_getElem? (i := 452) (by decide +kernel)) rfl, tb_in (List.mem_of_getElem? (i := 450) (by decide +kernel)) rfl, tb_in (List.mem_of_getElem? (i := 451) (by decide +kernel)) rfl, tb_in (List.mem_of_getElem? (i := 45) (by decide +kernel)) rfl, by decide +kernel, by decide +kernel, by decide +kernel⟩
theorem mv_X4_namePart : MV yX4_namePart cX4_namePart 3 none 2 := ⟨tb_in (List.mem_of_getElem? (i := 556) (by decide +kernel)) rfl, tb_in (List.mem_of_getElem? (i := 554) (by decide +kernel)) rfl, tb_in (List.mem_of_getElem? (i := 555) (by decide +kernel)) rfl, tb_in (List.mem_of_getElem? (i := 45) (by decide +kernel)) rfl, by decide +kernel, by decide +kernel, by decide +kernel⟩
theorem mv_X4_nameMonth : MV yX4_nameMonth cX4_nameMonth 4 none 3 := ⟨tb_in (List.mem_of_getElem? (i := 448) (by decide +kernel)) rfl, tb_in (List.mem_of_getElem? (i := 446) (by decide +kernel)) rfl, tb_in (List.mem_of_getElem? (i := 447) (by decide +kernel)) rfl, tb_in (List.mem_of_getElem? (i := 45) (by decide +kernel)) rfl, by decide +kernel, by decide +kernel, by decide +kernel⟩
theorem mv_X4_endOf : MV yX4_endOf cX4_endOf 2 (some .int) 1 := ⟨tb_in (List.mem_of_getElem? (i := 564) (by decide +kernel)) rfl, tb_in (List.mem_of_getElem? (i := 562) (by decide +kernel)) rfl, tb_in (List.mem_of_getElem? (i := 563) (by decide +kernel)) rfl, tb_in (List.mem_of_getElem? (i := 45) (by decide +kernel)) rfl, by decide +kernel, by decide +kernel, by decide +kernel⟩
theorem mv_X4_valueOf : MV yX4_valueOf cX4_valueOf 5 (some .int) 1 := ⟨tb_in (List.mem_of_getElem? (i := 456) (by decide +kernel)) rfl, tb_in (List.mem_of_getElem? (i := 454) (by decide +kernel)) rfl, tb_in (List.mem_of_getElem? (i := 455) (by decide +kernel)) rfl, tb_in (List.mem_of_getElem? (i := 45) (by decide +kernel)) rfl, by decide +kernel, by decide +kernel, by decide +kernel⟩
theorem ms_X4_isSign : MS yX4_isSign cX4_isSign 1 (some .boolean) 1 := ⟨tb_in (List.mem_of_getElem? (i := 459) (by decide +kernel)) rfl, tb_in (List.mem_of_getElem? (i := 458) (by decide +kernel)) rfl, tb_in (List.mem_of_getElem? (i := 45) (by decide +kernel)) rfl, by decide +kernel, by decide +kernel, by decide +kernel⟩
theorem mv_X4_meaningOf : MV yX4_meaningOf cX4_meaningOf 3 (some .int) 1 := ⟨tb_in (List.mem_of_getElem? (i := 541) (by decide +kernel)) rfl, tb_in (List.mem_of_getElem? (i := 540) (by decide +kernel)) rfl, tb_in (List.mem_of_getElem? (i := 7) (by decide +kernel)) rfl, tb_in (List.mem_of_getElem? (i := 45) (by decide +kernel)) rfl, by decide +kernel, by decide +kernel, by decide +kernel⟩
theorem ms_X4_truth : MS yX4_truth cX4_truth 1 (some .int) 1 := ⟨tb_in (List.mem_of_getElem? (i := 544) (by decide +kernel)) rfl, tb_in (List.mem_of_getElem? (i := 543) (by decide +kernel)) rfl, tb_in (List.mem_of_getElem? (i := 45) (by decide +kernel)) rfl, by decide +kernel, by decide +kernel, by decide +kernel⟩
theorem ms_X4_join : MS yX4_join cX4_join 3 (some .int) 3 := ⟨tb_in (List.mem_of_getElem? (i := 547) (by decide +kernel)) rfl, tb_in (List.mem_of_getElem? (i := 546) (by decide +kernel)) rfl, tb_in (List.mem_of_getElem? (i := 45) (by decide +kernel)) rfl, by decide +kernel, by decide +kernel, by decide +kernel⟩
theorem mv_X5_weigh : MV yX5_weigh cX5_weigh 4 none 1 := ⟨tb_in (List.mem_of_getElem? (i := 385) (by decide +kernel)) rfl, tb_in (List.mem_of_getElem? (i := 383) (by decide +kernel)) rfl, tb_in (List.mem_of_getElem? (i := 384) (by decide +kernel)) rfl, tb_in (List.mem_of_getElem? (i := 42) (by decide +kernel)) rfl, by decide +kernel, by decide +kernel, by decide +kernel⟩
theorem mv_X5_passDown : MV yX5_passDown cX5_passDown 4 none 2 := ⟨tb_in (List.mem_of_getElem? (i := 398) (by decide +kernel)) rfl, tb_in (List.mem_of_getElem? (i := 397) (by decide +kernel)) rfl, tb_in (List.mem_of_getElem? (i := 2) (by decide +kernel)) rfl, tb_in (List.mem_of_getElem? (i := 42) (by decide +kernel)) rfl, by decide +kernel, by decide +kernel, by decide +kernel⟩
theorem mv_X5_pushAside : MV yX5_pushAside cX5_pushAside 4 none 2 := ⟨tb_in (List.mem_of_getElem? (i := 406) (by decide +kernel)) rfl, tb_in (List.mem_of_getElem? (i := 405) (by decide +kernel)) rfl, tb_in (List.mem_of_getElem? (i := 3) (by decide +kernel)) rfl, tb_in (List.mem_of_getElem? (i := 42) (by decide +kernel)) rfl, by decide +kernel, by decide +kernel, by decide +kernel⟩
theorem mv_X5_leastFalling : MV yX5_leastFalling cX5_leastFalling 4 (some .int) 1 := ⟨tb_in (List.mem_of_getElem? (i := 381) (by decide +kernel)) rfl, tb_in (List.mem_of_getElem? (i := 379) (by decide +kernel)) rfl, tb_in (List.mem_of_getElem? (i := 380) (by decide +kernel)) rfl, tb_in (List.mem_of_getElem? (i := 42) (by decide +kernel)) rfl, by decide +kernel, by decide +kernel, by decide +kernel⟩
theorem mv_X6_take : MV yX6_take cX6_take 4 none 2 := ⟨tb_in (List.mem_of_getElem? (i := 634) (by decide +kernel)) rfl, tb_in (List.mem_of_getElem? (i := 632) (by decide +kernel)) rfl, tb_in (List.mem_of_getElem? (i := 633) (by decide +kernel)) rfl, tb_in (List.mem_of_getElem? (i := 44) (by decide +kernel)) rfl, by decide +kernel, by decide +kernel, by decide +kernel⟩
theorem mv_X6_asText : MV yX6_asText cX6_asText 1 (some (.object "ChurchLodge$Text")) 0 := ⟨tb_in (List.mem_of_getElem? (i := 673) (by decide +kernel)) rfl, tb_in (List.mem_of_getElem? (i := 671) (by decide +kernel)) rfl, tb_in (List.mem_of_getElem? (i := 672) (by decide +kernel)) rfl, tb_in (List.mem_of_getElem? (i := 44) (by decide +kernel)) rfl, by decide +kernel, by decide +kernel, by decide +kernel⟩
theorem mv_X6_read : MV yX6_read cX6_read 5 (some .int) 0 := ⟨tb_in (List.mem_of_getElem? (i := 643) (by decide +kernel)) rfl, tb_in (List.mem_of_getElem? (i := 641) (by decide +kernel)) rfl, tb_in (List.mem_of_getElem? (i := 642) (by decide +kernel)) rfl, tb_in (List.mem_of_getElem? (i := 44) (by decide +kernel)) rfl, by decide +kernel, by decide +kernel, by decide +kernel⟩
theorem mv_X6_openSign : MV yX6_openSign cX6_openSign 2 none 1 := ⟨tb_in (List.mem_of_getElem? (i := 649) (by decide +kernel)) rfl, tb_in (List.mem_of_getElem? (i := 648) (by decide +kernel)) rfl, tb_in (List.mem_of_getElem? (i := 12) (by decide +kernel)) rfl, tb_in (List.mem_of_getElem? (i := 44) (by decide +kernel)) rfl, by decide +kernel, by decide +kernel, by decide +kernel⟩
theorem mv_X6_closeSigns : MV yX6_closeSigns cX6_closeSigns 1 (some .boolean) 0 := ⟨tb_in (List.mem_of_getElem? (i := 669) (by decide +kernel)) rfl, tb_in (List.mem_of_getElem? (i := 668) (by decide +kernel)) rfl, tb_in (List.mem_of_getElem? (i := 16) (by decide +kernel)) rfl, tb_in (List.mem_of_getElem? (i := 44) (by decide +kernel)) rfl, by decide +kernel, by decide +kernel, by decide +kernel⟩
theorem mv_X6_readLeaf : MV yX6_readLeaf cX6_readLeaf 3 (some .int) 1 := ⟨tb_in (List.mem_of_getElem? (i := 657) (by decide +kernel)) rfl, tb_in (List.mem_of_getElem? (i := 656) (by decide +kernel)) rfl, tb_in (List.mem_of_getElem? (i := 14) (by decide +kernel)) rfl, tb_in (List.mem_of_getElem? (i := 44) (by decide +kernel)) rfl, by decide +kernel, by decide +kernel, by decide +kernel⟩
theorem mv_X6_readNumber : MV yX6_readNumber cX6_readNumber 4 (some .int) 1 := ⟨tb_in (List.mem_of_getElem? (i := 661) (by decide +kernel)) rfl, tb_in (List.mem_of_getElem? (i := 660) (by decide +kernel)) rfl, tb_in (List.mem_of_getElem? (i := 15) (by decide +kernel)) rfl, tb_in (List.mem_of_getElem? (i := 44) (by decide +kernel)) rfl, by decide +kernel, by decide +kernel, by decide +kernel⟩
theorem mv_X6_keep : MV yX6_keep cX6_keep 2 none 1 := ⟨tb_in (List.mem_of_getElem? (i := 653) (by decide +kernel)) rfl, tb_in (List.mem_of_getElem? (i := 652) (by decide +kernel)) rfl, tb_in (List.mem_of_getElem? (i := 13) (by decide +kernel)) rfl, tb_in (List.mem_of_getElem? (i := 44) (by decide +kernel)) rfl, by decide +kernel, by decide +kernel, by decide +kernel⟩
theorem ms_X6_isDigit : MS yX6_isDigit cX6_isDigit 1 (some .boolean) 1 := ⟨tb_in (List.mem_of_getElem? (i := 664) (by decide +kernel)) rfl, tb_in (List.mem_of_getElem? (i := 663) (by decide +kernel)) rfl, tb_in (List.mem_of_getElem? (i := 44) (by decide +kernel)) rfl, by decide +kernel, by decide +kernel, by decide +kernel⟩
theorem mv_X8_part : MV yX8_part cX8_part 4 (some .int) 3 := ⟨tb_in (List.mem_of_getElem? (i := 231) (by decide +kernel)) rfl, tb_in (List.mem_of_getElem? (i := 229) (by decide +kernel)) rfl, tb_in (List.mem_of_getElem? (i := 230) (by decide +kernel)) rfl, tb_in (List.mem_of_getElem? (i := 40) (by decide +kernel)) rfl, by decide +kernel, by decide +kernel, by decide +kernel⟩
theorem mv_X8_arch : MV yX8_arch cX8_arch 7 (some .int) 5 := ⟨tb_in (List.mem_of_getElem? (i := 318) (by decide +kernel)) rfl, tb_in (List.mem_of_getElem? (i := 316) (by decide +kernel)) rfl, tb_in (List.mem_of_getElem? (i := 317) (by decide +kernel)) rfl, tb_in (List.mem_of_getElem? (i := 40) (by decide +kernel)) rfl, by decide +kernel, by decide +kernel, by decide +kernel⟩
theorem mv_X8_bear : MV yX8_bear cX8_bear 8 (some .int) 5 := ⟨tb_in (List.mem_of_getElem? (i := 330) (by decide +kernel)) rfl, tb_in (List.mem_of_getElem? (i := 328) (by decide +kernel)) rfl, tb_in (List.mem_of_getElem? (i := 329) (by decide +kernel)) rfl, tb_in (List.mem_of_getElem? (i := 40) (by decide +kernel)) rfl, by decide +kernel, by decide +kernel, by decide +kernel⟩
theorem mv_X8_edit : MV yX8_edit cX8_edit 4 (some .int) 2 := ⟨tb_in (List.mem_of_getElem? (i := 358) (by decide +kernel)) rfl, tb_in (List.mem_of_getElem? (i := 356) (by decide +kernel)) rfl, tb_in (List.mem_of_getElem? (i := 357) (by decide +kernel)) rfl, tb_in (List.mem_of_getElem? (i := 40) (by decide +kernel)) rfl, by decide +kernel, by decide +kernel, by decide +kernel⟩
theorem mv_X8_wanted : MV yX8_wanted cX8_wanted 3 (some .int) 2 := ⟨tb_in (List.mem_of_getElem? (i := 362) (by decide +kernel)) rfl, tb_in (List.mem_of_getElem? (i := 360) (by decide +kernel)) rfl, tb_in (List.mem_of_getElem? (i := 361) (by decide +kernel)) rfl, tb_in (List.mem_of_getElem? (i := 40) (by decide +kernel)) rfl, by decide +kernel, by decide +kernel, by decide +kernel⟩
theorem mv_X8_tell : MV yX8_tell cX8_tell 6 (some .int) 3 := ⟨tb_in (List.mem_of_getElem? (i := 371) (by decide +kernel)) rfl, tb_in (List.mem_of_getElem? (i := 369) (by decide +kernel)) rfl, tb_in (List.mem_of_getElem? (i := 370) (by decide +kernel)) rfl, tb_in (List.mem_of_getElem? (i := 40) (by decide +kernel)) rfl, by decide +kernel, by decide +kernel, by decide +kernel⟩
theorem mv_X8_lay : MV yX8_lay cX8_lay 4 (some .int) 1 := ⟨tb_in (List.mem_of_getElem? (i := 414) (by decide +kernel)) rfl, tb_in (List.mem_of_getElem? (i := 412) (by decide +kernel)) rfl, tb_in (List.mem_of_getElem? (i := 413) (by decide +kernel)) rfl, tb_in (List.mem_of_getElem? (i := 40) (by decide +kernel)) rfl, by decide +kernel, by decide +kernel, by decide +kernel⟩
theorem mv_X8_may : MV yX8_may cX8_may 3 (some .int) 1 := ⟨tb_in (List.mem_of_getElem? (i := 582) (by decide +kernel)) rfl, tb_in (List.mem_of_getElem? (i := 580) (by decide +kernel)) rfl, tb_in (List.mem_of_getElem? (i := 581) (by decide +kernel)) rfl, tb_in (List.mem_of_getElem? (i := 40) (by decide +kernel)) rfl, by decide +kernel, by decide +kernel, by decide +kernel⟩
theorem mv_X8_falls : MV yX8_falls cX8_falls 3 (some .int) 1 := ⟨tb_in (List.mem_of_getElem? (i := 586) (by decide +kernel)) rfl, tb_in (List.mem_of_getElem? (i := 584) (by decide +kernel)) rfl, tb_in (List.mem_of_getElem? (i := 585) (by decide +kernel)) rfl, tb_in (List.mem_of_getElem? (i := 40) (by decide +kernel)) rfl, by decide +kernel, by decide +kernel, by decide +kernel⟩
theorem mv_X8_strike : MV yX8_strike cX8_strike 3 (some .int) 1 := ⟨tb_in (List.mem_of_getElem? (i := 590) (by decide +kernel)) rfl, tb_in (List.mem_of_getElem? (i := 588) (by decide +kernel)) rfl, tb_in (List.mem_of_getElem? (i := 589) (by decide +kernel)) rfl, tb_in (List.mem_of_getElem? (i := 40) (by decide +kernel)) rfl, by decide +kernel, by decide +kernel, by decide +kernel⟩
theorem mv_X8_prop : MV yX8_prop cX8_prop 5 (some .int) 2 := ⟨tb_in (List.mem_of_getElem? (i := 595) (by decide +kernel)) rfl, tb_in (List.mem_of_getElem? (i := 593) (by decide +kernel)) rfl, tb_in (List.mem_of_getElem? (i := 594) (by decide +kernel)) rfl, tb_in (List.mem_of_getElem? (i := 40) (by decide +kernel)) rfl, by decide +kernel, by decide +kernel, by decide +kernel⟩
theorem mv_X8_month : MV yX8_month cX8_month 2 (some .int) 1 := ⟨tb_in (List.mem_of_getElem? (i := 600) (by decide +kernel)) rfl, tb_in (List.mem_of_getElem? (i := 598) (by decide +kernel)) rfl, tb_in (List.mem_of_getElem? (i := 599) (by decide +kernel)) rfl, tb_in (List.mem_of_getElem? (i := 40) (by decide +kernel)) rfl, by decide +kernel, by decide +kernel, by decide +kernel⟩
theorem mv_X8_frost : MV yX8_frost cX8_frost 3 (some .int) 1 := ⟨tb_in (List.mem_of_getElem? (i := 614) (by decide +kernel)) rfl, tb_in (List.mem_of_getElem? (i := 612) (by decide +kernel)) rfl, tb_in (List.mem_of_getElem? (i := 613) (by decide +kernel)) rfl, tb_in (List.mem_of_getElem? (i := 40) (by decide +kernel)) rfl, by decide +kernel, by decide +kernel, by decide +kernel⟩
theorem mv_X8_bitter : MV yX8_bitter cX8_bitter 2 (some .int) 1 := ⟨tb_in (List.mem_of_getElem? (i := 618) (by decide +kernel)) rfl, tb_in (List.mem_of_getElem? (i := 616) (by decide +kernel)) rfl, tb_in (List.mem_of_getElem? (i := 617) (by decide +kernel)) rfl, tb_in (List.mem_of_getElem? (i := 40) (by decide +kernel)) rfl, by decide +kernel, by decide +kernel, by decide +kernel⟩
theorem mv_X8_feed : MV yX8_feed cX8_feed 3 (some .int) 2 := ⟨tb_in (List.mem_of_getElem? (i := 630) (by decide +kernel)) rfl, tb_in (List.mem_of_getElem? (i := 628) (by decide +kernel)) rfl, tb_in (List.mem_of_getElem? (i := 629) (by decide +kernel)) rfl, tb_in (List.mem_of_getElem? (i := 40) (by decide +kernel)) rfl, by decide +kernel, by decide +kernel, by decide +kernel⟩
theorem mv_X8_gift : MV yX8_gift cX8_gift 4 (some .int) 1 := ⟨tb_in (List.mem_of_getElem? (i := 638) (by decide +kernel)) rfl, tb_in (List.mem_of_getElem? (i := 636) (by decide +kernel)) rfl, tb_in (List.mem_of_getElem? (i := 637) (by decide +kernel)) rfl, tb_in (List.mem_of_getElem? (i := 40) (by decide +kernel)) rfl, by decide +kernel, by decide +kernel, by decide +kernel⟩
theorem mv_X8_statute : MV yX8_statute cX8_statute 3 (some .int) 1 := ⟨tb_in (List.mem_of_getElem? (i := 720) (by decide +kernel)) rfl, tb_in (List.mem_of_getElem? (i := 718) (by decide +kernel)) rfl, tb_in (List.mem_of_getElem? (i := 719) (by decide +kernel)) rfl, tb_in (List.mem_of_getElem? (i := 40) (by decide +kernel)) rfl, by decide +kernel, by decide +kernel, by decide +kernel⟩
theorem mv_X8_end : MV yX8_end cX8_end 5 (some .int) 2 := ⟨tb_in (List.mem_of_getElem? (i := 724) (by decide +kernel)) rfl, tb_in (List.mem_of_getElem? (i := 722) (by decide +kernel)) rfl, tb_in (List.mem_of_getElem? (i := 723) (by decide +kernel)) rfl, tb_in (List.mem_of_getElem? (i := 40) (by decide +kernel)) rfl, by decide +kernel, by decide +kernel, by decide +kernel⟩
theorem mv_X8_about : MV yX8_about cX8_about 4 (some .int) 2 := ⟨tb_in (List.mem_of_getElem? (i := 729) (by decide +kernel)) rfl, tb_in (List.mem_of_getElem? (i := 727) (by decide +kernel)) rfl, tb_in (List.mem_of_getElem? (i := 728) (by decide +kernel)) rfl, tb_in (List.mem_of_getElem? (i := 40) (by decide +kernel)) rfl, by decide +kernel, by decide +kernel, by decide +kernel⟩
theorem mv_X8_support : MV yX8_support cX8_support 4 (some .int) 2 := ⟨tb_in (List.mem_of_getElem? (i := 751) (by decide +kernel)) rfl, tb_in (List.mem_of_getElem? (i := 749) (by decide +kernel)) rfl, tb_in (List.mem_of_getElem? (i := 750) (by decide +kernel)) rfl, tb_in (List.mem_of_getElem? (i := 40) (by decide +kernel)) rfl, by decide +kernel, by decide +kernel, by decide +kernel⟩
theorem mv_X8_left : MV yX8_left cX8_left 4 (some .int) 2 := ⟨tb_in (List.mem_of_getElem? (i := 755) (by decide +kernel)) rfl, tb_in (List.mem_of_getElem? (i := 753) (by decide +kernel)) rfl, tb_in (List.mem_of_getElem? (i := 754) (by decide +kernel)) rfl, tb_in (List.mem_of_getElem? (i := 40) (by decide +kernel)) rfl, by decide +kernel, by decide +kernel, by decide +kernel⟩
theorem mv_X8_work : MV yX8_work cX8_work 2 (some .int) 0 := ⟨tb_in (List.mem_of_getElem? (i := 432) (by decide +kernel)) rfl, tb_in (List.mem_of_getElem? (i := 430) (by decide +kernel)) rfl, tb_in (List.mem_of_getElem? (i := 431) (by decide +kernel)) rfl, tb_in (List.mem_of_getElem? (i := 40) (by decide +kernel)) rfl, by decide +kernel, by decide +kernel, by decide +kernel⟩
theorem mv_X8_as : MV yX8_as cX8_as 4 (some .int) 2 := ⟨tb_in (List.mem_of_getElem? (i := 760) (by decide +kernel)) rfl, tb_in (List.mem_of_getElem? (i := 758) (by decide +kernel)) rfl, tb_in (List.mem_of_getElem? (i := 759) (by decide +kernel)) rfl, tb_in (List.mem_of_getElem? (i := 40) (by decide +kernel)) rfl, by decide +kernel, by decide +kernel, by decide +kernel⟩
theorem mv_X8_down : MV yX8_down cX8_down 3 (some .int) 1 := ⟨tb_in (List.mem_of_getElem? (i := 768) (by decide +kernel)) rfl, tb_in (List.mem_of_getElem? (i := 766) (by decide +kernel)) rfl, tb_in (List.mem_of_getElem? (i := 767) (by decide +kernel)) rfl, tb_in (List.mem_of_getElem? (i := 40) (by decide +kernel)) rfl, by decide +kernel, by decide +kernel, by decide +kernel⟩
theorem mv_X8_needs : MV yX8_needs cX8_needs 5 (some .int) 1 := ⟨tb_in (List.mem_of_getElem? (i := 777) (by decide +kernel)) rfl, tb_in (List.mem_of_getElem? (i := 775) (by decide +kernel)) rfl, tb_in (List.mem_of_getElem? (i := 776) (by decide +kernel)) rfl, tb_in (List.mem_of_getElem? (i := 40) (by decide +kernel)) rfl, by decide +kernel, by decide +kernel, by decide +kernel⟩
theorem mv_X8_count : MV yX8_count cX8_count 2 (some .int) 1 := ⟨tb_in (List.mem_of_getElem? (i := 786) (by decide +kernel)) rfl, tb_in (List.mem_of_getElem? (i := 784) (by decide +kernel)) rfl, tb_in (List.mem_of_getElem? (i := 785) (by decide +kernel)) rfl, tb_in (List.mem_of_getElem? (i := 40) (by decide +kernel)) rfl, by decide +kernel, by decide +kernel, by decide +kernel⟩
theorem ms_X8_isMeasure : MS yX8_isMeasure cX8_isMeasure 3 (some .boolean) 3 := ⟨tb_in (List.mem_of_getElem? (i := 234) (by decide +kernel)) rfl, tb_in (List.mem_of_getElem? (i := 233) (by decide +kernel)) rfl, tb_in (List.mem_of_getElem? (i := 40) (by decide +kernel)) rfl, by decide +kernel, by decide +kernel, by decide +kernel⟩
theorem mv_X8_stands : MV yX8_stands cX8_stands 1 (some .boolean) 0 := ⟨tb_in (List.mem_of_getElem? (i := 377) (by decide +kernel)) rfl, tb_in (List.mem_of_getElem? (i := 376) (by decide +kernel)) rfl, tb_in (List.mem_of_getElem? (i := 1) (by decide +kernel)) rfl, tb_in (List.mem_of_getElem? (i := 40) (by decide +kernel)) rfl, by decide +kernel, by decide +kernel, by decide +kernel⟩
theorem mv_X8_loadOf : MV yX8_loadOf cX8_loadOf 2 (some .int) 1 := ⟨tb_in (List.mem_of_getElem? (i := 733) (by decide +kernel)) rfl, tb_in (List.mem_of_getElem? (i := 732) (by decide +kernel)) rfl, tb_in (List.mem_of_getElem? (i := 17) (by decide +kernel)) rfl, tb_in (List.mem_of_getElem? (i := 40) (by decide +kernel)) rfl, by decide +kernel, by decide +kernel, by decide +kernel⟩
theorem mv_X8_pushToRightOn : MV yX8_pushToRightOn cX8_pushToRightOn 2 (some .int) 1 := ⟨tb_in (List.mem_of_getElem? (i := 738) (by decide +kernel)) rfl, tb_in (List.mem_of_getElem? (i := 737) (by decide +kernel)) rfl, tb_in (List.mem_of_getElem? (i := 18) (by decide +kernel)) rfl, tb_in (List.mem_of_getElem? (i := 40) (by decide +kernel)) rfl, by decide +kernel, by decide +kernel, by decide +kernel⟩
theorem mv_X8_fallByCourse : MV yX8_fallByCourse cX8_fallByCourse 3 (some .int) 1 := ⟨tb_in (List.mem_of_getElem? (i := 569) (by decide +kernel)) rfl, tb_in (List.mem_of_getElem? (i := 568) (by decide +kernel)) rfl, tb_in (List.mem_of_getElem? (i := 10) (by decide +kernel)) rfl, tb_in (List.mem_of_getElem? (i := 40) (by decide +kernel)) rfl, by decide +kernel, by decide +kernel, by decide +kernel⟩
theorem mv_X8_hindranceOfCourse : MV yX8_hindranceOfCourse cX8_hindranceOfCourse 3 (some .int) 2 := ⟨tb_in (List.mem_of_getElem? (i := 418) (by decide +kernel)) rfl, tb_in (List.mem_of_getElem? (i := 417) (by decide +kernel)) rfl, tb_in (List.mem_of_getElem? (i := 4) (by decide +kernel)) rfl, tb_in (List.mem_of_getElem? (i := 40) (by decide +kernel)) rfl, by decide +kernel, by decide +kernel, by decide +kernel⟩
theorem mv_X8_findGift : MV yX8_findGift cX8_findGift 2 (some (.object "ChurchLodge$Gift")) 1 := ⟨tb_in (List.mem_of_getElem? (i := 560) (by decide +kernel)) rfl, tb_in (List.mem_of_getElem? (i := 559) (by decide +kernel)) rfl, tb_in (List.mem_of_getElem? (i := 9) (by decide +kernel)) rfl, tb_in (List.mem_of_getElem? (i := 40) (by decide +kernel)) rfl, by decide +kernel, by decide +kernel, by decide +kernel⟩
theorem mv_X8_coinsRemaining : MV yX8_coinsRemaining cX8_coinsRemaining 4 (some .int) 0 := ⟨tb_in (List.mem_of_getElem? (i := 794) (by decide +kernel)) rfl, tb_in (List.mem_of_getElem? (i := 793) (by decide +kernel)) rfl, tb_in (List.mem_of_getElem? (i := 19) (by decide +kernel)) rfl, tb_in (List.mem_of_getElem? (i := 40) (by decide +kernel)) rfl, by decide +kernel, by decide +kernel, by decide +kernel⟩
theorem mv_X8_coinsFor : MV yX8_coinsFor cX8_coinsFor 6 (some .int) 2 := ⟨tb_in (List.mem_of_getElem? (i := 552) (by decide +kernel)) rfl, tb_in (List.mem_of_getElem? (i := 551) (by decide +kernel)) rfl, tb_in (List.mem_of_getElem? (i := 8) (by decide +kernel)) rfl, tb_in (List.mem_of_getElem? (i := 40) (by decide +kernel)) rfl, by decide +kernel, by decide +kernel, by decide +kernel⟩
theorem mv_X8_payFor : MV yX8_payFor cX8_payFor 7 none 2 := ⟨tb_in (List.mem_of_getElem? (i := 573) (by decide +kernel)) rfl, tb_in (List.mem_of_getElem? (i := 572) (by decide +kernel)) rfl, tb_in (List.mem_of_getElem? (i := 11) (by decide +kernel)) rfl, tb_in (List.mem_of_getElem? (i := 40) (by decide +kernel)) rfl, by decide +kernel, by decide +kernel, by decide +kernel⟩
theorem mv_X8_nameMonth : MV yX8_nameMonth cX8_nameMonth 1 none 0 := ⟨tb_in (List.mem_of_getElem? (i := 440) (by decide +kernel)) rfl, tb_in (List.mem_of_getElem? (i := 439) (by decide +kernel)) rfl, tb_in (List.mem_of_getElem? (i := 6) (by decide +kernel)) rfl, tb_in (List.mem_of_getElem? (i := 40) (by decide +kernel)) rfl, by decide +kernel, by decide +kernel, by decide +kernel⟩
theorem mv_X8_statuteInForce : MV yX8_statuteInForce cX8_statuteInForce 2 (some .int) 0 := ⟨tb_in (List.mem_of_getElem? (i := 436) (by decide +kernel)) rfl, tb_in (List.mem_of_getElem? (i := 435) (by decide +kernel)) rfl, tb_in (List.mem_of_getElem? (i := 5) (by decide +kernel)) rfl, tb_in (List.mem_of_getElem? (i := 40) (by decide +kernel)) rfl, by decide +kernel, by decide +kernel, by decide +kernel⟩
theorem ms_X9_in : MS yX9_in cX9_in 3 (some .boolean) 3 := ⟨tb_in (List.mem_of_getElem? (i := 953) (by decide +kernel)) rfl, tb_in (List.mem_of_getElem? (i := 952) (by decide +kernel)) rfl, tb_in (List.mem_of_getElem? (i := 47) (by decide +kernel)) rfl, by decide +kernel, by decide +kernel, by decide +kernel⟩
theorem mv_X9_isPart : MV yX9_isPart cX9_isPart 2 (some .boolean) 1 := ⟨tb_in (List.mem_of_getElem? (i := 966) (by decide +kernel)) rfl, tb_in (List.mem_of_getElem? (i := 965) (by decide +kernel)) rfl, tb_in (List.mem_of_getElem? (i := 21) (by decide +kernel)) rfl, tb_in (List.mem_of_getElem? (i := 47) (by decide +kernel)) rfl, by decide +kernel, by decide +kernel, by decide +kernel⟩
theorem mv_X9_newPart : MV yX9_newPart cX9_newPart 6 (some .int) 4 := ⟨tb_in (List.mem_of_getElem? (i := 957) (by decide +kernel)) rfl, tb_in (List.mem_of_getElem? (i := 956) (by decide +kernel)) rfl, tb_in (List.mem_of_getElem? (i := 20) (by decide +kernel)) rfl, tb_in (List.mem_of_getElem? (i := 47) (by decide +kernel)) rfl, by decide +kernel, by decide +kernel, by decide +kernel⟩
theorem ms_X9_isPlan : MS yX9_isPlan cX9_isPlan 3 (some .boolean) 3 := ⟨tb_in (List.mem_of_getElem? (i := 950) (by decide +kernel)) rfl, tb_in (List.mem_of_getElem? (i := 949) (by decide +kernel)) rfl, tb_in (List.mem_of_getElem? (i := 47) (by decide +kernel)) rfl, by decide +kernel, by decide +kernel, by decide +kernel⟩
theorem mv_X9_part : MV yX9_part cX9_part 4 (some .int) 3 := ⟨tb_in (List.mem_of_getElem? (i := 947) (by decide +kernel)) rfl, tb_in (List.mem_of_getElem? (i := 945) (by decide +kernel)) rfl, tb_in (List.mem_of_getElem? (i := 946) (by decide +kernel)) rfl, tb_in (List.mem_of_getElem? (i := 47) (by decide +kernel)) rfl, by decide +kernel, by decide +kernel, by decide +kernel⟩
theorem mv_X9_support0 : MV yX9_support0 cX9_support0 5 none 4 := ⟨tb_in (List.mem_of_getElem? (i := 970) (by decide +kernel)) rfl, tb_in (List.mem_of_getElem? (i := 969) (by decide +kernel)) rfl, tb_in (List.mem_of_getElem? (i := 22) (by decide +kernel)) rfl, tb_in (List.mem_of_getElem? (i := 47) (by decide +kernel)) rfl, by decide +kernel, by decide +kernel, by decide +kernel⟩
theorem mv_X9_arch : MV yX9_arch cX9_arch 7 (some .int) 5 := ⟨tb_in (List.mem_of_getElem? (i := 962) (by decide +kernel)) rfl, tb_in (List.mem_of_getElem? (i := 960) (by decide +kernel)) rfl, tb_in (List.mem_of_getElem? (i := 961) (by decide +kernel)) rfl, tb_in (List.mem_of_getElem? (i := 47) (by decide +kernel)) rfl, by decide +kernel, by decide +kernel, by decide +kernel⟩
theorem mv_X9_edition : MV yX9_edition cX9_edition 2 none 0 := ⟨tb_in (List.mem_of_getElem? (i := 978) (by decide +kernel)) rfl, tb_in (List.mem_of_getElem? (i := 977) (by decide +kernel)) rfl, tb_in (List.mem_of_getElem? (i := 23) (by decide +kernel)) rfl, tb_in (List.mem_of_getElem? (i := 47) (by decide +kernel)) rfl, by decide +kernel, by decide +kernel, by decide +kernel⟩
theorem mv_X9_bear : MV yX9_bear cX9_bear 10 (some .int) 5 := ⟨tb_in (List.mem_of_getElem? (i := 974) (by decide +kernel)) rfl, tb_in (List.mem_of_getElem? (i := 972) (by decide +kernel)) rfl, tb_in (List.mem_of_getElem? (i := 973) (by decide +kernel)) rfl, tb_in (List.mem_of_getElem? (i := 47) (by decide +kernel)) rfl, by decide +kernel, by decide +kernel, by decide +kernel⟩
theorem mv_X9_edit : MV yX9_edit cX9_edit 3 (some .int) 2 := ⟨tb_in (List.mem_of_getElem? (i := 982) (by decide +kernel)) rfl, tb_in (List.mem_of_getElem? (i := 980) (by decide +kernel)) rfl, tb_in (List.mem_of_getElem? (i := 981) (by decide +kernel)) rfl, tb_in (List.mem_of_getElem? (i := 47) (by decide +kernel)) rfl, by decide +kernel, by decide +kernel, by decide +kernel⟩
theorem mv_X9_wanted : MV yX9_wanted cX9_wanted 3 (some .int) 2 := ⟨tb_in (List.mem_of_getElem? (i := 986) (by decide +kernel)) rfl, tb_in (List.mem_of_getElem? (i := 984) (by decide +kernel)) rfl, tb_in (List.mem_of_getElem? (i := 985) (by decide +kernel)) rfl, tb_in (List.mem_of_getElem? (i := 47) (by decide +kernel)) rfl, by decide +kernel, by decide +kernel, by decide +kernel⟩
theorem mv_X9_goes : MV yX9_goes cX9_goes 5 (some .int) 2 := ⟨tb_in (List.mem_of_getElem? (i := 1002) (by decide +kernel)) rfl, tb_in (List.mem_of_getElem? (i := 1001) (by decide +kernel)) rfl, tb_in (List.mem_of_getElem? (i := 26) (by decide +kernel)) rfl, tb_in (List.mem_of_getElem? (i := 47) (by decide +kernel)) rfl, by decide +kernel, by decide +kernel, by decide +kernel⟩
theorem mv_X9_weigh : MV yX9_weigh cX9_weigh 3 none 0 := ⟨tb_in (List.mem_of_getElem? (i := 998) (by decide +kernel)) rfl, tb_in (List.mem_of_getElem? (i := 997) (by decide +kernel)) rfl, tb_in (List.mem_of_getElem? (i := 25) (by decide +kernel)) rfl, tb_in (List.mem_of_getElem? (i := 47) (by decide +kernel)) rfl, by decide +kernel, by decide +kernel, by decide +kernel⟩
theorem mv_X9_net : MV yX9_net cX9_net 2 (some .int) 1 := ⟨tb_in (List.mem_of_getElem? (i := 1007) (by decide +kernel)) rfl, tb_in (List.mem_of_getElem? (i := 1006) (by decide +kernel)) rfl, tb_in (List.mem_of_getElem? (i := 27) (by decide +kernel)) rfl, tb_in (List.mem_of_getElem? (i := 47) (by decide +kernel)) rfl, by decide +kernel, by decide +kernel, by decide +kernel⟩
theorem mv_X9_falling : MV yX9_falling cX9_falling 2 (some .int) 0 := ⟨tb_in (List.mem_of_getElem? (i := 994) (by decide +kernel)) rfl, tb_in (List.mem_of_getElem? (i := 993) (by decide +kernel)) rfl, tb_in (List.mem_of_getElem? (i := 24) (by decide +kernel)) rfl, tb_in (List.mem_of_getElem? (i := 47) (by decide +kernel)) rfl, by decide +kernel, by decide +kernel, by decide +kernel⟩
theorem mv_X9_fallingBy : MV yX9_fallingBy cX9_fallingBy 4 (some .int) 1 := ⟨tb_in (List.mem_of_getElem? (i := 1086) (by decide +kernel)) rfl, tb_in (List.mem_of_getElem? (i := 1085) (by decide +kernel)) rfl, tb_in (List.mem_of_getElem? (i := 37) (by decide +kernel)) rfl, tb_in (List.mem_of_getElem? (i := 47) (by decide +kernel)) rfl, by decide +kernel, by decide +kernel, by decide +kernel⟩
theorem mv_X9_tell : MV yX9_tell cX9_tell 5 (some .int) 3 := ⟨tb_in (List.mem_of_getElem? (i := 990) (by decide +kernel)) rfl, tb_in (List.mem_of_getElem? (i := 988) (by decide +kernel)) rfl, tb_in (List.mem_of_getElem? (i := 989) (by decide +kernel)) rfl, tb_in (List.mem_of_getElem? (i := 47) (by decide +kernel)) rfl, by decide +kernel, by decide +kernel, by decide +kernel⟩
theorem mv_X9_feed : MV yX9_feed cX9_feed 4 (some .int) 2 := ⟨tb_in (List.mem_of_getElem? (i := 1012) (by decide +kernel)) rfl, tb_in (List.mem_of_getElem? (i := 1010) (by decide +kernel)) rfl, tb_in (List.mem_of_getElem? (i := 1011) (by decide +kernel)) rfl, tb_in (List.mem_of_getElem? (i := 47) (by decide +kernel)) rfl, by decide +kernel, by decide +kernel, by decide +kernel⟩
theorem ms_X9_isDigit : MS yX9_isDigit cX9_isDigit 1 (some .boolean) 1 := ⟨tb_in (List.mem_of_getElem? (i := 1030) (by decide +kernel)) rfl, tb_in (List.mem_of_getElem? (i := 1029) (by decide +kernel)) rfl, tb_in (List.mem_of_getElem? (i := 47) (by decide +kernel)) rfl, by decide +kernel, by decide +kernel, by decide +kernel⟩
theorem ms_X9_isName : MS yX9_isName cX9_isName 1 (some .boolean) 1 := ⟨tb_in (List.mem_of_getElem? (i := 1033) (by decide +kernel)) rfl, tb_in (List.mem_of_getElem? (i := 1032) (by decide +kernel)) rfl, tb_in (List.mem_of_getElem? (i := 47) (by decide +kernel)) rfl, by decide +kernel, by decide +kernel, by decide +kernel⟩
theorem ms_X9_isSign : MS yX9_isSign cX9_isSign 1 (some .boolean) 1 := ⟨tb_in (List.mem_of_getElem? (i := 1023) (by decide +kernel)) rfl, tb_in (List.mem_of_getElem? (i := 1022) (by decide +kernel)) rfl, tb_in (List.mem_of_getElem? (i := 47) (by decide +kernel)) rfl, by decide +kernel, by decide +kernel, by decide +kernel⟩
theorem mv_X9_lay0 : MV yX9_lay0 cX9_lay0 2 none 1 := ⟨tb_in (List.mem_of_getElem? (i := 1027) (by decide +kernel)) rfl, tb_in (List.mem_of_getElem? (i := 1026) (by decide +kernel)) rfl, tb_in (List.mem_of_getElem? (i := 29) (by decide +kernel)) rfl, tb_in (List.mem_of_getElem? (i := 47) (by decide +kernel)) rfl, by decide +kernel, by decide +kernel, by decide +kernel⟩
theorem mv_X9_read : MV yX9_read cX9_read 6 (some .int) 0 := ⟨tb_in (List.mem_of_getElem? (i := 1020) (by decide +kernel)) rfl, tb_in (List.mem_of_getElem? (i := 1019) (by decide +kernel)) rfl, tb_in (List.mem_of_getElem? (i := 28) (by decide +kernel)) rfl, tb_in (List.mem_of_getElem? (i := 47) (by decide +kernel)) rfl, by decide +kernel, by decide +kernel, by decide +kernel⟩
theorem mv_X9_keep : MV yX9_keep cX9_keep 1 (some .int) 0 := ⟨tb_in (List.mem_of_getElem? (i := 1037) (by decide +kernel)) rfl, tb_in (List.mem_of_getElem? (i := 1036) (by decide +kernel)) rfl, tb_in (List.mem_of_getElem? (i := 30) (by decide +kernel)) rfl, tb_in (List.mem_of_getElem? (i := 47) (by decide +kernel)) rfl, by decide +kernel, by decide +kernel, by decide +kernel⟩
theorem mv_X9_isFrost : MV yX9_isFrost cX9_isFrost 2 (some .boolean) 1 := ⟨tb_in (List.mem_of_getElem? (i := 1057) (by decide +kernel)) rfl, tb_in (List.mem_of_getElem? (i := 1056) (by decide +kernel)) rfl, tb_in (List.mem_of_getElem? (i := 33) (by decide +kernel)) rfl, tb_in (List.mem_of_getElem? (i := 47) (by decide +kernel)) rfl, by decide +kernel, by decide +kernel, by decide +kernel⟩
theorem mv_X9_named : MV yX9_named cX9_named 3 (some .int) 2 := ⟨tb_in (List.mem_of_getElem? (i := 1053) (by decide +kernel)) rfl, tb_in (List.mem_of_getElem? (i := 1052) (by decide +kernel)) rfl, tb_in (List.mem_of_getElem? (i := 32) (by decide +kernel)) rfl, tb_in (List.mem_of_getElem? (i := 47) (by decide +kernel)) rfl, by decide +kernel, by decide +kernel, by decide +kernel⟩
theorem ms_X9_both : MS yX9_both cX9_both 3 (some .int) 3 := ⟨tb_in (List.mem_of_getElem? (i := 1060) (by decide +kernel)) rfl, tb_in (List.mem_of_getElem? (i := 1059) (by decide +kernel)) rfl, tb_in (List.mem_of_getElem? (i := 47) (by decide +kernel)) rfl, by decide +kernel, by decide +kernel, by decide +kernel⟩
theorem mv_X9_says : MV yX9_says cX9_says 6 (some .int) 2 := ⟨tb_in (List.mem_of_getElem? (i := 1049) (by decide +kernel)) rfl, tb_in (List.mem_of_getElem? (i := 1048) (by decide +kernel)) rfl, tb_in (List.mem_of_getElem? (i := 31) (by decide +kernel)) rfl, tb_in (List.mem_of_getElem? (i := 47) (by decide +kernel)) rfl, by decide +kernel, by decide +kernel, by decide +kernel⟩
theorem mv_X9_isGift : MV yX9_isGift cX9_isGift 2 (some .boolean) 1 := ⟨tb_in (List.mem_of_getElem? (i := 1068) (by decide +kernel)) rfl, tb_in (List.mem_of_getElem? (i := 1067) (by decide +kernel)) rfl, tb_in (List.mem_of_getElem? (i := 34) (by decide +kernel)) rfl, tb_in (List.mem_of_getElem? (i := 47) (by decide +kernel)) rfl, by decide +kernel, by decide +kernel, by decide +kernel⟩
theorem mv_X9_gift : MV yX9_gift cX9_gift 4 (some .int) 1 := ⟨tb_in (List.mem_of_getElem? (i := 1016) (by decide +kernel)) rfl, tb_in (List.mem_of_getElem? (i := 1014) (by decide +kernel)) rfl, tb_in (List.mem_of_getElem? (i := 1015) (by decide +kernel)) rfl, tb_in (List.mem_of_getElem? (i := 47) (by decide +kernel)) rfl, by decide +kernel, by decide +kernel, by decide +kernel⟩
theorem mv_X9_statute : MV yX9_statute cX9_statute 3 (some .int) 1 := ⟨tb_in (List.mem_of_getElem? (i := 1041) (by decide +kernel)) rfl, tb_in (List.mem_of_getElem? (i := 1039) (by decide +kernel)) rfl, tb_in (List.mem_of_getElem? (i := 1040) (by decide +kernel)) rfl, tb_in (List.mem_of_getElem? (i := 47) (by decide +kernel)) rfl, by decide +kernel, by decide +kernel, by decide +kernel⟩
theorem mv_X9_work : MV yX9_work cX9_work 3 (some .int) 0 := ⟨tb_in (List.mem_of_getElem? (i := 1045) (by decide +kernel)) rfl, tb_in (List.mem_of_getElem? (i := 1043) (by decide +kernel)) rfl, tb_in (List.mem_of_getElem? (i := 1044) (by decide +kernel)) rfl, tb_in (List.mem_of_getElem? (i := 47) (by decide +kernel)) rfl, by decide +kernel, by decide +kernel, by decide +kernel⟩
theorem mv_X9_endFor : MV yX9_endFor cX9_endFor 3 (some .int) 2 := ⟨tb_in (List.mem_of_getElem? (i := 1072) (by decide +kernel)) rfl, tb_in (List.mem_of_getElem? (i := 1071) (by decide +kernel)) rfl, tb_in (List.mem_of_getElem? (i := 35) (by decide +kernel)) rfl, tb_in (List.mem_of_getElem? (i := 47) (by decide +kernel)) rfl, by decide +kernel, by decide +kernel, by decide +kernel⟩
theorem mv_X9_end : MV yX9_end cX9_end 3 (some .int) 2 := ⟨tb_in (List.mem_of_getElem? (i := 1064) (by decide +kernel)) rfl, tb_in (List.mem_of_getElem? (i := 1062) (by decide +kernel)) rfl, tb_in (List.mem_of_getElem? (i := 1063) (by decide +kernel)) rfl, tb_in (List.mem_of_getElem? (i := 47) (by decide +kernel)) rfl, by decide +kernel, by decide +kernel, by decide +kernel⟩
theorem mv_X9_hinders : MV yX9_hinders cX9_hinders 5 (some .int) 1 := ⟨tb_in (List.mem_of_getElem? (i := 1081) (by decide +kernel)) rfl, tb_in (List.mem_of_getElem? (i := 1080) (by decide +kernel)) rfl, tb_in (List.mem_of_getElem? (i := 36) (by decide +kernel)) rfl, tb_in (List.mem_of_getElem? (i := 47) (by decide +kernel)) rfl, by decide +kernel, by decide +kernel, by decide +kernel⟩
theorem mv_X9_may : MV yX9_may cX9_may 2 (some .int) 1 := ⟨tb_in (List.mem_of_getElem? (i := 1077) (by decide +kernel)) rfl, tb_in (List.mem_of_getElem? (i := 1075) (by decide +kernel)) rfl, tb_in (List.mem_of_getElem? (i := 1076) (by decide +kernel)) rfl, tb_in (List.mem_of_getElem? (i := 47) (by decide +kernel)) rfl, by decide +kernel, by decide +kernel, by decide +kernel⟩
theorem mv_X9_falls : MV yX9_falls cX9_falls 2 (some .int) 1 := ⟨tb_in (List.mem_of_getElem? (i := 1090) (by decide +kernel)) rfl, tb_in (List.mem_of_getElem? (i := 1088) (by decide +kernel)) rfl, tb_in (List.mem_of_getElem? (i := 1089) (by decide +kernel)) rfl, tb_in (List.mem_of_getElem? (i := 47) (by decide +kernel)) rfl, by decide +kernel, by decide +kernel, by decide +kernel⟩
theorem mv_X9_lay : MV yX9_lay cX9_lay 6 (some .int) 1 := ⟨tb_in (List.mem_of_getElem? (i := 1094) (by decide +kernel)) rfl, tb_in (List.mem_of_getElem? (i := 1092) (by decide +kernel)) rfl, tb_in (List.mem_of_getElem? (i := 1093) (by decide +kernel)) rfl, tb_in (List.mem_of_getElem? (i := 47) (by decide +kernel)) rfl, by decide +kernel, by decide +kernel, by decide +kernel⟩
theorem mv_X9_strike : MV yX9_strike cX9_strike 2 (some .int) 1 := ⟨tb_in (List.mem_of_getElem? (i := 1098) (by decide +kernel)) rfl, tb_in (List.mem_of_getElem? (i := 1096) (by decide +kernel)) rfl, tb_in (List.mem_of_getElem? (i := 1097) (by decide +kernel)) rfl, tb_in (List.mem_of_getElem? (i := 47) (by decide +kernel)) rfl, by decide +kernel, by decide +kernel, by decide +kernel⟩
theorem mv_X9_prop : MV yX9_prop cX9_prop 4 (some .int) 2 := ⟨tb_in (List.mem_of_getElem? (i := 1102) (by decide +kernel)) rfl, tb_in (List.mem_of_getElem? (i := 1100) (by decide +kernel)) rfl, tb_in (List.mem_of_getElem? (i := 1101) (by decide +kernel)) rfl, tb_in (List.mem_of_getElem? (i := 47) (by decide +kernel)) rfl, by decide +kernel, by decide +kernel, by decide +kernel⟩
theorem mv_X9_month : MV yX9_month cX9_month 5 (some .int) 1 := ⟨tb_in (List.mem_of_getElem? (i := 1106) (by decide +kernel)) rfl, tb_in (List.mem_of_getElem? (i := 1104) (by decide +kernel)) rfl, tb_in (List.mem_of_getElem? (i := 1105) (by decide +kernel)) rfl, tb_in (List.mem_of_getElem? (i := 47) (by decide +kernel)) rfl, by decide +kernel, by decide +kernel, by decide +kernel⟩
theorem mv_X9_frost : MV yX9_frost cX9_frost 3 (some .int) 1 := ⟨tb_in (List.mem_of_getElem? (i := 1110) (by decide +kernel)) rfl, tb_in (List.mem_of_getElem? (i := 1108) (by decide +kernel)) rfl, tb_in (List.mem_of_getElem? (i := 1109) (by decide +kernel)) rfl, tb_in (List.mem_of_getElem? (i := 47) (by decide +kernel)) rfl, by decide +kernel, by decide +kernel, by decide +kernel⟩
theorem mv_X9_bitter : MV yX9_bitter cX9_bitter 3 (some .int) 1 := ⟨tb_in (List.mem_of_getElem? (i := 1114) (by decide +kernel)) rfl, tb_in (List.mem_of_getElem? (i := 1112) (by decide +kernel)) rfl, tb_in (List.mem_of_getElem? (i := 1113) (by decide +kernel)) rfl, tb_in (List.mem_of_getElem? (i := 47) (by decide +kernel)) rfl, by decide +kernel, by decide +kernel, by decide +kernel⟩
theorem mv_X9_about : MV yX9_about cX9_about 5 (some .int) 2 := ⟨tb_in (List.mem_of_getElem? (i := 1118) (by decide +kernel)) rfl, tb_in (List.mem_of_getElem? (i := 1116) (by decide +kernel)) rfl, tb_in (List.mem_of_getElem? (i := 1117) (by decide +kernel)) rfl, tb_in (List.mem_of_getElem? (i := 47) (by decide +kernel)) rfl, by decide +kernel, by decide +kernel, by decide +kernel⟩
theorem mv_X9_stands : MV yX9_stands cX9_stands 4 (some .boolean) 2 := ⟨tb_in (List.mem_of_getElem? (i := 1122) (by decide +kernel)) rfl, tb_in (List.mem_of_getElem? (i := 1121) (by decide +kernel)) rfl, tb_in (List.mem_of_getElem? (i := 38) (by decide +kernel)) rfl, tb_in (List.mem_of_getElem? (i := 47) (by decide +kernel)) rfl, by decide +kernel, by decide +kernel, by decide +kernel⟩
theorem mv_X9_support : MV yX9_support cX9_support 3 (some .int) 2 := ⟨tb_in (List.mem_of_getElem? (i := 1126) (by decide +kernel)) rfl, tb_in (List.mem_of_getElem? (i := 1124) (by decide +kernel)) rfl, tb_in (List.mem_of_getElem? (i := 1125) (by decide +kernel)) rfl, tb_in (List.mem_of_getElem? (i := 47) (by decide +kernel)) rfl, by decide +kernel, by decide +kernel, by decide +kernel⟩
theorem mv_X9_left : MV yX9_left cX9_left 3 (some .int) 2 := ⟨tb_in (List.mem_of_getElem? (i := 1130) (by decide +kernel)) rfl, tb_in (List.mem_of_getElem? (i := 1128) (by decide +kernel)) rfl, tb_in (List.mem_of_getElem? (i := 1129) (by decide +kernel)) rfl, tb_in (List.mem_of_getElem? (i := 47) (by decide +kernel)) rfl, by decide +kernel, by decide +kernel, by decide +kernel⟩
theorem mv_X9_as : MV yX9_as cX9_as 3 (some .int) 2 := ⟨tb_in (List.mem_of_getElem? (i := 1134) (by decide +kernel)) rfl, tb_in (List.mem_of_getElem? (i := 1132) (by decide +kernel)) rfl, tb_in (List.mem_of_getElem? (i := 1133) (by decide +kernel)) rfl, tb_in (List.mem_of_getElem? (i := 47) (by decide +kernel)) rfl, by decide +kernel, by decide +kernel, by decide +kernel⟩
theorem mv_X9_down : MV yX9_down cX9_down 4 (some .int) 1 := ⟨tb_in (List.mem_of_getElem? (i := 1138) (by decide +kernel)) rfl, tb_in (List.mem_of_getElem? (i := 1136) (by decide +kernel)) rfl, tb_in (List.mem_of_getElem? (i := 1137) (by decide +kernel)) rfl, tb_in (List.mem_of_getElem? (i := 47) (by decide +kernel)) rfl, by decide +kernel, by decide +kernel, by decide +kernel⟩
theorem mv_X9_needs : MV yX9_needs cX9_needs 5 (some .int) 1 := ⟨tb_in (List.mem_of_getElem? (i := 1142) (by decide +kernel)) rfl, tb_in (List.mem_of_getElem? (i := 1140) (by decide +kernel)) rfl, tb_in (List.mem_of_getElem? (i := 1141) (by decide +kernel)) rfl, tb_in (List.mem_of_getElem? (i := 47) (by decide +kernel)) rfl, by decide +kernel, by decide +kernel, by decide +kernel⟩
theorem mv_X9_count : MV yX9_count cX9_count 4 (some .int) 1 := ⟨tb_in (List.mem_of_getElem? (i := 1146) (by decide +kernel)) rfl, tb_in (List.mem_of_getElem? (i := 1144) (by decide +kernel)) rfl, tb_in (List.mem_of_getElem? (i := 1145) (by decide +kernel)) rfl, tb_in (List.mem_of_getElem? (i := 47) (by decide +kernel)) rfl, by decide +kernel, by decide +kernel, by decide +kernel⟩
theorem ms_J11_isValidCodePoint_9a6ad : MS yJ11_isValidCodePoint_9a6ad cJ11_isValidCodePoint_9a6ad 2 (some .boolean) 1 := ⟨tb_in (List.mem_of_getElem? (i := 529) (by decide +kernel)) rfl, tb_in (List.mem_of_getElem? (i := 528) (by decide +kernel)) rfl, tb_in (List.mem_of_getElem? (i := 54) (by decide +kernel)) rfl, by decide +kernel, by decide +kernel, by decide +kernel⟩
theorem ms_J11_highSurrogate_5068e : MS yJ11_highSurrogate_5068e cJ11_highSurrogate_5068e 1 (some .char) 1 := ⟨tb_in (List.mem_of_getElem? (i := 532) (by decide +kernel)) rfl, tb_in (List.mem_of_getElem? (i := 531) (by decide +kernel)) rfl, tb_in (List.mem_of_getElem? (i := 54) (by decide +kernel)) rfl, by decide +kernel, by decide +kernel, by decide +kernel⟩
theorem ms_J11_lowSurrogate_5068e : MS yJ11_lowSurrogate_5068e cJ11_lowSurrogate_5068e 1 (some .char) 1 := ⟨tb_in (List.mem_of_getElem? (i := 536) (by decide +kernel)) rfl, tb_in (List.mem_of_getElem? (i := 535) (by decide +kernel)) rfl, tb_in (List.mem_of_getElem? (i := 54) (by decide +kernel)) rfl, by decide +kernel, by decide +kernel, by decide +kernel⟩
theorem ms_J9_abs_0f7a4 : MS yJ9_abs_0f7a4 cJ9_abs_0f7a4 1 (some .int) 1 := ⟨tb_in (List.mem_of_getElem? (i := 410) (by decide +kernel)) rfl, tb_in (List.mem_of_getElem? (i := 409) (by decide +kernel)) rfl, tb_in (List.mem_of_getElem? (i := 50) (by decide +kernel)) rfl, by decide +kernel, by decide +kernel, by decide +kernel⟩
theorem ms_J9_max_7cf53 : MS yJ9_max_7cf53 cJ9_max_7cf53 2 (some .int) 2 := ⟨tb_in (List.mem_of_getElem? (i := 482) (by decide +kernel)) rfl, tb_in (List.mem_of_getElem? (i := 481) (by decide +kernel)) rfl, tb_in (List.mem_of_getElem? (i := 50) (by decide +kernel)) rfl, by decide +kernel, by decide +kernel, by decide +kernel⟩
theorem ms_J9_min_7cf53 : MS yJ9_min_7cf53 cJ9_min_7cf53 2 (some .int) 2 := ⟨tb_in (List.mem_of_getElem? (i := 485) (by decide +kernel)) rfl, tb_in (List.mem_of_getElem? (i := 484) (by decide +kernel)) rfl, tb_in (List.mem_of_getElem? (i := 50) (by decide +kernel)) rfl, by decide +kernel, by decide +kernel, by decide +kernel⟩
theorem mv_J0_length_8abf5 : MV yJ0_length_8abf5 cJ0_length_8abf5 1 (some .int) 0 := ⟨tb_in (List.mem_of_getElem? (i := 169) (by decide +kernel)) rfl, tb_in (List.mem_of_getElem? (i := 167) (by decide +kernel)) rfl, tb_in (List.mem_of_getElem? (i := 168) (by decide +kernel)) rfl, tb_in (List.mem_of_getElem? (i := 46) (by decide +kernel)) rfl, by decide +kernel, by decide +kernel, by decide +kernel⟩
theorem mv_J0_indexOf_0f7a4 : MV yJ0_indexOf_0f7a4 cJ0_indexOf_0f7a4 2 (some .int) 1 := ⟨tb_in (List.mem_of_getElem? (i := 464) (by decide +kernel)) rfl, tb_in (List.mem_of_getElem? (i := 462) (by decide +kernel)) rfl, tb_in (List.mem_of_getElem? (i := 463) (by decide +kernel)) rfl, tb_in (List.mem_of_getElem? (i := 46) (by decide +kernel)) rfl, by decide +kernel, by decide +kernel, by decide +kernel⟩
theorem mv_J0_indexOf_7cf53 : MV yJ0_indexOf_7cf53 cJ0_indexOf_7cf53 3 (some .int) 2 := ⟨tb_in (List.mem_of_getElem? (i := 468) (by decide +kernel)) rfl, tb_in (List.mem_of_getElem? (i := 466) (by decide +kernel)) rfl, tb_in (List.mem_of_getElem? (i := 467) (by decide +kernel)) rfl, tb_in (List.mem_of_getElem? (i := 46) (by decide +kernel)) rfl, by decide +kernel, by decide +kernel, by decide +kernel⟩
theorem mv_J0_coder_7d493 : MV yJ0_coder_7d493 cJ0_coder_7d493 1 (some .byte) 0 := ⟨tb_in (List.mem_of_getElem? (i := 173) (by decide +kernel)) rfl, tb_in (List.mem_of_getElem? (i := 171) (by decide +kernel)) rfl, tb_in (List.mem_of_getElem? (i := 172) (by decide +kernel)) rfl, tb_in (List.mem_of_getElem? (i := 46) (by decide +kernel)) rfl, by decide +kernel, by decide +kernel, by decide +kernel⟩
theorem mv_J0_isLatin1_aae02 : MV yJ0_isLatin1_aae02 cJ0_isLatin1_aae02 1 (some .boolean) 0 := ⟨tb_in (List.mem_of_getElem? (i := 472) (by decide +kernel)) rfl, tb_in (List.mem_of_getElem? (i := 470) (by decide +kernel)) rfl, tb_in (List.mem_of_getElem? (i := 471) (by decide +kernel)) rfl, tb_in (List.mem_of_getElem? (i := 46) (by decide +kernel)) rfl, by decide +kernel, by decide +kernel, by decide +kernel⟩
theorem ms_J0_checkBoundsBeginEnd_23922 : MS yJ0_checkBoundsBeginEnd_23922 cJ0_checkBoundsBeginEnd_23922 3 none 3 := ⟨tb_in (List.mem_of_getElem? (i := 506) (by decide +kernel)) rfl, tb_in (List.mem_of_getElem? (i := 505) (by decide +kernel)) rfl, tb_in (List.mem_of_getElem? (i := 46) (by decide +kernel)) rfl, by decide +kernel, by decide +kernel, by decide +kernel⟩
theorem ms_J1_canEncode_9a6ad : MS yJ1_canEncode_9a6ad cJ1_canEncode_9a6ad 1 (some .boolean) 1 := ⟨tb_in (List.mem_of_getElem? (i := 479) (by decide +kernel)) rfl, tb_in (List.mem_of_getElem? (i := 478) (by decide +kernel)) rfl, tb_in (List.mem_of_getElem? (i := 51) (by decide +kernel)) rfl, by decide +kernel, by decide +kernel, by decide +kernel⟩
theorem ms_J1_indexOf_4cfef : MS yJ1_indexOf_4cfef cJ1_indexOf_4cfef 4 (some .int) 4 := ⟨tb_in (List.mem_of_getElem? (i := 476) (by decide +kernel)) rfl, tb_in (List.mem_of_getElem? (i := 475) (by decide +kernel)) rfl, tb_in (List.mem_of_getElem? (i := 51) (by decide +kernel)) rfl, by decide +kernel, by decide +kernel, by decide +kernel⟩
theorem ms_J1_indexOfChar_4cfef : MS yJ1_indexOfChar_4cfef cJ1_indexOfChar_4cfef 6 (some .int) 4 := ⟨tb_in (List.mem_of_getElem? (i := 488) (by decide +kernel)) rfl, tb_in (List.mem_of_getElem? (i := 487) (by decide +kernel)) rfl, tb_in (List.mem_of_getElem? (i := 51) (by decide +kernel)) rfl, by decide +kernel, by decide +kernel, by decide +kernel⟩
theorem ms_J2_getChar_3b067 : MS yJ2_getChar_3b067 cJ2_getChar_3b067 2 (some .char) 2 := ⟨tb_in (List.mem_of_getElem? (i := 517) (by decide +kernel)) rfl, tb_in (List.mem_of_getElem? (i := 516) (by decide +kernel)) rfl, tb_in (List.mem_of_getElem? (i := 52) (by decide +kernel)) rfl, by decide +kernel, by decide +kernel, by decide +kernel⟩
theorem ms_J2_length_9d52b : MS yJ2_length_9d52b cJ2_length_9d52b 1 (some .int) 1 := ⟨tb_in (List.mem_of_getElem? (i := 503) (by decide +kernel)) rfl, tb_in (List.mem_of_getElem? (i := 502) (by decide +kernel)) rfl, tb_in (List.mem_of_getElem? (i := 52) (by decide +kernel)) rfl, by decide +kernel, by decide +kernel, by decide +kernel⟩
theorem ms_J2_indexOf_4cfef : MS yJ2_indexOf_4cfef cJ2_indexOf_4cfef 4 (some .int) 4 := ⟨tb_in (List.mem_of_getElem? (i := 491) (by decide +kernel)) rfl, tb_in (List.mem_of_getElem? (i := 490) (by decide +kernel)) rfl, tb_in (List.mem_of_getElem? (i := 52) (by decide +kernel)) rfl, by decide +kernel, by decide +kernel, by decide +kernel⟩
theorem ms_J2_indexOfChar_4cfef : MS yJ2_indexOfChar_4cfef cJ2_indexOfChar_4cfef 4 (some .int) 4 := ⟨tb_in (List.mem_of_getElem? (i := 497) (by decide +kernel)) rfl, tb_in (List.mem_of_getElem? (i := 496) (by decide +kernel)) rfl, tb_in (List.mem_of_getElem? (i := 52) (by decide +kernel)) rfl, by decide +kernel, by decide +kernel, by decide +kernel⟩
theorem ms_J2_indexOfCharUnsafe_4cfef : MS yJ2_indexOfCharUnsafe_4cfef cJ2_indexOfCharUnsafe_4cfef 5 (some .int) 4 := ⟨tb_in (List.mem_of_getElem? (i := 514) (by decide +kernel)) rfl, tb_in (List.mem_of_getElem? (i := 513) (by decide +kernel)) rfl, tb_in (List.mem_of_getElem? (i := 52) (by decide +kernel)) rfl, by decide +kernel, by decide +kernel, by decide +kernel⟩
theorem ms_J2_indexOfSupplementary_4cfef : MS yJ2_indexOfSupplementary_4cfef cJ2_indexOfSupplementary_4cfef 7 (some .int) 4 := ⟨tb_in (List.mem_of_getElem? (i := 526) (by decide +kernel)) rfl, tb_in (List.mem_of_getElem? (i := 525) (by decide +kernel)) rfl, tb_in (List.mem_of_getElem? (i := 52) (by decide +kernel)) rfl, by decide +kernel, by decide +kernel, by decide +kernel⟩
theorem ms_J2_checkBoundsBeginEnd_d044e : MS yJ2_checkBoundsBeginEnd_d044e cJ2_checkBoundsBeginEnd_d044e 3 none 3 := ⟨tb_in (List.mem_of_getElem? (i := 500) (by decide +kernel)) rfl, tb_in (List.mem_of_getElem? (i := 499) (by decide +kernel)) rfl, tb_in (List.mem_of_getElem? (i := 52) (by decide +kernel)) rfl, by decide +kernel, by decide +kernel, by decide +kernel⟩
theorem ms_J7_fill_53178 : MS yJ7_fill_53178 cJ7_fill_53178 4 none 2 := ⟨tb_in (List.mem_of_getElem? (i := 388) (by decide +kernel)) rfl, tb_in (List.mem_of_getElem? (i := 387) (by decide +kernel)) rfl, tb_in (List.mem_of_getElem? (i := 49) (by decide +kernel)) rfl, by decide +kernel, by decide +kernel, by decide +kernel⟩
theorem ms_J7_copyOf_59c91 : MS yJ7_copyOf_59c91 cJ7_copyOf_59c91 3 (some (.array .int)) 2 := ⟨tb_in (List.mem_of_getElem? (i := 678) (by decide +kernel)) rfl, tb_in (List.mem_of_getElem? (i := 677) (by decide +kernel)) rfl, tb_in (List.mem_of_getElem? (i := 49) (by decide +kernel)) rfl, by decide +kernel, by decide +kernel, by decide +kernel⟩
theorem ms_J3_checkFromToIndex_8c36e : MS yJ3_checkFromToIndex_8c36e cJ3_checkFromToIndex_8c36e 4 (some .int) 4 := ⟨tb_in (List.mem_of_getElem? (i := 511) (by decide +kernel)) rfl, tb_in (List.mem_of_getElem? (i := 510) (by decide +kernel)) rfl, tb_in (List.mem_of_getElem? (i := 53) (by decide +kernel)) rfl, by decide +kernel, by decide +kernel, by decide +kernel⟩
theorem ml_RX0_22 : Cond.methodLink RX0 22 yX0_hasFrost ∈ tb := tb_in (List.mem_of_getElem? (i := 605) (by decide +kernel)) rfl
theorem kc_RX2_9 : Cond.constant RX2 9 (1000000) ∈ tb := tb_in (List.mem_of_getElem? (i := 241) (by decide +kernel)) rfl
theorem ml_RX2_44 : Cond.methodLink RX2 44 yX2_isBegun ∈ tb := tb_in (List.mem_of_getElem? (i := 394) (by decide +kernel)) rfl
theorem ml_RX2_58 : Cond.methodLink RX2 58 yX2_portion ∈ tb := tb_in (List.mem_of_getElem? (i := 773) (by decide +kernel)) rfl
theorem ml_RX3_34 : Cond.methodLink RX3 34 yX3_isSupportFor ∈ tb := tb_in (List.mem_of_getElem? (i := 335) (by decide +kernel)) rfl
theorem ml_RX3_38 : Cond.methodLink RX3 38 yX3_isReadBefore ∈ tb := tb_in (List.mem_of_getElem? (i := 338) (by decide +kernel)) rfl
theorem ml_RX3_42 : Cond.methodLink RX3 42 yX2_standOn ∈ tb := tb_in (List.mem_of_getElem? (i := 350) (by decide +kernel)) rfl
theorem ml_RX3_52 : Cond.methodLink RX3 52 yX3_find ∈ tb := tb_in (List.mem_of_getElem? (i := 367) (by decide +kernel)) rfl
theorem ml_RX3_62 : Cond.methodLink RX3 62 yX2_isWhole ∈ tb := tb_in (List.mem_of_getElem? (i := 427) (by decide +kernel)) rfl
theorem ml_RX3_66 : Cond.methodLink RX3 66 yX2_isOnCentring ∈ tb := tb_in (List.mem_of_getElem? (i := 428) (by decide +kernel)) rfl
theorem ml_RX3_69 : Cond.methodLink RX3 69 yX2_isBegun ∈ tb := tb_in (List.mem_of_getElem? (i := 610) (by decide +kernel)) rfl
theorem ml_RX3_75 : Cond.methodLink RX3 75 yX2_standsOn ∈ tb := tb_in (List.mem_of_getElem? (i := 744) (by decide +kernel)) rfl
theorem ml_RX4_11 : Cond.methodLink RX4 11 yJ0_length_8abf5 ∈ tb := tb_in (List.mem_of_getElem? (i := 166) (by decide +kernel)) rfl
theorem ml_RX4_44 : Cond.methodLink RX4 44 yX4_valueOf ∈ tb := tb_in (List.mem_of_getElem? (i := 565) (by decide +kernel)) rfl
theorem ml_RX4_53 : Cond.methodLink RX4 53 yX4_isSign ∈ tb := tb_in (List.mem_of_getElem? (i := 457) (by decide +kernel)) rfl
theorem ml_RX4_57 : Cond.methodLink RX4 57 yX4_meaningOf ∈ tb := tb_in (List.mem_of_getElem? (i := 538) (by decide +kernel)) rfl
theorem ml_RX4_61 : Cond.methodLink RX4 61 yX4_truth ∈ tb := tb_in (List.mem_of_getElem? (i := 542) (by decide +kernel)) rfl
theorem ml_RX4_65 : Cond.methodLink RX4 65 yX4_join ∈ tb := tb_in (List.mem_of_getElem? (i := 545) (by decide +kernel)) rfl
theorem ml_RX4_71 : Cond.methodLink RX4 71 yJ0_indexOf_0f7a4 ∈ tb := tb_in (List.mem_of_getElem? (i := 461) (by decide +kernel)) rfl
theorem ml_RX5_18 : Cond.methodLink RX5 18 yJ7_fill_53178 ∈ tb := tb_in (List.mem_of_getElem? (i := 386) (by decide +kernel)) rfl
theorem ml_RX5_30 : Cond.methodLink RX5 30 yX3_find ∈ tb := tb_in (List.mem_of_getElem? (i := 389) (by decide +kernel)) rfl
theorem ml_RX5_42 : Cond.methodLink RX5 42 yX2_isOnCentring ∈ tb := tb_in (List.mem_of_getElem? (i := 390) (by decide +kernel)) rfl
theorem ml_RX5_46 : Cond.methodLink RX5 46 yX5_passDown ∈ tb := tb_in (List.mem_of_getElem? (i := 395) (by decide +kernel)) rfl
theorem ml_RX5_50 : Cond.methodLink RX5 50 yX5_pushAside ∈ tb := tb_in (List.mem_of_getElem? (i := 403) (by decide +kernel)) rfl
theorem ml_RX5_59 : Cond.methodLink RX5 59 yX2_portion ∈ tb := tb_in (List.mem_of_getElem? (i := 399) (by decide +kernel)) rfl
theorem ml_RX5_66 : Cond.methodLink RX5 66 yX2_isBegun ∈ tb := tb_in (List.mem_of_getElem? (i := 407) (by decide +kernel)) rfl
theorem ml_RX5_72 : Cond.methodLink RX5 72 yX5_weigh ∈ tb := tb_in (List.mem_of_getElem? (i := 382) (by decide +kernel)) rfl
theorem ml_RX5_76 : Cond.methodLink RX5 76 yJ9_abs_0f7a4 ∈ tb := tb_in (List.mem_of_getElem? (i := 408) (by decide +kernel)) rfl
theorem ml_RX6_30 : Cond.methodLink RX6 30 yJ7_copyOf_59c91 ∈ tb := tb_in (List.mem_of_getElem? (i := 676) (by decide +kernel)) rfl
theorem ml_RX6_36 : Cond.methodLink RX6 36 yX7_init ∈ tb := tb_in (List.mem_of_getElem? (i := 690) (by decide +kernel)) rfl
theorem ml_RX6_44 : Cond.methodLink RX6 44 yJ0_indexOf_0f7a4 ∈ tb := tb_in (List.mem_of_getElem? (i := 645) (by decide +kernel)) rfl
theorem ml_RX6_50 : Cond.methodLink RX6 50 yX6_openSign ∈ tb := tb_in (List.mem_of_getElem? (i := 646) (by decide +kernel)) rfl
theorem ml_RX6_54 : Cond.methodLink RX6 54 yX6_readLeaf ∈ tb := tb_in (List.mem_of_getElem? (i := 654) (by decide +kernel)) rfl
theorem ml_RX6_57 : Cond.methodLink RX6 57 yX6_closeSigns ∈ tb := tb_in (List.mem_of_getElem? (i := 666) (by decide +kernel)) rfl
theorem ml_RX6_61 : Cond.methodLink RX6 61 yX6_keep ∈ tb := tb_in (List.mem_of_getElem? (i := 650) (by decide +kernel)) rfl
theorem ml_RX6_64 : Cond.methodLink RX6 64 yX6_readNumber ∈ tb := tb_in (List.mem_of_getElem? (i := 658) (by decide +kernel)) rfl
theorem ml_RX6_67 : Cond.methodLink RX6 67 yX6_isDigit ∈ tb := tb_in (List.mem_of_getElem? (i := 662) (by decide +kernel)) rfl
theorem ml_RX8_63 : Cond.methodLink RX8 63 yX8_isMeasure ∈ tb := tb_in (List.mem_of_getElem? (i := 232) (by decide +kernel)) rfl
theorem ml_RX8_73 : Cond.methodLink RX8 73 yX2_init ∈ tb := tb_in (List.mem_of_getElem? (i := 237) (by decide +kernel)) rfl
theorem ml_RX8_76 : Cond.methodLink RX8 76 yX3_add ∈ tb := tb_in (List.mem_of_getElem? (i := 311) (by decide +kernel)) rfl
theorem ml_RX8_80 : Cond.methodLink RX8 80 yX3_find ∈ tb := tb_in (List.mem_of_getElem? (i := 319) (by decide +kernel)) rfl
theorem ml_RX8_84 : Cond.methodLink RX8 84 yX2_standOn ∈ tb := tb_in (List.mem_of_getElem? (i := 323) (by decide +kernel)) rfl
theorem ml_RX8_91 : Cond.methodLink RX8 91 yX3_readSupports ∈ tb := tb_in (List.mem_of_getElem? (i := 331) (by decide +kernel)) rfl
theorem ml_RX8_98 : Cond.methodLink RX8 98 yX2_isBegun ∈ tb := tb_in (List.mem_of_getElem? (i := 342) (by decide +kernel)) rfl
theorem ml_RX8_105 : Cond.methodLink RX8 105 yX3_setSupports ∈ tb := tb_in (List.mem_of_getElem? (i := 346) (by decide +kernel)) rfl
theorem ml_RX8_112 : Cond.methodLink RX8 112 yX3_keepEdition ∈ tb := tb_in (List.mem_of_getElem? (i := 351) (by decide +kernel)) rfl
theorem ml_RX8_116 : Cond.methodLink RX8 116 yX3_coursesIn ∈ tb := tb_in (List.mem_of_getElem? (i := 363) (by decide +kernel)) rfl
theorem ml_RX8_125 : Cond.methodLink RX8 125 yX8_stands ∈ tb := tb_in (List.mem_of_getElem? (i := 374) (by decide +kernel)) rfl
theorem ml_RX8_128 : Cond.methodLink RX8 128 yX8_hindranceOfCourse ∈ tb := tb_in (List.mem_of_getElem? (i := 415) (by decide +kernel)) rfl
theorem ml_RX8_132 : Cond.methodLink RX8 132 yX8_payFor ∈ tb := tb_in (List.mem_of_getElem? (i := 570) (by decide +kernel)) rfl
theorem ml_RX8_139 : Cond.methodLink RX8 139 yX2_takeCourse ∈ tb := tb_in (List.mem_of_getElem? (i := 575) (by decide +kernel)) rfl
theorem ml_RX8_149 : Cond.methodLink RX8 149 yX8_fallByCourse ∈ tb := tb_in (List.mem_of_getElem? (i := 566) (by decide +kernel)) rfl
theorem ml_RX8_152 : Cond.methodLink RX8 152 yX2_isOnCentring ∈ tb := tb_in (List.mem_of_getElem? (i := 591) (by decide +kernel)) rfl
theorem ml_RX8_155 : Cond.methodLink RX8 155 yX2_isWhole ∈ tb := tb_in (List.mem_of_getElem? (i := 419) (by decide +kernel)) rfl
theorem kc_RX8_165 : Cond.constant RX8 165 (100000) ∈ tb := tb_in (List.mem_of_getElem? (i := 596) (by decide +kernel)) rfl
theorem ml_RX8_169 : Cond.methodLink RX8 169 yX0_pass ∈ tb := tb_in (List.mem_of_getElem? (i := 601) (by decide +kernel)) rfl
theorem ml_RX8_173 : Cond.methodLink RX8 173 yX3_ageAll ∈ tb := tb_in (List.mem_of_getElem? (i := 606) (by decide +kernel)) rfl
theorem ml_RX8_179 : Cond.methodLink RX8 179 yX0_isAhead ∈ tb := tb_in (List.mem_of_getElem? (i := 619) (by decide +kernel)) rfl
theorem ml_RX8_183 : Cond.methodLink RX8 183 yX0_makeBitter ∈ tb := tb_in (List.mem_of_getElem? (i := 623) (by decide +kernel)) rfl
theorem ml_RX8_189 : Cond.methodLink RX8 189 yX6_take ∈ tb := tb_in (List.mem_of_getElem? (i := 631) (by decide +kernel)) rfl
theorem kc_RX8_193 : Cond.constant RX8 193 (1000000) ∈ tb := tb_in (List.mem_of_getElem? (i := 639) (by decide +kernel)) rfl
theorem ml_RX8_197 : Cond.methodLink RX8 197 yX6_read ∈ tb := tb_in (List.mem_of_getElem? (i := 640) (by decide +kernel)) rfl
theorem ml_RX8_201 : Cond.methodLink RX8 201 yX6_asText ∈ tb := tb_in (List.mem_of_getElem? (i := 670) (by decide +kernel)) rfl
theorem ml_RX8_205 : Cond.methodLink RX8 205 yX1_init ∈ tb := tb_in (List.mem_of_getElem? (i := 700) (by decide +kernel)) rfl
theorem ml_RX8_211 : Cond.methodLink RX8 211 yX8_findGift ∈ tb := tb_in (List.mem_of_getElem? (i := 557) (by decide +kernel)) rfl
theorem kc_RX8_215 : Cond.constant RX8 215 (-2000000000) ∈ tb := tb_in (List.mem_of_getElem? (i := 725) (by decide +kernel)) rfl
theorem ml_RX8_216 : Cond.methodLink RX8 216 yX8_nameMonth ∈ tb := tb_in (List.mem_of_getElem? (i := 437) (by decide +kernel)) rfl
theorem ml_RX8_219 : Cond.methodLink RX8 219 yX4_namePart ∈ tb := tb_in (List.mem_of_getElem? (i := 553) (by decide +kernel)) rfl
theorem ml_RX8_222 : Cond.methodLink RX8 222 yX4_endOf ∈ tb := tb_in (List.mem_of_getElem? (i := 561) (by decide +kernel)) rfl
theorem ml_RX8_226 : Cond.methodLink RX8 226 yX8_loadOf ∈ tb := tb_in (List.mem_of_getElem? (i := 730) (by decide +kernel)) rfl
theorem ml_RX8_229 : Cond.methodLink RX8 229 yX8_pushToRightOn ∈ tb := tb_in (List.mem_of_getElem? (i := 735) (by decide +kernel)) rfl
theorem ml_RX8_232 : Cond.methodLink RX8 232 yJ9_abs_0f7a4 ∈ tb := tb_in (List.mem_of_getElem? (i := 739) (by decide +kernel)) rfl
theorem ml_RX8_237 : Cond.methodLink RX8 237 yX3_countBorneBy ∈ tb := tb_in (List.mem_of_getElem? (i := 740) (by decide +kernel)) rfl
theorem ml_RX8_258 : Cond.methodLink RX8 258 yX8_statuteInForce ∈ tb := tb_in (List.mem_of_getElem? (i := 433) (by decide +kernel)) rfl
theorem ml_RX8_261 : Cond.methodLink RX8 261 yX4_nameNoPart ∈ tb := tb_in (List.mem_of_getElem? (i := 449) (by decide +kernel)) rfl
theorem ml_RX8_264 : Cond.methodLink RX8 264 yX4_valueOf ∈ tb := tb_in (List.mem_of_getElem? (i := 453) (by decide +kernel)) rfl
theorem ml_RX8_268 : Cond.methodLink RX8 268 yJ9_max_7cf53 ∈ tb := tb_in (List.mem_of_getElem? (i := 548) (by decide +kernel)) rfl
theorem ml_RX8_271 : Cond.methodLink RX8 271 yX2_laidTill ∈ tb := tb_in (List.mem_of_getElem? (i := 761) (by decide +kernel)) rfl
theorem ml_RX8_274 : Cond.methodLink RX8 274 yX2_heaviestWay ∈ tb := tb_in (List.mem_of_getElem? (i := 769) (by decide +kernel)) rfl
theorem ml_RX8_277 : Cond.methodLink RX8 277 yJ7_fill_53178 ∈ tb := tb_in (List.mem_of_getElem? (i := 778) (by decide +kernel)) rfl
theorem ml_RX8_283 : Cond.methodLink RX8 283 yX2_markSupports ∈ tb := tb_in (List.mem_of_getElem? (i := 779) (by decide +kernel)) rfl
theorem ml_RX8_287 : Cond.methodLink RX8 287 yX3_countLaid ∈ tb := tb_in (List.mem_of_getElem? (i := 787) (by decide +kernel)) rfl
theorem ml_RX8_290 : Cond.methodLink RX8 290 yX8_coinsRemaining ∈ tb := tb_in (List.mem_of_getElem? (i := 791) (by decide +kernel)) rfl
theorem ml_RX8_296 : Cond.methodLink RX8 296 yX5_leastFalling ∈ tb := tb_in (List.mem_of_getElem? (i := 378) (by decide +kernel)) rfl
theorem ml_RX8_300 : Cond.methodLink RX8 300 yX5_weigh ∈ tb := tb_in (List.mem_of_getElem? (i := 734) (by decide +kernel)) rfl
theorem ml_RX8_310 : Cond.methodLink RX8 310 yX3_isReadyBelow ∈ tb := tb_in (List.mem_of_getElem? (i := 423) (by decide +kernel)) rfl
theorem ml_RX8_314 : Cond.methodLink RX8 314 yX8_work ∈ tb := tb_in (List.mem_of_getElem? (i := 429) (by decide +kernel)) rfl
theorem ml_RX8_317 : Cond.methodLink RX8 317 yX8_coinsFor ∈ tb := tb_in (List.mem_of_getElem? (i := 549) (by decide +kernel)) rfl
theorem ml_RX8_320 : Cond.methodLink RX8 320 yJ9_min_7cf53 ∈ tb := tb_in (List.mem_of_getElem? (i := 574) (by decide +kernel)) rfl
theorem ml_RX8_323 : Cond.methodLink RX8 323 yX0_hasFrost ∈ tb := tb_in (List.mem_of_getElem? (i := 441) (by decide +kernel)) rfl
theorem ml_RX8_326 : Cond.methodLink RX8 326 yX4_nameMonth ∈ tb := tb_in (List.mem_of_getElem? (i := 445) (by decide +kernel)) rfl
theorem kc_RX9_62 : Cond.constant RX9 62 (48040) ∈ tb := tb_in (List.mem_of_getElem? (i := 801) (by decide +kernel)) rfl
theorem ml_RX9_125 : Cond.methodLink RX9 125 yX9_in ∈ tb := tb_in (List.mem_of_getElem? (i := 951) (by decide +kernel)) rfl
theorem kc_RX9_129 : Cond.constant RX9 129 (1000000) ∈ tb := tb_in (List.mem_of_getElem? (i := 958) (by decide +kernel)) rfl
theorem ml_RX9_130 : Cond.methodLink RX9 130 yX9_isPlan ∈ tb := tb_in (List.mem_of_getElem? (i := 948) (by decide +kernel)) rfl
theorem ml_RX9_133 : Cond.methodLink RX9 133 yX9_newPart ∈ tb := tb_in (List.mem_of_getElem? (i := 954) (by decide +kernel)) rfl
theorem ml_RX9_137 : Cond.methodLink RX9 137 yX9_isPart ∈ tb := tb_in (List.mem_of_getElem? (i := 963) (by decide +kernel)) rfl
theorem ml_RX9_141 : Cond.methodLink RX9 141 yX9_support0 ∈ tb := tb_in (List.mem_of_getElem? (i := 967) (by decide +kernel)) rfl
theorem ml_RX9_148 : Cond.methodLink RX9 148 yX9_edition ∈ tb := tb_in (List.mem_of_getElem? (i := 975) (by decide +kernel)) rfl
theorem ml_RX9_151 : Cond.methodLink RX9 151 yX9_goes ∈ tb := tb_in (List.mem_of_getElem? (i := 999) (by decide +kernel)) rfl
theorem kc_RX9_155 : Cond.constantLong RX9 155 (100) ∈ tb := tb_in (List.mem_of_getElem? (i := 1003) (by decide +kernel)) rfl
theorem ml_RX9_157 : Cond.methodLink RX9 157 yX9_weigh ∈ tb := tb_in (List.mem_of_getElem? (i := 995) (by decide +kernel)) rfl
theorem ml_RX9_160 : Cond.methodLink RX9 160 yX9_net ∈ tb := tb_in (List.mem_of_getElem? (i := 1004) (by decide +kernel)) rfl
theorem ml_RX9_164 : Cond.methodLink RX9 164 yX9_falling ∈ tb := tb_in (List.mem_of_getElem? (i := 991) (by decide +kernel)) rfl
theorem kc_RX9_168 : Cond.constant RX9 168 (100000) ∈ tb := tb_in (List.mem_of_getElem? (i := 1008) (by decide +kernel)) rfl
theorem ml_RX9_178 : Cond.methodLink RX9 178 yX9_isSign ∈ tb := tb_in (List.mem_of_getElem? (i := 1021) (by decide +kernel)) rfl
theorem ml_RX9_181 : Cond.methodLink RX9 181 yX9_lay0 ∈ tb := tb_in (List.mem_of_getElem? (i := 1024) (by decide +kernel)) rfl
theorem ml_RX9_185 : Cond.methodLink RX9 185 yX9_isDigit ∈ tb := tb_in (List.mem_of_getElem? (i := 1028) (by decide +kernel)) rfl
theorem ml_RX9_188 : Cond.methodLink RX9 188 yX9_isName ∈ tb := tb_in (List.mem_of_getElem? (i := 1031) (by decide +kernel)) rfl
theorem ml_RX9_197 : Cond.methodLink RX9 197 yX9_isFrost ∈ tb := tb_in (List.mem_of_getElem? (i := 1054) (by decide +kernel)) rfl
theorem ml_RX9_203 : Cond.methodLink RX9 203 yX9_named ∈ tb := tb_in (List.mem_of_getElem? (i := 1050) (by decide +kernel)) rfl
theorem ml_RX9_206 : Cond.methodLink RX9 206 yX9_both ∈ tb := tb_in (List.mem_of_getElem? (i := 1058) (by decide +kernel)) rfl
theorem ml_RX9_213 : Cond.methodLink RX9 213 yX9_read ∈ tb := tb_in (List.mem_of_getElem? (i := 1017) (by decide +kernel)) rfl
theorem ml_RX9_216 : Cond.methodLink RX9 216 yX9_keep ∈ tb := tb_in (List.mem_of_getElem? (i := 1034) (by decide +kernel)) rfl
theorem ml_RX9_222 : Cond.methodLink RX9 222 yX9_says ∈ tb := tb_in (List.mem_of_getElem? (i := 1046) (by decide +kernel)) rfl
theorem ml_RX9_225 : Cond.methodLink RX9 225 yX9_isGift ∈ tb := tb_in (List.mem_of_getElem? (i := 1065) (by decide +kernel)) rfl
theorem ml_RX9_228 : Cond.methodLink RX9 228 yX9_endFor ∈ tb := tb_in (List.mem_of_getElem? (i := 1069) (by decide +kernel)) rfl
theorem kc_RX9_231 : Cond.constant RX9 231 (-2000000000) ∈ tb := tb_in (List.mem_of_getElem? (i := 1073) (by decide +kernel)) rfl
theorem ml_RX9_232 : Cond.methodLink RX9 232 yX9_work ∈ tb := tb_in (List.mem_of_getElem? (i := 1082) (by decide +kernel)) rfl
theorem ml_RX9_235 : Cond.methodLink RX9 235 yX9_fallingBy ∈ tb := tb_in (List.mem_of_getElem? (i := 1083) (by decide +kernel)) rfl
theorem ml_RX9_238 : Cond.methodLink RX9 238 yX9_hinders ∈ tb := tb_in (List.mem_of_getElem? (i := 1078) (by decide +kernel)) rfl
theorem ml_RX9_244 : Cond.methodLink RX9 244 yX9_stands ∈ tb := tb_in (List.mem_of_getElem? (i := 1119) (by decide +kernel)) rfl
theorem kc_RJ11_110 : Cond.constant RJ11 110 (55232) ∈ tb := tb_in (List.mem_of_getElem? (i := 533) (by decide +kernel)) rfl
theorem kc_RJ11_76 : Cond.constant RJ11 76 (56320) ∈ tb := tb_in (List.mem_of_getElem? (i := 537) (by decide +kernel)) rfl
theorem ml_RJ0_335 : Cond.methodLink RJ0 335 yJ0_coder_7d493 ∈ tb := tb_in (List.mem_of_getElem? (i := 170) (by decide +kernel)) rfl
theorem ml_RJ0_633 : Cond.methodLink RJ0 633 yJ0_indexOf_7cf53 ∈ tb := tb_in (List.mem_of_getElem? (i := 465) (by decide +kernel)) rfl
theorem ml_RJ0_492 : Cond.methodLink RJ0 492 yJ0_isLatin1_aae02 ∈ tb := tb_in (List.mem_of_getElem? (i := 469) (by decide +kernel)) rfl
theorem ml_RJ0_505 : Cond.methodLink RJ0 505 yJ0_length_8abf5 ∈ tb := tb_in (List.mem_of_getElem? (i := 473) (by decide +kernel)) rfl
theorem ml_RJ0_637 : Cond.methodLink RJ0 637 yJ1_indexOf_4cfef ∈ tb := tb_in (List.mem_of_getElem? (i := 474) (by decide +kernel)) rfl
theorem ml_RJ0_640 : Cond.methodLink RJ0 640 yJ2_indexOf_4cfef ∈ tb := tb_in (List.mem_of_getElem? (i := 489) (by decide +kernel)) rfl
theorem ml_RJ0_1062 : Cond.methodLink RJ0 1062 yJ3_checkFromToIndex_8c36e ∈ tb := tb_in (List.mem_of_getElem? (i := 509) (by decide +kernel)) rfl
theorem ml_RJ1_88 : Cond.methodLink RJ1 88 yJ1_canEncode_9a6ad ∈ tb := tb_in (List.mem_of_getElem? (i := 477) (by decide +kernel)) rfl
theorem ml_RJ1_92 : Cond.methodLink RJ1 92 yJ9_max_7cf53 ∈ tb := tb_in (List.mem_of_getElem? (i := 480) (by decide +kernel)) rfl
theorem ml_RJ1_38 : Cond.methodLink RJ1 38 yJ9_min_7cf53 ∈ tb := tb_in (List.mem_of_getElem? (i := 483) (by decide +kernel)) rfl
theorem ml_RJ1_95 : Cond.methodLink RJ1 95 yJ1_indexOfChar_4cfef ∈ tb := tb_in (List.mem_of_getElem? (i := 486) (by decide +kernel)) rfl
theorem ml_RJ2_48 : Cond.methodLink RJ2 48 yJ2_length_9d52b ∈ tb := tb_in (List.mem_of_getElem? (i := 501) (by decide +kernel)) rfl
theorem ml_RJ2_224 : Cond.methodLink RJ2 224 yJ9_max_7cf53 ∈ tb := tb_in (List.mem_of_getElem? (i := 492) (by decide +kernel)) rfl
theorem ml_RJ2_183 : Cond.methodLink RJ2 183 yJ9_min_7cf53 ∈ tb := tb_in (List.mem_of_getElem? (i := 493) (by decide +kernel)) rfl
theorem kc_RJ2_227 : Cond.constant RJ2 227 (65536) ∈ tb := tb_in (List.mem_of_getElem? (i := 494) (by decide +kernel)) rfl
theorem ml_RJ2_228 : Cond.methodLink RJ2 228 yJ2_indexOfChar_4cfef ∈ tb := tb_in (List.mem_of_getElem? (i := 495) (by decide +kernel)) rfl
theorem ml_RJ2_232 : Cond.methodLink RJ2 232 yJ2_indexOfSupplementary_4cfef ∈ tb := tb_in (List.mem_of_getElem? (i := 524) (by decide +kernel)) rfl
theorem ml_RJ2_96 : Cond.methodLink RJ2 96 yJ2_checkBoundsBeginEnd_d044e ∈ tb := tb_in (List.mem_of_getElem? (i := 498) (by decide +kernel)) rfl
theorem ml_RJ2_244 : Cond.methodLink RJ2 244 yJ2_indexOfCharUnsafe_4cfef ∈ tb := tb_in (List.mem_of_getElem? (i := 512) (by decide +kernel)) rfl
theorem ml_RJ2_71 : Cond.methodLink RJ2 71 yJ2_getChar_3b067 ∈ tb := tb_in (List.mem_of_getElem? (i := 515) (by decide +kernel)) rfl
theorem ml_RJ2_164 : Cond.methodLink RJ2 164 yJ11_isValidCodePoint_9a6ad ∈ tb := tb_in (List.mem_of_getElem? (i := 527) (by decide +kernel)) rfl
theorem ml_RJ2_157 : Cond.methodLink RJ2 157 yJ11_highSurrogate_5068e ∈ tb := tb_in (List.mem_of_getElem? (i := 530) (by decide +kernel)) rfl
theorem ml_RJ2_161 : Cond.methodLink RJ2 161 yJ11_lowSurrogate_5068e ∈ tb := tb_in (List.mem_of_getElem? (i := 534) (by decide +kernel)) rfl
theorem ml_RJ2_241 : Cond.methodLink RJ2 241 yJ0_checkBoundsBeginEnd_23922 ∈ tb := tb_in (List.mem_of_getElem? (i := 504) (by decide +kernel)) rfl
theorem ml_RJ7_304 : Cond.methodLink RJ7 304 yJ9_min_7cf53 ∈ tb := tb_in (List.mem_of_getElem? (i := 686) (by decide +kernel)) rfl
theorem ml_RL_9 : Cond.methodLink RL 9 yX8_init ∈ tb := tb_in (List.mem_of_getElem? (i := 60) (by decide +kernel)) rfl
theorem ml_RL_12 : Cond.methodLink RL 12 yX9_init ∈ tb := tb_in (List.mem_of_getElem? (i := 797) (by decide +kernel)) rfl
theorem ml_RL_13 : Cond.methodLink RL 13 yX8_part ∈ tb := tb_in (List.mem_of_getElem? (i := 228) (by decide +kernel)) rfl
theorem ml_RL_17 : Cond.methodLink RL 17 yX9_part ∈ tb := tb_in (List.mem_of_getElem? (i := 944) (by decide +kernel)) rfl
theorem ml_RL_18 : Cond.methodLink RL 18 yX8_arch ∈ tb := tb_in (List.mem_of_getElem? (i := 315) (by decide +kernel)) rfl
theorem ml_RL_22 : Cond.methodLink RL 22 yX9_arch ∈ tb := tb_in (List.mem_of_getElem? (i := 959) (by decide +kernel)) rfl
theorem ml_RL_23 : Cond.methodLink RL 23 yX8_bear ∈ tb := tb_in (List.mem_of_getElem? (i := 327) (by decide +kernel)) rfl
theorem ml_RL_26 : Cond.methodLink RL 26 yX9_bear ∈ tb := tb_in (List.mem_of_getElem? (i := 971) (by decide +kernel)) rfl
theorem ml_RL_27 : Cond.methodLink RL 27 yX8_edit ∈ tb := tb_in (List.mem_of_getElem? (i := 355) (by decide +kernel)) rfl
theorem ml_RL_31 : Cond.methodLink RL 31 yX9_edit ∈ tb := tb_in (List.mem_of_getElem? (i := 979) (by decide +kernel)) rfl
theorem ml_RL_32 : Cond.methodLink RL 32 yX8_wanted ∈ tb := tb_in (List.mem_of_getElem? (i := 359) (by decide +kernel)) rfl
theorem ml_RL_35 : Cond.methodLink RL 35 yX9_wanted ∈ tb := tb_in (List.mem_of_getElem? (i := 983) (by decide +kernel)) rfl
theorem ml_RL_36 : Cond.methodLink RL 36 yX8_tell ∈ tb := tb_in (List.mem_of_getElem? (i := 368) (by decide +kernel)) rfl
theorem ml_RL_39 : Cond.methodLink RL 39 yX9_tell ∈ tb := tb_in (List.mem_of_getElem? (i := 987) (by decide +kernel)) rfl
theorem ml_RL_40 : Cond.methodLink RL 40 yX8_lay ∈ tb := tb_in (List.mem_of_getElem? (i := 411) (by decide +kernel)) rfl
theorem ml_RL_44 : Cond.methodLink RL 44 yX9_lay ∈ tb := tb_in (List.mem_of_getElem? (i := 1091) (by decide +kernel)) rfl
theorem ml_RL_45 : Cond.methodLink RL 45 yX8_may ∈ tb := tb_in (List.mem_of_getElem? (i := 579) (by decide +kernel)) rfl
theorem ml_RL_48 : Cond.methodLink RL 48 yX9_may ∈ tb := tb_in (List.mem_of_getElem? (i := 1074) (by decide +kernel)) rfl
theorem ml_RL_49 : Cond.methodLink RL 49 yX8_falls ∈ tb := tb_in (List.mem_of_getElem? (i := 583) (by decide +kernel)) rfl
theorem ml_RL_52 : Cond.methodLink RL 52 yX9_falls ∈ tb := tb_in (List.mem_of_getElem? (i := 1087) (by decide +kernel)) rfl
theorem ml_RL_53 : Cond.methodLink RL 53 yX8_strike ∈ tb := tb_in (List.mem_of_getElem? (i := 587) (by decide +kernel)) rfl
theorem ml_RL_56 : Cond.methodLink RL 56 yX9_strike ∈ tb := tb_in (List.mem_of_getElem? (i := 1095) (by decide +kernel)) rfl
theorem ml_RL_57 : Cond.methodLink RL 57 yX8_prop ∈ tb := tb_in (List.mem_of_getElem? (i := 592) (by decide +kernel)) rfl
theorem ml_RL_60 : Cond.methodLink RL 60 yX9_prop ∈ tb := tb_in (List.mem_of_getElem? (i := 1099) (by decide +kernel)) rfl
theorem ml_RL_61 : Cond.methodLink RL 61 yX8_month ∈ tb := tb_in (List.mem_of_getElem? (i := 597) (by decide +kernel)) rfl
theorem ml_RL_64 : Cond.methodLink RL 64 yX9_month ∈ tb := tb_in (List.mem_of_getElem? (i := 1103) (by decide +kernel)) rfl
theorem ml_RL_65 : Cond.methodLink RL 65 yX8_frost ∈ tb := tb_in (List.mem_of_getElem? (i := 611) (by decide +kernel)) rfl
theorem ml_RL_68 : Cond.methodLink RL 68 yX9_frost ∈ tb := tb_in (List.mem_of_getElem? (i := 1107) (by decide +kernel)) rfl
theorem ml_RL_69 : Cond.methodLink RL 69 yX8_bitter ∈ tb := tb_in (List.mem_of_getElem? (i := 615) (by decide +kernel)) rfl
theorem ml_RL_72 : Cond.methodLink RL 72 yX9_bitter ∈ tb := tb_in (List.mem_of_getElem? (i := 1111) (by decide +kernel)) rfl
theorem ml_RL_73 : Cond.methodLink RL 73 yX8_feed ∈ tb := tb_in (List.mem_of_getElem? (i := 627) (by decide +kernel)) rfl
theorem ml_RL_76 : Cond.methodLink RL 76 yX9_feed ∈ tb := tb_in (List.mem_of_getElem? (i := 1009) (by decide +kernel)) rfl
theorem ml_RL_77 : Cond.methodLink RL 77 yX8_gift ∈ tb := tb_in (List.mem_of_getElem? (i := 635) (by decide +kernel)) rfl
theorem ml_RL_80 : Cond.methodLink RL 80 yX9_gift ∈ tb := tb_in (List.mem_of_getElem? (i := 1013) (by decide +kernel)) rfl
theorem ml_RL_81 : Cond.methodLink RL 81 yX8_statute ∈ tb := tb_in (List.mem_of_getElem? (i := 717) (by decide +kernel)) rfl
theorem ml_RL_84 : Cond.methodLink RL 84 yX9_statute ∈ tb := tb_in (List.mem_of_getElem? (i := 1038) (by decide +kernel)) rfl
theorem ml_RL_85 : Cond.methodLink RL 85 yX8_end ∈ tb := tb_in (List.mem_of_getElem? (i := 721) (by decide +kernel)) rfl
theorem ml_RL_88 : Cond.methodLink RL 88 yX9_end ∈ tb := tb_in (List.mem_of_getElem? (i := 1061) (by decide +kernel)) rfl
theorem ml_RL_89 : Cond.methodLink RL 89 yX8_about ∈ tb := tb_in (List.mem_of_getElem? (i := 726) (by decide +kernel)) rfl
theorem ml_RL_92 : Cond.methodLink RL 92 yX9_about ∈ tb := tb_in (List.mem_of_getElem? (i := 1115) (by decide +kernel)) rfl
theorem ml_RL_93 : Cond.methodLink RL 93 yX8_support ∈ tb := tb_in (List.mem_of_getElem? (i := 748) (by decide +kernel)) rfl
theorem ml_RL_96 : Cond.methodLink RL 96 yX9_support ∈ tb := tb_in (List.mem_of_getElem? (i := 1123) (by decide +kernel)) rfl
theorem ml_RL_97 : Cond.methodLink RL 97 yX8_left ∈ tb := tb_in (List.mem_of_getElem? (i := 752) (by decide +kernel)) rfl
theorem ml_RL_100 : Cond.methodLink RL 100 yX9_left ∈ tb := tb_in (List.mem_of_getElem? (i := 1127) (by decide +kernel)) rfl
theorem ml_RL_101 : Cond.methodLink RL 101 yX8_work ∈ tb := tb_in (List.mem_of_getElem? (i := 756) (by decide +kernel)) rfl
theorem ml_RL_105 : Cond.methodLink RL 105 yX9_work ∈ tb := tb_in (List.mem_of_getElem? (i := 1042) (by decide +kernel)) rfl
theorem ml_RL_106 : Cond.methodLink RL 106 yX8_as ∈ tb := tb_in (List.mem_of_getElem? (i := 757) (by decide +kernel)) rfl
theorem ml_RL_109 : Cond.methodLink RL 109 yX9_as ∈ tb := tb_in (List.mem_of_getElem? (i := 1131) (by decide +kernel)) rfl
theorem ml_RL_110 : Cond.methodLink RL 110 yX8_down ∈ tb := tb_in (List.mem_of_getElem? (i := 765) (by decide +kernel)) rfl
theorem ml_RL_113 : Cond.methodLink RL 113 yX9_down ∈ tb := tb_in (List.mem_of_getElem? (i := 1135) (by decide +kernel)) rfl
theorem ml_RL_114 : Cond.methodLink RL 114 yX8_needs ∈ tb := tb_in (List.mem_of_getElem? (i := 774) (by decide +kernel)) rfl
theorem ml_RL_117 : Cond.methodLink RL 117 yX9_needs ∈ tb := tb_in (List.mem_of_getElem? (i := 1139) (by decide +kernel)) rfl
theorem ml_RL_118 : Cond.methodLink RL 118 yX8_count ∈ tb := tb_in (List.mem_of_getElem? (i := 783) (by decide +kernel)) rfl
theorem ml_RL_121 : Cond.methodLink RL 121 yX9_count ∈ tb := tb_in (List.mem_of_getElem? (i := 1143) (by decide +kernel)) rfl
def alen (f : Nat) : Nat := match f with
  | 100 => 101
  | 304 => 4
  | 305 => 4
  | 306 => 4
  | 307 => 30
  | 400 => 40
  | 401 => 61
  | 402 => 61
  | 403 => 61
  | 404 => 4
  | 500 => 8
  | 501 => 100
  | 600 => 40
  | 601 => 40
  | 700 => 100
  | 701 => 100
  | 702 => 20
  | 905 => 30
  | 906 => 20
  | 907 => 20
  | 908 => 40
  | 1002 => 40
  | 1003 => 40
  | 1004 => 40
  | 1005 => 40
  | 1006 => 40
  | 1007 => 40
  | 1008 => 40
  | 1009 => 40
  | 1010 => 40
  | 1011 => 40
  | 1012 => 40
  | 1013 => 40
  | 1014 => 40
  | 1015 => 40
  | 1016 => 160
  | 1017 => 160
  | 1022 => 1201
  | 1023 => 48040
  | 1025 => 61
  | 1026 => 2440
  | 1027 => 4
  | 1028 => 40
  | 1029 => 40
  | 1030 => 100
  | 1033 => 51
  | 1034 => 5100
  | 1036 => 21
  | 1037 => 100
  | 1039 => 30
  | 1040 => 30
  | 1041 => 30
  | 1043 => 20
  | 1044 => 20
  | 1045 => 30
  | 1046 => 40
  | _ => 0
/-- the objects that are always there, and the lengths of their rows -/
def Sg (E : Et) : Prop := (∀ c, c ∈ ([0, 3, 4, 5, 6, 8, 9] : List Nat) → eL E c 0) ∧ ∀ f i, f ≠ 800 → eN E f i = alen f
theorem ix {E : Et} {f i n : Nat} {x : Int32} (h : Sg E) (hf : f ≠ 800) (hn : alen f = n) (hx : vp_in x n) : vp_in x (eN E f i) := by
  rw [h.2 f i hf, hn]
  exact hx
section Calls0
variable {l : Launch} {G : Gt} {own : String} {cc : ByteArray} {nL : Nat} {ret : Option FieldType} {rm : Room} {E : Et} {V : Vt} {pc : Nat} {ll : List (Nat × Value)} {st : List Value} {Q : Option Value → Et → Vt → Prop}
/-- the ends of methods that make nothing: an int (or a boolean), nothing, a cell of class c or null -/
def Qi (E : Et) (K : Int32 → Vt → Prop) : Option Value → Et → Vt → Prop := fun r E' V' => E = E' ∧ ∃ x, r = some (.int x) ∧ K x V'
def Qv (E : Et) (K : Vt → Prop) : Option Value → Et → Vt → Prop := fun r E' V' => E = E' ∧ r = none ∧ K V'
def Qr (c : Nat) (E : Et) (K : Option Nat → Vt → Prop) : Option Value → Et → Vt → Prop := fun r E' V' => E = E' ∧ ∃ o : Option Nat, r = some (va_rf (o.map (eA E c))) ∧ K o V'

theorem r_cVi {idx ci i na nY : Nat} {y : MethodName} {cy : ByteArray} {ry : Option FieldType} {rY : Room} {As rest : List Value} {K : Int32 → Vt → Prop} (hd : decode cc pc = .ok (.invokevirtual idx, 3)) (hm : MV y cy nY ry na) (hlink : Cond.methodLink own idx y ∈ tb) (hcl : ∃ T N, cls[ci]? = some (y.cls, T, N)) (hlv : eL E ci i) (hrm : rY.frames + 1 ≤ rm.frames ∧ 8 + (nY + 11) + rY.locals ≤ rm.locals) (h0 : rY.cells = 0 ∧ rY.slots = 0) (hna : As.length = na) (hst : st = As.reverse ++ .ref (eA E ci i) :: rest) (hcat : (rest.map fun v => v.category).sum ≤ 8) (hC : Cl l G y cy nY ry rY E V (.ref (eA E ci i) :: As) (Qi E K)) (kk : ∀ x V', K x V' → Ev l G own cc nL ret rm E 0 0 V' (pc + 3) ll (.int x :: rest) Q) : Ev l G own cc nL ret rm E 0 0 V pc ll st Q := by
  have hcs : 0 + rY.cells ≤ rm.cells ∧ 0 + rY.slots ≤ rm.slots := by rw [h0.1, h0.2]; exact ⟨Nat.zero_le _, Nat.zero_le _⟩
  refine r_callV hd hm hlink hcl hlv hrm hcs hna hst hcat hC (fun r E' V' hq => ?_)
  obtain ⟨rfl, x, rfl, hk⟩ := hq
  rw [h0.1, h0.2]
  exact kk x V' hk
theorem r_cSi {idx na nY : Nat} {y : MethodName} {cy : ByteArray} {ry : Option FieldType} {rY : Room} {As rest : List Value} {K : Int32 → Vt → Prop} (hd : decode cc pc = .ok (.invokestatic idx, 3)) (hm : MS y cy nY ry na) (hlink : Cond.methodLink own idx y ∈ tb) (hrm : rY.frames + 1 ≤ rm.frames ∧ 8 + (nY + 11) + rY.locals ≤ rm.locals) (h0 : rY.cells = 0 ∧ rY.slots = 0) (hna : As.length = na) (hst : st = As.reverse ++ rest) (hcat : (rest.map fun v => v.category).sum ≤ 8) (hC : Cl l G y cy nY ry rY E V As (Qi E K)) (kk : ∀ x V', K x V' → Ev l G own cc nL ret rm E 0 0 V' (pc + 3) ll (.int x :: rest) Q) : Ev l G own cc nL ret rm E 0 0 V pc ll st Q := by
  have hcs : 0 + rY.cells ≤ rm.cells ∧ 0 + rY.slots ≤ rm.slots := by rw [h0.1, h0.2]; exact ⟨Nat.zero_le _, Nat.zero_le _⟩
  refine r_callS hd hm hlink hrm hcs hna hst hcat hC (fun r E' V' hq => ?_)
  obtain ⟨rfl, x, rfl, hk⟩ := hq
  rw [h0.1, h0.2]
  exact kk x V' hk
theorem r_cVv {idx ci i na nY : Nat} {y : MethodName} {cy : ByteArray} {ry : Option FieldType} {rY : Room} {As rest : List Value} {K : Vt → Prop} (hd : decode cc pc = .ok (.invokevirtual idx, 3)) (hm : MV y cy nY ry na) (hlink : Cond.methodLink own idx y ∈ tb) (hcl : ∃ T N, cls[ci]? = some (y.cls, T, N)) (hlv : eL E ci i) (hrm : rY.frames + 1 ≤ rm.frames ∧ 8 + (nY + 11) + rY.locals ≤ rm.locals) (h0 : rY.cells = 0 ∧ rY.slots = 0) (hna : As.length = na) (hst : st = As.reverse ++ .ref (eA E ci i) :: rest) (hcat : (rest.map fun v => v.category).sum ≤ 8) (hC : Cl l G y cy nY ry rY E V (.ref (eA E ci i) :: As) (Qv E K)) (kk : ∀ V', K V' → Ev l G own cc nL ret rm E 0 0 V' (pc + 3) ll rest Q) : Ev l G own cc nL ret rm E 0 0 V pc ll st Q := by
  have hcs : 0 + rY.cells ≤ rm.cells ∧ 0 + rY.slots ≤ rm.slots := by rw [h0.1, h0.2]; exact ⟨Nat.zero_le _, Nat.zero_le _⟩
  refine r_callV hd hm hlink hcl hlv hrm hcs hna hst hcat hC (fun r E' V' hq => ?_)
  obtain ⟨rfl, rfl, hk⟩ := hq
  rw [h0.1, h0.2]
  exact kk V' hk
theorem r_cSv {idx na nY : Nat} {y : MethodName} {cy : ByteArray} {ry : Option FieldType} {rY : Room} {As rest : List Value} {K : Vt → Prop} (hd : decode cc pc = .ok (.invokestatic idx, 3)) (hm : MS y cy nY ry na) (hlink : Cond.methodLink own idx y ∈ tb) (hrm : rY.frames + 1 ≤ rm.frames ∧ 8 + (nY + 11) + rY.locals ≤ rm.locals) (h0 : rY.cells = 0 ∧ rY.slots = 0) (hna : As.length = na) (hst : st = As.reverse ++ rest) (hcat : (rest.map fun v => v.category).sum ≤ 8) (hC : Cl l G y cy nY ry rY E V As (Qv E K)) (kk : ∀ V', K V' → Ev l G own cc nL ret rm E 0 0 V' (pc + 3) ll rest Q) : Ev l G own cc nL ret rm E 0 0 V pc ll st Q := by
  have hcs : 0 + rY.cells ≤ rm.cells ∧ 0 + rY.slots ≤ rm.slots := by rw [h0.1, h0.2]; exact ⟨Nat.zero_le _, Nat.zero_le _⟩
  refine r_callS hd hm hlink hrm hcs hna hst hcat hC (fun r E' V' hq => ?_)
  obtain ⟨rfl, rfl, hk⟩ := hq
  rw [h0.1, h0.2]
  exact kk V' hk
theorem r_cVr {idx ci i na nY : Nat} {y : MethodName} {cy : ByteArray} {ry : Option FieldType} {rY : Room} {As rest : List Value} {K : Option Nat → Vt → Prop} {cr : Nat} (hd : decode cc pc = .ok (.invokevirtual idx, 3)) (hm : MV y cy nY ry na) (hlink : Cond.methodLink own idx y ∈ tb) (hcl : ∃ T N, cls[ci]? = some (y.cls, T, N)) (hlv : eL E ci i) (hrm : rY.frames + 1 ≤ rm.frames ∧ 8 + (nY + 11) + rY.locals ≤ rm.locals) (h0 : rY.cells = 0 ∧ rY.slots = 0) (hna : As.length = na) (hst : st = As.reverse ++ .ref (eA E ci i) :: rest) (hcat : (rest.map fun v => v.category).sum ≤ 8) (hC : Cl l G y cy nY ry rY E V (.ref (eA E ci i) :: As) (Qr cr E K)) (kk : ∀ o V', K o V' → Ev l G own cc nL ret rm E 0 0 V' (pc + 3) ll (va_rf (o.map (eA E cr)) :: rest) Q) : Ev l G own cc nL ret rm E 0 0 V pc ll st Q := by
  have hcs : 0 + rY.cells ≤ rm.cells ∧ 0 + rY.slots ≤ rm.slots := by rw [h0.1, h0.2]; exact ⟨Nat.zero_le _, Nat.zero_le _⟩
  refine r_callV hd hm hlink hcl hlv hrm hcs hna hst hcat hC (fun r E' V' hq => ?_)
  obtain ⟨rfl, o, rfl, hk⟩ := hq
  rw [h0.1, h0.2]
  exact kk o V' hk
theorem r_cSr {idx na nY : Nat} {y : MethodName} {cy : ByteArray} {ry : Option FieldType} {rY : Room} {As rest : List Value} {K : Option Nat → Vt → Prop} {cr : Nat} (hd : decode cc pc = .ok (.invokestatic idx, 3)) (hm : MS y cy nY ry na) (hlink : Cond.methodLink own idx y ∈ tb) (hrm : rY.frames + 1 ≤ rm.frames ∧ 8 + (nY + 11) + rY.locals ≤ rm.locals) (h0 : rY.cells = 0 ∧ rY.slots = 0) (hna : As.length = na) (hst : st = As.reverse ++ rest) (hcat : (rest.map fun v => v.category).sum ≤ 8) (hC : Cl l G y cy nY ry rY E V As (Qr cr E K)) (kk : ∀ o V', K o V' → Ev l G own cc nL ret rm E 0 0 V' (pc + 3) ll (va_rf (o.map (eA E cr)) :: rest) Q) : Ev l G own cc nL ret rm E 0 0 V pc ll st Q := by
  have hcs : 0 + rY.cells ≤ rm.cells ∧ 0 + rY.slots ≤ rm.slots := by rw [h0.1, h0.2]; exact ⟨Nat.zero_le _, Nat.zero_le _⟩
  refine r_callS hd hm hlink hrm hcs hna hst hcat hC (fun r E' V' hq => ?_)
  obtain ⟨rfl, o, rfl, hk⟩ := hq
  rw [h0.1, h0.2]
  exact kk o V' hk
end Calls0
