theorem ly0 : LayOk 0 := ⟨RX0, TX0, 3, rfl, fun w hw => List.mem_filter.mpr ⟨(by decide +kernel : ∀ w ∈ u_ws RX0 TX0 3, w ∈ lw_tbl) w hw, (by decide +kernel : ∀ w ∈ u_ws RX0 TX0 3, goodWord w = true) w hw⟩, rfl, by decide⟩
theorem ty0 : TyOk 0 := ⟨RX0, TX0, 3, tyX0, rfl, tyX0_ok, nmX0⟩
theorem po0_2 : ∀ v : Int, PutOk 0 2 (iv v) := fun _ => ⟨RX0, TX0, 3, .int, rfl, rfl, by decide +kernel, rfl, rfl⟩
theorem ly1 : LayOk 1 := ⟨RX1, TX1, 15, rfl, fun w hw => List.mem_filter.mpr ⟨(by decide +kernel : ∀ w ∈ u_ws RX1 TX1 15, w ∈ lw_tbl) w hw, (by decide +kernel : ∀ w ∈ u_ws RX1 TX1 15, goodWord w = true) w hw⟩, rfl, by decide⟩
theorem ty1 : TyOk 1 := ⟨RX1, TX1, 15, tyX1, rfl, tyX1_ok, nmX1⟩
theorem po1_0 : ∀ v : Int, PutOk 1 0 (iv v) := fun _ => ⟨RX1, TX1, 15, .int, rfl, rfl, by decide +kernel, rfl, rfl⟩
theorem po1_1 : ∀ v : Int, PutOk 1 1 (iv v) := fun _ => ⟨RX1, TX1, 15, .int, rfl, rfl, by decide +kernel, rfl, rfl⟩
theorem po1_2 : ∀ v : Int, PutOk 1 2 (iv v) := fun _ => ⟨RX1, TX1, 15, .int, rfl, rfl, by decide +kernel, rfl, rfl⟩
theorem po1_3 : ∀ v : Int, PutOk 1 3 (iv v) := fun _ => ⟨RX1, TX1, 15, .int, rfl, rfl, by decide +kernel, rfl, rfl⟩
theorem po1_4 : PutOk 1 4 (iv 0) ∧ PutOk 1 4 (iv 1) := ⟨⟨RX1, TX1, 15, .boolean, rfl, rfl, by decide +kernel, by decide +kernel, by decide +kernel⟩, ⟨RX1, TX1, 15, .boolean, rfl, rfl, by decide +kernel, by decide +kernel, by decide +kernel⟩⟩
theorem ly2 : LayOk 2 := ⟨RX2, TX2, 13, rfl, fun w hw => List.mem_filter.mpr ⟨(by decide +kernel : ∀ w ∈ u_ws RX2 TX2 13, w ∈ lw_tbl) w hw, (by decide +kernel : ∀ w ∈ u_ws RX2 TX2 13, goodWord w = true) w hw⟩, rfl, by decide⟩
theorem ty2 : TyOk 2 := ⟨RX2, TX2, 13, tyX2, rfl, tyX2_ok, nmX2⟩
theorem po2_0 : ∀ a : Nat, PutOk 2 0 (.ref a) := fun _ => ⟨RX2, TX2, 13, .array (.object "LineChoice$Line"), rfl, rfl, by decide +kernel, rfl, rfl⟩
theorem po2_1 : ∀ v : Int, PutOk 2 1 (iv v) := fun _ => ⟨RX2, TX2, 13, .int, rfl, rfl, by decide +kernel, rfl, rfl⟩
theorem po2_3 : ∀ v : Int, PutOk 2 3 (iv v) := fun _ => ⟨RX2, TX2, 13, .int, rfl, rfl, by decide +kernel, rfl, rfl⟩
theorem po2_4 : ∀ v : Int, PutOk 2 4 (iv v) := fun _ => ⟨RX2, TX2, 13, .int, rfl, rfl, by decide +kernel, rfl, rfl⟩
theorem po2_5 : ∀ v : Int, PutOk 2 5 (iv v) := fun _ => ⟨RX2, TX2, 13, .int, rfl, rfl, by decide +kernel, rfl, rfl⟩
theorem po2_6 : ∀ v : Int, PutOk 2 6 (iv v) := fun _ => ⟨RX2, TX2, 13, .int, rfl, rfl, by decide +kernel, rfl, rfl⟩
theorem po2_7 : ∀ v : Int, PutOk 2 7 (iv v) := fun _ => ⟨RX2, TX2, 13, .int, rfl, rfl, by decide +kernel, rfl, rfl⟩
theorem po2_8 : ∀ v : Int, PutOk 2 8 (jv v) := fun _ => ⟨RX2, TX2, 13, .long, rfl, rfl, by decide +kernel, rfl, rfl⟩
theorem po2_9 : ∀ v : Int, PutOk 2 9 (jv v) := fun _ => ⟨RX2, TX2, 13, .long, rfl, rfl, by decide +kernel, rfl, rfl⟩
theorem po2_11 : ∀ v : Int, PutOk 2 11 (iv v) := fun _ => ⟨RX2, TX2, 13, .int, rfl, rfl, by decide +kernel, rfl, rfl⟩
theorem ly3 : LayOk 3 := ⟨RX3, TX3, 2, rfl, fun w hw => List.mem_filter.mpr ⟨(by decide +kernel : ∀ w ∈ u_ws RX3 TX3 2, w ∈ lw_tbl) w hw, (by decide +kernel : ∀ w ∈ u_ws RX3 TX3 2, goodWord w = true) w hw⟩, rfl, by decide⟩
theorem ty3 : TyOk 3 := ⟨RX3, TX3, 2, tyX3, rfl, tyX3_ok, nmX3⟩
theorem po3_1 : ∀ v : Int, PutOk 3 1 (iv v) := fun _ => ⟨RX3, TX3, 2, .int, rfl, rfl, by decide +kernel, rfl, rfl⟩
theorem ly4 : LayOk 4 := ⟨RX4, TX4, 12, rfl, fun w hw => List.mem_filter.mpr ⟨(by decide +kernel : ∀ w ∈ u_ws RX4 TX4 12, w ∈ lw_tbl) w hw, (by decide +kernel : ∀ w ∈ u_ws RX4 TX4 12, goodWord w = true) w hw⟩, rfl, by decide⟩
theorem ty4 : TyOk 4 := ⟨RX4, TX4, 12, tyX4, rfl, tyX4_ok, nmX4⟩
theorem po4_0 : ∀ v : Int, PutOk 4 0 (iv v) := fun _ => ⟨RX4, TX4, 12, .int, rfl, rfl, by decide +kernel, rfl, rfl⟩
theorem po4_1 : PutOk 4 1 (iv 0) ∧ PutOk 4 1 (iv 1) := ⟨⟨RX4, TX4, 12, .boolean, rfl, rfl, by decide +kernel, by decide +kernel, by decide +kernel⟩, ⟨RX4, TX4, 12, .boolean, rfl, rfl, by decide +kernel, by decide +kernel, by decide +kernel⟩⟩
theorem po4_2 : ∀ v : Int, PutOk 4 2 (iv v) := fun _ => ⟨RX4, TX4, 12, .int, rfl, rfl, by decide +kernel, rfl, rfl⟩
theorem po4_3 : ∀ v : Int, PutOk 4 3 (iv v) := fun _ => ⟨RX4, TX4, 12, .int, rfl, rfl, by decide +kernel, rfl, rfl⟩
theorem po4_4 : ∀ v : Int, PutOk 4 4 (iv v) := fun _ => ⟨RX4, TX4, 12, .int, rfl, rfl, by decide +kernel, rfl, rfl⟩
theorem po4_5 : ∀ v : Int, PutOk 4 5 (iv v) := fun _ => ⟨RX4, TX4, 12, .int, rfl, rfl, by decide +kernel, rfl, rfl⟩
theorem po4_6 : ∀ v : Int, PutOk 4 6 (iv v) := fun _ => ⟨RX4, TX4, 12, .int, rfl, rfl, by decide +kernel, rfl, rfl⟩
theorem po4_7 : ∀ v : Int, PutOk 4 7 (iv v) := fun _ => ⟨RX4, TX4, 12, .int, rfl, rfl, by decide +kernel, rfl, rfl⟩
theorem po4_8 : ∀ v : Int, PutOk 4 8 (iv v) := fun _ => ⟨RX4, TX4, 12, .int, rfl, rfl, by decide +kernel, rfl, rfl⟩
theorem ly5 : LayOk 5 := ⟨RX5, TX5, 7, rfl, fun w hw => List.mem_filter.mpr ⟨(by decide +kernel : ∀ w ∈ u_ws RX5 TX5 7, w ∈ lw_tbl) w hw, (by decide +kernel : ∀ w ∈ u_ws RX5 TX5 7, goodWord w = true) w hw⟩, rfl, by decide⟩
theorem ty5 : TyOk 5 := ⟨RX5, TX5, 7, tyX5, rfl, tyX5_ok, nmX5⟩
theorem po5_1 : ∀ v : Int, PutOk 5 1 (iv v) := fun _ => ⟨RX5, TX5, 7, .int, rfl, rfl, by decide +kernel, rfl, rfl⟩
theorem po5_2 : ∀ a : Nat, PutOk 5 2 (.ref a) := fun _ => ⟨RX5, TX5, 7, .array (.object "LineChoice$Line"), rfl, rfl, by decide +kernel, rfl, rfl⟩
theorem po5_3 : ∀ v : Int, PutOk 5 3 (iv v) := fun _ => ⟨RX5, TX5, 7, .int, rfl, rfl, by decide +kernel, rfl, rfl⟩
theorem po5_4 : ∀ v : Int, PutOk 5 4 (iv v) := fun _ => ⟨RX5, TX5, 7, .int, rfl, rfl, by decide +kernel, rfl, rfl⟩
theorem po5_5 : ∀ v : Int, PutOk 5 5 (iv v) := fun _ => ⟨RX5, TX5, 7, .int, rfl, rfl, by decide +kernel, rfl, rfl⟩
theorem po5_6 : ∀ v : Int, PutOk 5 6 (iv v) := fun _ => ⟨RX5, TX5, 7, .int, rfl, rfl, by decide +kernel, rfl, rfl⟩
theorem ly6 : LayOk 6 := ⟨RX6, TX6, 4, rfl, fun w hw => List.mem_filter.mpr ⟨(by decide +kernel : ∀ w ∈ u_ws RX6 TX6 4, w ∈ lw_tbl) w hw, (by decide +kernel : ∀ w ∈ u_ws RX6 TX6 4, goodWord w = true) w hw⟩, rfl, by decide⟩
theorem ty6 : TyOk 6 := ⟨RX6, TX6, 4, tyX6, rfl, tyX6_ok, nmX6⟩
theorem ly7 : LayOk 7 := ⟨RX7, TX7, 50, rfl, fun w hw => List.mem_filter.mpr ⟨(by decide +kernel : ∀ w ∈ u_ws RX7 TX7 50, w ∈ lw_tbl) w hw, (by decide +kernel : ∀ w ∈ u_ws RX7 TX7 50, goodWord w = true) w hw⟩, rfl, by decide⟩
theorem ty7 : TyOk 7 := ⟨RX7, TX7, 50, tyX7, rfl, tyX7_ok, nmX7⟩
theorem po7_9 : ∀ v : Int, PutOk 7 9 (iv v) := fun _ => ⟨RX7, TX7, 50, .int, rfl, rfl, by decide +kernel, rfl, rfl⟩
theorem po7_10 : ∀ v : Int, PutOk 7 10 (iv v) := fun _ => ⟨RX7, TX7, 50, .int, rfl, rfl, by decide +kernel, rfl, rfl⟩
theorem po7_11 : ∀ v : Int, PutOk 7 11 (iv v) := fun _ => ⟨RX7, TX7, 50, .int, rfl, rfl, by decide +kernel, rfl, rfl⟩
theorem po7_12 : ∀ v : Int, PutOk 7 12 (iv v) := fun _ => ⟨RX7, TX7, 50, .int, rfl, rfl, by decide +kernel, rfl, rfl⟩
theorem po7_13 : ∀ v : Int, PutOk 7 13 (iv v) := fun _ => ⟨RX7, TX7, 50, .int, rfl, rfl, by decide +kernel, rfl, rfl⟩
theorem po7_17 : ∀ v : Int, PutOk 7 17 (iv v) := fun _ => ⟨RX7, TX7, 50, .int, rfl, rfl, by decide +kernel, rfl, rfl⟩
theorem po7_19 : ∀ v : Int, PutOk 7 19 (iv v) := fun _ => ⟨RX7, TX7, 50, .int, rfl, rfl, by decide +kernel, rfl, rfl⟩
theorem po7_20 : ∀ v : Int, PutOk 7 20 (iv v) := fun _ => ⟨RX7, TX7, 50, .int, rfl, rfl, by decide +kernel, rfl, rfl⟩
theorem po7_25 : ∀ v : Int, PutOk 7 25 (iv v) := fun _ => ⟨RX7, TX7, 50, .int, rfl, rfl, by decide +kernel, rfl, rfl⟩
theorem po7_26 : ∀ v : Int, PutOk 7 26 (iv v) := fun _ => ⟨RX7, TX7, 50, .int, rfl, rfl, by decide +kernel, rfl, rfl⟩
theorem po7_27 : ∀ v : Int, PutOk 7 27 (iv v) := fun _ => ⟨RX7, TX7, 50, .int, rfl, rfl, by decide +kernel, rfl, rfl⟩
theorem po7_28 : ∀ v : Int, PutOk 7 28 (iv v) := fun _ => ⟨RX7, TX7, 50, .int, rfl, rfl, by decide +kernel, rfl, rfl⟩
theorem po7_36 : ∀ v : Int, PutOk 7 36 (iv v) := fun _ => ⟨RX7, TX7, 50, .int, rfl, rfl, by decide +kernel, rfl, rfl⟩
theorem po7_37 : ∀ v : Int, PutOk 7 37 (iv v) := fun _ => ⟨RX7, TX7, 50, .int, rfl, rfl, by decide +kernel, rfl, rfl⟩
theorem po7_40 : ∀ v : Int, PutOk 7 40 (iv v) := fun _ => ⟨RX7, TX7, 50, .int, rfl, rfl, by decide +kernel, rfl, rfl⟩
theorem po7_46 : ∀ v : Int, PutOk 7 46 (jv v) := fun _ => ⟨RX7, TX7, 50, .long, rfl, rfl, by decide +kernel, rfl, rfl⟩
theorem po7_47 : ∀ v : Int, PutOk 7 47 (jv v) := fun _ => ⟨RX7, TX7, 50, .long, rfl, rfl, by decide +kernel, rfl, rfl⟩
theorem po7_49 : ∀ v : Int, PutOk 7 49 (iv v) := fun _ => ⟨RX7, TX7, 50, .int, rfl, rfl, by decide +kernel, rfl, rfl⟩
theorem fl_X6_10 : FLk RX6 10 6 0 := ⟨RX6, TX6, 4, rfl, tbm (i := 366) (by decide +kernel) (by decide +kernel), by decide⟩
theorem fl_X6_19 : FLk RX6 19 6 1 := ⟨RX6, TX6, 4, rfl, tbm (i := 367) (by decide +kernel) (by decide +kernel), by decide⟩
theorem fl_X6_26 : FLk RX6 26 6 2 := ⟨RX6, TX6, 4, rfl, tbm (i := 368) (by decide +kernel) (by decide +kernel), by decide⟩
theorem fl_X6_33 : FLk RX6 33 6 3 := ⟨RX6, TX6, 4, rfl, tbm (i := 369) (by decide +kernel) (by decide +kernel), by decide⟩
theorem fl_X6_41 : FLk RX6 41 5 1 := ⟨RX5, TX5, 7, rfl, tbm (i := 184) (by decide +kernel) (by decide +kernel), by decide⟩
theorem fl_X6_49 : FLk RX6 49 5 4 := ⟨RX5, TX5, 7, rfl, tbm (i := 189) (by decide +kernel) (by decide +kernel), by decide⟩
theorem fl_X6_56 : FLk RX6 56 2 1 := ⟨RX2, TX2, 13, rfl, tbm (i := 282) (by decide +kernel) (by decide +kernel), by decide⟩
theorem fl_X6_72 : FLk RX6 72 2 3 := ⟨RX2, TX2, 13, rfl, tbm (i := 287) (by decide +kernel) (by decide +kernel), by decide⟩
theorem fl_X6_78 : FLk RX6 78 2 4 := ⟨RX2, TX2, 13, rfl, tbm (i := 289) (by decide +kernel) (by decide +kernel), by decide⟩
theorem fl_X6_81 : FLk RX6 81 2 2 := ⟨RX2, TX2, 13, rfl, tbm (i := 285) (by decide +kernel) (by decide +kernel), by decide⟩
theorem fl_X6_85 : FLk RX6 85 4 0 := ⟨RX4, TX4, 12, rfl, tbm (i := 224) (by decide +kernel) (by decide +kernel), by decide⟩
theorem fl_X6_90 : FLk RX6 90 2 0 := ⟨RX2, TX2, 13, rfl, tbm (i := 280) (by decide +kernel) (by decide +kernel), by decide⟩
theorem fl_X6_94 : FLk RX6 94 1 4 := ⟨RX1, TX1, 15, rfl, tbm (i := 122) (by decide +kernel) (by decide +kernel), by decide⟩
theorem fl_X6_110 : FLk RX6 110 4 1 := ⟨RX4, TX4, 12, rfl, tbm (i := 227) (by decide +kernel) (by decide +kernel), by decide⟩
theorem fl_X6_116 : FLk RX6 116 1 0 := ⟨RX1, TX1, 15, rfl, tbm (i := 111) (by decide +kernel) (by decide +kernel), by decide⟩
theorem fl_X6_119 : FLk RX6 119 1 1 := ⟨RX1, TX1, 15, rfl, tbm (i := 115) (by decide +kernel) (by decide +kernel), by decide⟩
theorem fl_X6_122 : FLk RX6 122 1 2 := ⟨RX1, TX1, 15, rfl, tbm (i := 117) (by decide +kernel) (by decide +kernel), by decide⟩
theorem fl_X6_125 : FLk RX6 125 1 3 := ⟨RX1, TX1, 15, rfl, tbm (i := 119) (by decide +kernel) (by decide +kernel), by decide⟩
theorem fl_X6_142 : FLk RX6 142 1 6 := ⟨RX1, TX1, 15, rfl, tbm (i := 128) (by decide +kernel) (by decide +kernel), by decide⟩
theorem fl_X6_150 : FLk RX6 150 1 7 := ⟨RX1, TX1, 15, rfl, tbm (i := 130) (by decide +kernel) (by decide +kernel), by decide⟩
theorem fl_X6_153 : FLk RX6 153 1 5 := ⟨RX1, TX1, 15, rfl, tbm (i := 125) (by decide +kernel) (by decide +kernel), by decide⟩
theorem fl_X6_158 : FLk RX6 158 4 2 := ⟨RX4, TX4, 12, rfl, tbm (i := 231) (by decide +kernel) (by decide +kernel), by decide⟩
theorem fl_X6_161 : FLk RX6 161 4 5 := ⟨RX4, TX4, 12, rfl, tbm (i := 238) (by decide +kernel) (by decide +kernel), by decide⟩
theorem fl_X6_164 : FLk RX6 164 4 4 := ⟨RX4, TX4, 12, rfl, tbm (i := 235) (by decide +kernel) (by decide +kernel), by decide⟩
theorem fl_X6_178 : FLk RX6 178 2 7 := ⟨RX2, TX2, 13, rfl, tbm (i := 296) (by decide +kernel) (by decide +kernel), by decide⟩
theorem fl_X6_181 : FLk RX6 181 4 9 := ⟨RX4, TX4, 12, rfl, tbm (i := 247) (by decide +kernel) (by decide +kernel), by decide⟩
theorem fl_X6_189 : FLk RX6 189 1 10 := ⟨RX1, TX1, 15, rfl, tbm (i := 139) (by decide +kernel) (by decide +kernel), by decide⟩
theorem fl_X6_195 : FLk RX6 195 1 9 := ⟨RX1, TX1, 15, rfl, tbm (i := 136) (by decide +kernel) (by decide +kernel), by decide⟩
theorem fl_X6_198 : FLk RX6 198 1 11 := ⟨RX1, TX1, 15, rfl, tbm (i := 141) (by decide +kernel) (by decide +kernel), by decide⟩
theorem fl_X6_213 : FLk RX6 213 4 7 := ⟨RX4, TX4, 12, rfl, tbm (i := 243) (by decide +kernel) (by decide +kernel), by decide⟩
theorem fl_X6_219 : FLk RX6 219 1 12 := ⟨RX1, TX1, 15, rfl, tbm (i := 143) (by decide +kernel) (by decide +kernel), by decide⟩
theorem fl_X6_222 : FLk RX6 222 4 6 := ⟨RX4, TX4, 12, rfl, tbm (i := 241) (by decide +kernel) (by decide +kernel), by decide⟩
theorem fl_X6_231 : FLk RX6 231 1 14 := ⟨RX1, TX1, 15, rfl, tbm (i := 148) (by decide +kernel) (by decide +kernel), by decide⟩
theorem fl_X6_234 : FLk RX6 234 1 13 := ⟨RX1, TX1, 15, rfl, tbm (i := 146) (by decide +kernel) (by decide +kernel), by decide⟩
theorem fl_X6_243 : FLk RX6 243 2 9 := ⟨RX2, TX2, 13, rfl, tbm (i := 299) (by decide +kernel) (by decide +kernel), by decide⟩
theorem fl_X6_250 : FLk RX6 250 2 8 := ⟨RX2, TX2, 13, rfl, tbm (i := 297) (by decide +kernel) (by decide +kernel), by decide⟩
theorem fl_X6_256 : FLk RX6 256 2 5 := ⟨RX2, TX2, 13, rfl, tbm (i := 291) (by decide +kernel) (by decide +kernel), by decide⟩
theorem fl_X6_262 : FLk RX6 262 2 6 := ⟨RX2, TX2, 13, rfl, tbm (i := 294) (by decide +kernel) (by decide +kernel), by decide⟩
theorem fl_X6_265 : FLk RX6 265 1 8 := ⟨RX1, TX1, 15, rfl, tbm (i := 134) (by decide +kernel) (by decide +kernel), by decide⟩
theorem fl_X6_316 : FLk RX6 316 0 2 := ⟨RX0, TX0, 3, rfl, tbm (i := 358) (by decide +kernel) (by decide +kernel), by decide⟩
theorem fl_X6_319 : FLk RX6 319 0 0 := ⟨RX0, TX0, 3, rfl, tbm (i := 354) (by decide +kernel) (by decide +kernel), by decide⟩
theorem fl_X6_320 : FLk RX6 320 0 1 := ⟨RX0, TX0, 3, rfl, tbm (i := 356) (by decide +kernel) (by decide +kernel), by decide⟩
theorem fl_X6_335 : FLk RX6 335 3 1 := ⟨RX3, TX3, 2, rfl, tbm (i := 340) (by decide +kernel) (by decide +kernel), by decide⟩
theorem fl_X6_348 : FLk RX6 348 3 0 := ⟨RX3, TX3, 2, rfl, tbm (i := 338) (by decide +kernel) (by decide +kernel), by decide⟩
theorem fl_X0_9 : FLk RX0 9 0 0 := ⟨RX0, TX0, 3, rfl, tbm (i := 353) (by decide +kernel) (by decide +kernel), by decide⟩
theorem fl_X0_15 : FLk RX0 15 0 1 := ⟨RX0, TX0, 3, rfl, tbm (i := 355) (by decide +kernel) (by decide +kernel), by decide⟩
theorem fl_X0_18 : FLk RX0 18 0 2 := ⟨RX0, TX0, 3, rfl, tbm (i := 357) (by decide +kernel) (by decide +kernel), by decide⟩
theorem fl_X0_22 : FLk RX0 22 2 4 := ⟨RX2, TX2, 13, rfl, tbm (i := 288) (by decide +kernel) (by decide +kernel), by decide⟩
theorem fl_X0_27 : FLk RX0 27 2 2 := ⟨RX2, TX2, 13, rfl, tbm (i := 284) (by decide +kernel) (by decide +kernel), by decide⟩
theorem fl_X0_34 : FLk RX0 34 2 0 := ⟨RX2, TX2, 13, rfl, tbm (i := 279) (by decide +kernel) (by decide +kernel), by decide⟩
theorem fl_X0_37 : FLk RX0 37 4 9 := ⟨RX4, TX4, 12, rfl, tbm (i := 246) (by decide +kernel) (by decide +kernel), by decide⟩
theorem fl_X0_40 : FLk RX0 40 4 10 := ⟨RX4, TX4, 12, rfl, tbm (i := 250) (by decide +kernel) (by decide +kernel), by decide⟩
theorem fl_X0_56 : FLk RX0 56 1 5 := ⟨RX1, TX1, 15, rfl, tbm (i := 124) (by decide +kernel) (by decide +kernel), by decide⟩
theorem fl_X0_61 : FLk RX0 61 4 4 := ⟨RX4, TX4, 12, rfl, tbm (i := 234) (by decide +kernel) (by decide +kernel), by decide⟩
theorem fl_X1_9 : FLk RX1 9 1 0 := ⟨RX1, TX1, 15, rfl, tbm (i := 109) (by decide +kernel) (by decide +kernel), by decide⟩
theorem fl_X1_15 : FLk RX1 15 1 2 := ⟨RX1, TX1, 15, rfl, tbm (i := 116) (by decide +kernel) (by decide +kernel), by decide⟩
theorem fl_X1_18 : FLk RX1 18 1 5 := ⟨RX1, TX1, 15, rfl, tbm (i := 123) (by decide +kernel) (by decide +kernel), by decide⟩
theorem fl_X1_22 : FLk RX1 22 1 6 := ⟨RX1, TX1, 15, rfl, tbm (i := 127) (by decide +kernel) (by decide +kernel), by decide⟩
theorem fl_X1_25 : FLk RX1 25 1 7 := ⟨RX1, TX1, 15, rfl, tbm (i := 129) (by decide +kernel) (by decide +kernel), by decide⟩
theorem fl_X1_28 : FLk RX1 28 1 8 := ⟨RX1, TX1, 15, rfl, tbm (i := 132) (by decide +kernel) (by decide +kernel), by decide⟩
theorem fl_X1_31 : FLk RX1 31 1 9 := ⟨RX1, TX1, 15, rfl, tbm (i := 135) (by decide +kernel) (by decide +kernel), by decide⟩
theorem fl_X1_34 : FLk RX1 34 1 10 := ⟨RX1, TX1, 15, rfl, tbm (i := 137) (by decide +kernel) (by decide +kernel), by decide⟩
theorem fl_X1_37 : FLk RX1 37 1 11 := ⟨RX1, TX1, 15, rfl, tbm (i := 140) (by decide +kernel) (by decide +kernel), by decide⟩
theorem fl_X1_41 : FLk RX1 41 1 12 := ⟨RX1, TX1, 15, rfl, tbm (i := 142) (by decide +kernel) (by decide +kernel), by decide⟩
theorem fl_X1_44 : FLk RX1 44 1 13 := ⟨RX1, TX1, 15, rfl, tbm (i := 145) (by decide +kernel) (by decide +kernel), by decide⟩
theorem fl_X1_47 : FLk RX1 47 1 14 := ⟨RX1, TX1, 15, rfl, tbm (i := 147) (by decide +kernel) (by decide +kernel), by decide⟩
theorem fl_X1_50 : FLk RX1 50 1 1 := ⟨RX1, TX1, 15, rfl, tbm (i := 113) (by decide +kernel) (by decide +kernel), by decide⟩
theorem fl_X1_53 : FLk RX1 53 1 3 := ⟨RX1, TX1, 15, rfl, tbm (i := 118) (by decide +kernel) (by decide +kernel), by decide⟩
theorem fl_X1_56 : FLk RX1 56 1 4 := ⟨RX1, TX1, 15, rfl, tbm (i := 120) (by decide +kernel) (by decide +kernel), by decide⟩
theorem fl_X1_72 : FLk RX1 72 4 2 := ⟨RX4, TX4, 12, rfl, tbm (i := 229) (by decide +kernel) (by decide +kernel), by decide⟩
theorem fl_X2_13 : FLk RX2 13 2 0 := ⟨RX2, TX2, 13, rfl, tbm (i := 278) (by decide +kernel) (by decide +kernel), by decide⟩
theorem fl_X2_21 : FLk RX2 21 2 2 := ⟨RX2, TX2, 13, rfl, tbm (i := 283) (by decide +kernel) (by decide +kernel), by decide⟩
theorem fl_X2_25 : FLk RX2 25 2 3 := ⟨RX2, TX2, 13, rfl, tbm (i := 286) (by decide +kernel) (by decide +kernel), by decide⟩
theorem fl_X2_29 : FLk RX2 29 2 10 := ⟨RX2, TX2, 13, rfl, tbm (i := 301) (by decide +kernel) (by decide +kernel), by decide⟩
theorem fl_X2_36 : FLk RX2 36 2 12 := ⟨RX2, TX2, 13, rfl, tbm (i := 303) (by decide +kernel) (by decide +kernel), by decide⟩
theorem fl_X2_41 : FLk RX2 41 2 1 := ⟨RX2, TX2, 13, rfl, tbm (i := 281) (by decide +kernel) (by decide +kernel), by decide⟩
theorem fl_X2_54 : FLk RX2 54 5 2 := ⟨RX5, TX5, 7, rfl, tbm (i := 186) (by decide +kernel) (by decide +kernel), by decide⟩
theorem fl_X2_57 : FLk RX2 57 5 3 := ⟨RX5, TX5, 7, rfl, tbm (i := 188) (by decide +kernel) (by decide +kernel), by decide⟩
theorem fl_X2_60 : FLk RX2 60 2 6 := ⟨RX2, TX2, 13, rfl, tbm (i := 293) (by decide +kernel) (by decide +kernel), by decide⟩
theorem fl_X2_63 : FLk RX2 63 4 1 := ⟨RX4, TX4, 12, rfl, tbm (i := 226) (by decide +kernel) (by decide +kernel), by decide⟩
theorem fl_X2_67 : FLk RX2 67 1 4 := ⟨RX1, TX1, 15, rfl, tbm (i := 121) (by decide +kernel) (by decide +kernel), by decide⟩
theorem fl_X2_74 : FLk RX2 74 4 0 := ⟨RX4, TX4, 12, rfl, tbm (i := 225) (by decide +kernel) (by decide +kernel), by decide⟩
theorem fl_X2_77 : FLk RX2 77 1 1 := ⟨RX1, TX1, 15, rfl, tbm (i := 114) (by decide +kernel) (by decide +kernel), by decide⟩
theorem fl_X2_82 : FLk RX2 82 2 4 := ⟨RX2, TX2, 13, rfl, tbm (i := 290) (by decide +kernel) (by decide +kernel), by decide⟩
theorem fl_X2_85 : FLk RX2 85 4 2 := ⟨RX4, TX4, 12, rfl, tbm (i := 230) (by decide +kernel) (by decide +kernel), by decide⟩
theorem fl_X2_88 : FLk RX2 88 2 7 := ⟨RX2, TX2, 13, rfl, tbm (i := 295) (by decide +kernel) (by decide +kernel), by decide⟩
theorem fl_X2_105 : FLk RX2 105 1 5 := ⟨RX1, TX1, 15, rfl, tbm (i := 126) (by decide +kernel) (by decide +kernel), by decide⟩
theorem fl_X2_107 : FLk RX2 107 1 10 := ⟨RX1, TX1, 15, rfl, tbm (i := 138) (by decide +kernel) (by decide +kernel), by decide⟩
theorem fl_X2_129 : FLk RX2 129 2 11 := ⟨RX2, TX2, 13, rfl, tbm (i := 302) (by decide +kernel) (by decide +kernel), by decide⟩
theorem fl_X2_135 : FLk RX2 135 4 7 := ⟨RX4, TX4, 12, rfl, tbm (i := 242) (by decide +kernel) (by decide +kernel), by decide⟩
theorem fl_X2_142 : FLk RX2 142 4 4 := ⟨RX4, TX4, 12, rfl, tbm (i := 236) (by decide +kernel) (by decide +kernel), by decide⟩
theorem fl_X2_145 : FLk RX2 145 4 9 := ⟨RX4, TX4, 12, rfl, tbm (i := 248) (by decide +kernel) (by decide +kernel), by decide⟩
theorem fl_X2_147 : FLk RX2 147 4 10 := ⟨RX4, TX4, 12, rfl, tbm (i := 251) (by decide +kernel) (by decide +kernel), by decide⟩
theorem fl_X2_154 : FLk RX2 154 1 0 := ⟨RX1, TX1, 15, rfl, tbm (i := 112) (by decide +kernel) (by decide +kernel), by decide⟩
theorem fl_X2_157 : FLk RX2 157 4 5 := ⟨RX4, TX4, 12, rfl, tbm (i := 239) (by decide +kernel) (by decide +kernel), by decide⟩
theorem fl_X2_173 : FLk RX2 173 4 6 := ⟨RX4, TX4, 12, rfl, tbm (i := 240) (by decide +kernel) (by decide +kernel), by decide⟩
theorem fl_X2_190 : FLk RX2 190 4 8 := ⟨RX4, TX4, 12, rfl, tbm (i := 244) (by decide +kernel) (by decide +kernel), by decide⟩
theorem fl_X2_193 : FLk RX2 193 1 12 := ⟨RX1, TX1, 15, rfl, tbm (i := 144) (by decide +kernel) (by decide +kernel), by decide⟩
theorem fl_X2_199 : FLk RX2 199 2 8 := ⟨RX2, TX2, 13, rfl, tbm (i := 298) (by decide +kernel) (by decide +kernel), by decide⟩
theorem fl_X2_203 : FLk RX2 203 2 9 := ⟨RX2, TX2, 13, rfl, tbm (i := 300) (by decide +kernel) (by decide +kernel), by decide⟩
theorem fl_X2_220 : FLk RX2 220 2 5 := ⟨RX2, TX2, 13, rfl, tbm (i := 292) (by decide +kernel) (by decide +kernel), by decide⟩
theorem fl_X2_227 : FLk RX2 227 1 7 := ⟨RX1, TX1, 15, rfl, tbm (i := 131) (by decide +kernel) (by decide +kernel), by decide⟩
theorem fl_X2_230 : FLk RX2 230 1 8 := ⟨RX1, TX1, 15, rfl, tbm (i := 133) (by decide +kernel) (by decide +kernel), by decide⟩
theorem fl_X3_9 : FLk RX3 9 3 0 := ⟨RX3, TX3, 2, rfl, tbm (i := 337) (by decide +kernel) (by decide +kernel), by decide⟩
theorem fl_X3_15 : FLk RX3 15 3 1 := ⟨RX3, TX3, 2, rfl, tbm (i := 339) (by decide +kernel) (by decide +kernel), by decide⟩
theorem fl_X4_15 : FLk RX4 15 4 9 := ⟨RX4, TX4, 12, rfl, tbm (i := 245) (by decide +kernel) (by decide +kernel), by decide⟩
theorem fl_X4_19 : FLk RX4 19 4 10 := ⟨RX4, TX4, 12, rfl, tbm (i := 249) (by decide +kernel) (by decide +kernel), by decide⟩
theorem fl_X4_22 : FLk RX4 22 4 11 := ⟨RX4, TX4, 12, rfl, tbm (i := 252) (by decide +kernel) (by decide +kernel), by decide⟩
theorem fl_X4_25 : FLk RX4 25 4 3 := ⟨RX4, TX4, 12, rfl, tbm (i := 232) (by decide +kernel) (by decide +kernel), by decide⟩
theorem fl_X4_28 : FLk RX4 28 4 4 := ⟨RX4, TX4, 12, rfl, tbm (i := 233) (by decide +kernel) (by decide +kernel), by decide⟩
theorem fl_X4_31 : FLk RX4 31 4 5 := ⟨RX4, TX4, 12, rfl, tbm (i := 237) (by decide +kernel) (by decide +kernel), by decide⟩
theorem fl_X4_38 : FLk RX4 38 1 0 := ⟨RX1, TX1, 15, rfl, tbm (i := 110) (by decide +kernel) (by decide +kernel), by decide⟩
theorem fl_X5_9 : FLk RX5 9 5 0 := ⟨RX5, TX5, 7, rfl, tbm (i := 182) (by decide +kernel) (by decide +kernel), by decide⟩
theorem fl_X5_19 : FLk RX5 19 5 2 := ⟨RX5, TX5, 7, rfl, tbm (i := 185) (by decide +kernel) (by decide +kernel), by decide⟩
theorem fl_X5_23 : FLk RX5 23 5 1 := ⟨RX5, TX5, 7, rfl, tbm (i := 183) (by decide +kernel) (by decide +kernel), by decide⟩
theorem fl_X5_38 : FLk RX5 38 5 5 := ⟨RX5, TX5, 7, rfl, tbm (i := 191) (by decide +kernel) (by decide +kernel), by decide⟩
theorem fl_X5_45 : FLk RX5 45 5 3 := ⟨RX5, TX5, 7, rfl, tbm (i := 187) (by decide +kernel) (by decide +kernel), by decide⟩
theorem fl_X5_48 : FLk RX5 48 5 4 := ⟨RX5, TX5, 7, rfl, tbm (i := 190) (by decide +kernel) (by decide +kernel), by decide⟩
theorem fl_X5_57 : FLk RX5 57 5 6 := ⟨RX5, TX5, 7, rfl, tbm (i := 192) (by decide +kernel) (by decide +kernel), by decide⟩
theorem fl_X7_9 : FLk RX7 9 7 0 := ⟨RX7, TX7, 50, rfl, tbm (i := 1057) (by decide +kernel) (by decide +kernel), by decide⟩
theorem fl_X7_13 : FLk RX7 13 7 1 := ⟨RX7, TX7, 50, rfl, tbm (i := 1058) (by decide +kernel) (by decide +kernel), by decide⟩
theorem fl_X7_16 : FLk RX7 16 7 2 := ⟨RX7, TX7, 50, rfl, tbm (i := 1059) (by decide +kernel) (by decide +kernel), by decide⟩
theorem fl_X7_19 : FLk RX7 19 7 3 := ⟨RX7, TX7, 50, rfl, tbm (i := 1060) (by decide +kernel) (by decide +kernel), by decide⟩
theorem fl_X7_22 : FLk RX7 22 7 4 := ⟨RX7, TX7, 50, rfl, tbm (i := 1061) (by decide +kernel) (by decide +kernel), by decide⟩
theorem fl_X7_26 : FLk RX7 26 7 5 := ⟨RX7, TX7, 50, rfl, tbm (i := 1062) (by decide +kernel) (by decide +kernel), by decide⟩
theorem fl_X7_29 : FLk RX7 29 7 6 := ⟨RX7, TX7, 50, rfl, tbm (i := 1063) (by decide +kernel) (by decide +kernel), by decide⟩
theorem fl_X7_32 : FLk RX7 32 7 7 := ⟨RX7, TX7, 50, rfl, tbm (i := 1064) (by decide +kernel) (by decide +kernel), by decide⟩
theorem fl_X7_35 : FLk RX7 35 7 8 := ⟨RX7, TX7, 50, rfl, tbm (i := 1065) (by decide +kernel) (by decide +kernel), by decide⟩
theorem fl_X7_39 : FLk RX7 39 7 10 := ⟨RX7, TX7, 50, rfl, tbm (i := 1067) (by decide +kernel) (by decide +kernel), by decide⟩
theorem fl_X7_43 : FLk RX7 43 7 14 := ⟨RX7, TX7, 50, rfl, tbm (i := 1071) (by decide +kernel) (by decide +kernel), by decide⟩
theorem fl_X7_46 : FLk RX7 46 7 15 := ⟨RX7, TX7, 50, rfl, tbm (i := 1072) (by decide +kernel) (by decide +kernel), by decide⟩
theorem fl_X7_49 : FLk RX7 49 7 16 := ⟨RX7, TX7, 50, rfl, tbm (i := 1073) (by decide +kernel) (by decide +kernel), by decide⟩
theorem fl_X7_53 : FLk RX7 53 7 18 := ⟨RX7, TX7, 50, rfl, tbm (i := 1075) (by decide +kernel) (by decide +kernel), by decide⟩
theorem fl_X7_56 : FLk RX7 56 7 21 := ⟨RX7, TX7, 50, rfl, tbm (i := 1078) (by decide +kernel) (by decide +kernel), by decide⟩
theorem fl_X7_59 : FLk RX7 59 7 22 := ⟨RX7, TX7, 50, rfl, tbm (i := 1079) (by decide +kernel) (by decide +kernel), by decide⟩
theorem fl_X7_62 : FLk RX7 62 7 23 := ⟨RX7, TX7, 50, rfl, tbm (i := 1080) (by decide +kernel) (by decide +kernel), by decide⟩
theorem fl_X7_65 : FLk RX7 65 7 24 := ⟨RX7, TX7, 50, rfl, tbm (i := 1081) (by decide +kernel) (by decide +kernel), by decide⟩
theorem fl_X7_68 : FLk RX7 68 7 29 := ⟨RX7, TX7, 50, rfl, tbm (i := 1086) (by decide +kernel) (by decide +kernel), by decide⟩
theorem fl_X7_71 : FLk RX7 71 7 30 := ⟨RX7, TX7, 50, rfl, tbm (i := 1087) (by decide +kernel) (by decide +kernel), by decide⟩
theorem fl_X7_74 : FLk RX7 74 7 31 := ⟨RX7, TX7, 50, rfl, tbm (i := 1088) (by decide +kernel) (by decide +kernel), by decide⟩
theorem fl_X7_77 : FLk RX7 77 7 32 := ⟨RX7, TX7, 50, rfl, tbm (i := 1089) (by decide +kernel) (by decide +kernel), by decide⟩
theorem fl_X7_80 : FLk RX7 80 7 33 := ⟨RX7, TX7, 50, rfl, tbm (i := 1090) (by decide +kernel) (by decide +kernel), by decide⟩
theorem fl_X7_83 : FLk RX7 83 7 34 := ⟨RX7, TX7, 50, rfl, tbm (i := 1091) (by decide +kernel) (by decide +kernel), by decide⟩
theorem fl_X7_86 : FLk RX7 86 7 35 := ⟨RX7, TX7, 50, rfl, tbm (i := 1092) (by decide +kernel) (by decide +kernel), by decide⟩
theorem fl_X7_89 : FLk RX7 89 7 37 := ⟨RX7, TX7, 50, rfl, tbm (i := 1094) (by decide +kernel) (by decide +kernel), by decide⟩
theorem fl_X7_92 : FLk RX7 92 7 38 := ⟨RX7, TX7, 50, rfl, tbm (i := 1095) (by decide +kernel) (by decide +kernel), by decide⟩
theorem fl_X7_95 : FLk RX7 95 7 39 := ⟨RX7, TX7, 50, rfl, tbm (i := 1096) (by decide +kernel) (by decide +kernel), by decide⟩
theorem fl_X7_98 : FLk RX7 98 7 41 := ⟨RX7, TX7, 50, rfl, tbm (i := 1098) (by decide +kernel) (by decide +kernel), by decide⟩
theorem fl_X7_101 : FLk RX7 101 7 42 := ⟨RX7, TX7, 50, rfl, tbm (i := 1099) (by decide +kernel) (by decide +kernel), by decide⟩
theorem fl_X7_104 : FLk RX7 104 7 43 := ⟨RX7, TX7, 50, rfl, tbm (i := 1100) (by decide +kernel) (by decide +kernel), by decide⟩
theorem fl_X7_107 : FLk RX7 107 7 44 := ⟨RX7, TX7, 50, rfl, tbm (i := 1101) (by decide +kernel) (by decide +kernel), by decide⟩
theorem fl_X7_110 : FLk RX7 110 7 45 := ⟨RX7, TX7, 50, rfl, tbm (i := 1102) (by decide +kernel) (by decide +kernel), by decide⟩
theorem fl_X7_113 : FLk RX7 113 7 48 := ⟨RX7, TX7, 50, rfl, tbm (i := 1105) (by decide +kernel) (by decide +kernel), by decide⟩
theorem fl_X7_116 : FLk RX7 116 7 20 := ⟨RX7, TX7, 50, rfl, tbm (i := 1077) (by decide +kernel) (by decide +kernel), by decide⟩
theorem fl_X7_119 : FLk RX7 119 7 19 := ⟨RX7, TX7, 50, rfl, tbm (i := 1076) (by decide +kernel) (by decide +kernel), by decide⟩
theorem fl_X7_122 : FLk RX7 122 7 17 := ⟨RX7, TX7, 50, rfl, tbm (i := 1074) (by decide +kernel) (by decide +kernel), by decide⟩
theorem fl_X7_129 : FLk RX7 129 7 9 := ⟨RX7, TX7, 50, rfl, tbm (i := 1066) (by decide +kernel) (by decide +kernel), by decide⟩
theorem fl_X7_138 : FLk RX7 138 7 26 := ⟨RX7, TX7, 50, rfl, tbm (i := 1083) (by decide +kernel) (by decide +kernel), by decide⟩
theorem fl_X7_141 : FLk RX7 141 7 27 := ⟨RX7, TX7, 50, rfl, tbm (i := 1084) (by decide +kernel) (by decide +kernel), by decide⟩
theorem fl_X7_144 : FLk RX7 144 7 28 := ⟨RX7, TX7, 50, rfl, tbm (i := 1085) (by decide +kernel) (by decide +kernel), by decide⟩
theorem fl_X7_147 : FLk RX7 147 7 25 := ⟨RX7, TX7, 50, rfl, tbm (i := 1082) (by decide +kernel) (by decide +kernel), by decide⟩
theorem fl_X7_192 : FLk RX7 192 7 13 := ⟨RX7, TX7, 50, rfl, tbm (i := 1070) (by decide +kernel) (by decide +kernel), by decide⟩
theorem fl_X7_197 : FLk RX7 197 7 11 := ⟨RX7, TX7, 50, rfl, tbm (i := 1068) (by decide +kernel) (by decide +kernel), by decide⟩
theorem fl_X7_239 : FLk RX7 239 7 36 := ⟨RX7, TX7, 50, rfl, tbm (i := 1093) (by decide +kernel) (by decide +kernel), by decide⟩
theorem fl_X7_258 : FLk RX7 258 7 40 := ⟨RX7, TX7, 50, rfl, tbm (i := 1097) (by decide +kernel) (by decide +kernel), by decide⟩
theorem fl_X7_282 : FLk RX7 282 7 12 := ⟨RX7, TX7, 50, rfl, tbm (i := 1069) (by decide +kernel) (by decide +kernel), by decide⟩
theorem fl_X7_287 : FLk RX7 287 7 46 := ⟨RX7, TX7, 50, rfl, tbm (i := 1103) (by decide +kernel) (by decide +kernel), by decide⟩
theorem fl_X7_310 : FLk RX7 310 7 47 := ⟨RX7, TX7, 50, rfl, tbm (i := 1104) (by decide +kernel) (by decide +kernel), by decide⟩
theorem fl_X7_338 : FLk RX7 338 7 49 := ⟨RX7, TX7, 50, rfl, tbm (i := 1106) (by decide +kernel) (by decide +kernel), by decide⟩
theorem lk_X6_37 : Cond.methodLink RX6 37 yX5_addsFour ∈ TB := tbm (i := 383) (by decide +kernel) (by decide +kernel)
theorem lk_X6_45 : Cond.methodLink RX6 45 yX5_readsLines ∈ TB := tbm (i := 395) (by decide +kernel) (by decide +kernel)
theorem lk_X6_52 : Cond.methodLink RX6 52 yX2_replaceLines ∈ TB := tbm (i := 465) (by decide +kernel) (by decide +kernel)
theorem lk_X6_59 : Cond.methodLink RX6 59 yX5_readsOneLine ∈ TB := tbm (i := 473) (by decide +kernel) (by decide +kernel)
theorem lk_X6_62 : Cond.methodLink RX6 62 yX2_appendLines ∈ TB := tbm (i := 477) (by decide +kernel) (by decide +kernel)
theorem lk_X6_65 : Cond.methodLink RX6 65 yX2_hasLine ∈ TB := tbm (i := 485) (by decide +kernel) (by decide +kernel)
theorem lk_X6_68 : Cond.methodLink RX6 68 yX2_removeLine ∈ TB := tbm (i := 489) (by decide +kernel) (by decide +kernel)
theorem lk_X6_75 : Cond.methodLink RX6 75 yX6_isStop ∈ TB := tbm (i := 501) (by decide +kernel) (by decide +kernel)
theorem lk_X6_100 : Cond.methodLink RX6 100 yX2_outLines ∈ TB := tbm (i := 512) (by decide +kernel) (by decide +kernel)
theorem lk_X6_104 : Cond.methodLink RX6 104 yJ6_bitCount_0f7a4 ∈ TB := tbm (i := 519) (by decide +kernel) (by decide +kernel)
theorem lk_X6_113 : Cond.methodLink RX6 113 yX2_closedStops ∈ TB := tbm (i := 529) (by decide +kernel) (by decide +kernel)
theorem lk_X6_128 : Cond.methodLink RX6 128 yX6_bit ∈ TB := tbm (i := 541) (by decide +kernel) (by decide +kernel)
theorem lk_X6_132 : Cond.methodLink RX6 132 yX2_hasHalt ∈ TB := tbm (i := 546) (by decide +kernel) (by decide +kernel)
theorem lk_X6_136 : Cond.methodLink RX6 136 yX3_empty ∈ TB := tbm (i := 555) (by decide +kernel) (by decide +kernel)
theorem lk_X6_139 : Cond.methodLink RX6 139 yX1_isStep ∈ TB := tbm (i := 559) (by decide +kernel) (by decide +kernel)
theorem lk_X6_146 : Cond.methodLink RX6 146 yX3_put ∈ TB := tbm (i := 563) (by decide +kernel) (by decide +kernel)
theorem lk_X6_155 : Cond.methodLink RX6 155 yX2_findCosts ∈ TB := tbm (i := 571) (by decide +kernel) (by decide +kernel)
theorem lk_X6_167 : Cond.methodLink RX6 167 yX3_putTwo ∈ TB := tbm (i := 611) (by decide +kernel) (by decide +kernel)
theorem lk_X6_172 : Cond.methodLink RX6 172 yX2_stopsWithin ∈ TB := tbm (i := 622) (by decide +kernel) (by decide +kernel)
theorem lk_X6_175 : Cond.methodLink RX6 175 yX3_putOne ∈ TB := tbm (i := 626) (by decide +kernel) (by decide +kernel)
theorem lk_X6_183 : Cond.methodLink RX6 183 yX4_takenLines ∈ TB := tbm (i := 634) (by decide +kernel) (by decide +kernel)
theorem lk_X6_186 : Cond.methodLink RX6 186 yX2_hasStep ∈ TB := tbm (i := 642) (by decide +kernel) (by decide +kernel)
theorem lk_X6_192 : Cond.methodLink RX6 192 yX2_isTaken ∈ TB := tbm (i := 647) (by decide +kernel) (by decide +kernel)
theorem lk_X6_202 : Cond.methodLink RX6 202 yX2_waitingWeight ∈ TB := tbm (i := 668) (by decide +kernel) (by decide +kernel)
theorem lk_X6_206 : Cond.methodLink RX6 206 yX6_parts ∈ TB := tbm (i := 669) (by decide +kernel) (by decide +kernel)
theorem lk_X6_210 : Cond.methodLink RX6 210 yX2_findBoards ∈ TB := tbm (i := 674) (by decide +kernel) (by decide +kernel)
theorem lk_X6_216 : Cond.methodLink RX6 216 yX2_findLoads ∈ TB := tbm (i := 707) (by decide +kernel) (by decide +kernel)
theorem lk_X6_225 : Cond.methodLink RX6 225 yX1_fullestStep ∈ TB := tbm (i := 744) (by decide +kernel) (by decide +kernel)
theorem lk_X6_228 : Cond.methodLink RX6 228 yX1_allEntering ∈ TB := tbm (i := 748) (by decide +kernel) (by decide +kernel)
theorem lk_X6_237 : Cond.methodLink RX6 237 yX2_findTotal ∈ TB := tbm (i := 760) (by decide +kernel) (by decide +kernel)
theorem lk_X6_240 : Cond.methodLink RX6 240 yX2_spreadLoads ∈ TB := tbm (i := 764) (by decide +kernel) (by decide +kernel)
theorem lk_X6_247 : Cond.methodLink RX6 247 yX2_ridingPoints ∈ TB := tbm (i := 765) (by decide +kernel) (by decide +kernel)
theorem lk_X6_253 : Cond.methodLink RX6 253 yX2_changing ∈ TB := tbm (i := 778) (by decide +kernel) (by decide +kernel)
theorem lk_X6_259 : Cond.methodLink RX6 259 yX2_settleOnce ∈ TB := tbm (i := 794) (by decide +kernel) (by decide +kernel)
theorem lk_X6_268 : Cond.methodLink RX6 268 yX2_forgetCrowds ∈ TB := tbm (i := 823) (by decide +kernel) (by decide +kernel)
theorem lk_X6_275 : Cond.methodLink RX6 275 yX6_totalNow ∈ TB := tbm (i := 833) (by decide +kernel) (by decide +kernel)
theorem lk_X6_278 : Cond.methodLink RX6 278 yX6_tellDifference ∈ TB := tbm (i := 837) (by decide +kernel) (by decide +kernel)
theorem lk_X6_282 : Cond.methodLink RX6 282 yX6_canBeMore ∈ TB := tbm (i := 849) (by decide +kernel) (by decide +kernel)
theorem lk_X6_286 : Cond.methodLink RX6 286 yX6_findTotalWithMore ∈ TB := tbm (i := 852) (by decide +kernel) (by decide +kernel)
theorem lk_X6_290 : Cond.methodLink RX6 290 yX6_findTotalTowards ∈ TB := tbm (i := 864) (by decide +kernel) (by decide +kernel)
theorem lk_X6_295 : Cond.methodLink RX6 295 yX2_findTotalSkipping ∈ TB := tbm (i := 877) (by decide +kernel) (by decide +kernel)
theorem lk_X6_298 : Cond.methodLink RX6 298 yX2_spreadLoadsOf ∈ TB := tbm (i := 894) (by decide +kernel) (by decide +kernel)
theorem lk_X6_302 : Cond.methodLink RX6 302 yX2_bringBack ∈ TB := tbm (i := 906) (by decide +kernel) (by decide +kernel)
theorem lk_X6_305 : Cond.methodLink RX6 305 yX6_isStart ∈ TB := tbm (i := 918) (by decide +kernel) (by decide +kernel)
theorem lk_X6_308 : Cond.methodLink RX6 308 yX1_firstAt ∈ TB := tbm (i := 922) (by decide +kernel) (by decide +kernel)
theorem lk_X6_312 : Cond.methodLink RX6 312 yX0_takes ∈ TB := tbm (i := 935) (by decide +kernel) (by decide +kernel)
theorem lk_X6_321 : Cond.methodLink RX6 321 yJ9_min_7cf53 ∈ TB := tbm (i := 954) (by decide +kernel) (by decide +kernel)
theorem lk_X6_326 : Cond.methodLink RX6 326 yJ9_max_7cf53 ∈ TB := tbm (i := 957) (by decide +kernel) (by decide +kernel)
theorem lk_X6_329 : Cond.methodLink RX6 329 yX2_allRiders ∈ TB := tbm (i := 964) (by decide +kernel) (by decide +kernel)
theorem lk_X6_332 : Cond.methodLink RX6 332 yX2_allSteps ∈ TB := tbm (i := 968) (by decide +kernel) (by decide +kernel)
theorem lk_X6_338 : Cond.methodLink RX6 338 yX2_linesInNoSet ∈ TB := tbm (i := 972) (by decide +kernel) (by decide +kernel)
theorem lk_X0_30 : Cond.methodLink RX0 30 yX0_firstOf ∈ TB := tbm (i := 939) (by decide +kernel) (by decide +kernel)
theorem lk_X0_43 : Cond.methodLink RX0 43 yX1_leftFrom ∈ TB := tbm (i := 944) (by decide +kernel) (by decide +kernel)
theorem lk_X0_49 : Cond.methodLink RX0 49 yX1_firstAt ∈ TB := tbm (i := 943) (by decide +kernel) (by decide +kernel)
theorem lk_X0_53 : Cond.methodLink RX0 53 yX1_timeBetween ∈ TB := tbm (i := 945) (by decide +kernel) (by decide +kernel)
theorem lk_X0_57 : Cond.methodLink RX0 57 yX0_keepRide ∈ TB := tbm (i := 946) (by decide +kernel) (by decide +kernel)
theorem lk_X1_60 : Cond.methodLink RX1 60 yX1_renew ∈ TB := tbm (i := 459) (by decide +kernel) (by decide +kernel)
theorem lk_X1_64 : Cond.methodLink RX1 64 yX1_lead ∈ TB := tbm (i := 460) (by decide +kernel) (by decide +kernel)
theorem lk_X1_68 : Cond.methodLink RX1 68 yX1_time ∈ TB := tbm (i := 587) (by decide +kernel) (by decide +kernel)
theorem lk_X1_77 : Cond.methodLink RX1 77 yJ9_abs_0f7a4 ∈ TB := tbm (i := 803) (by decide +kernel) (by decide +kernel)
theorem lk_X1_88 : Cond.methodLink RX1 88 yJ9_min_f86c9 ∈ TB := tbm (i := 808) (by decide +kernel) (by decide +kernel)
theorem lk_X1_91 : Cond.methodLink RX1 91 yX1_timeBetween ∈ TB := tbm (i := 926) (by decide +kernel) (by decide +kernel)
theorem lk_X2_44 : Cond.methodLink RX2 44 yX2_hasLine ∈ TB := tbm (i := 550) (by decide +kernel) (by decide +kernel)
theorem lk_X2_48 : Cond.methodLink RX2 48 yX1_isHalt ∈ TB := tbm (i := 551) (by decide +kernel) (by decide +kernel)
theorem lk_X2_51 : Cond.methodLink RX2 51 yX1_isStep ∈ TB := tbm (i := 646) (by decide +kernel) (by decide +kernel)
theorem lk_X2_91 : Cond.methodLink RX2 91 yX2_collectOffers ∈ TB := tbm (i := 575) (by decide +kernel) (by decide +kernel)
theorem lk_X2_94 : Cond.methodLink RX2 94 yX2_chooseAll ∈ TB := tbm (i := 595) (by decide +kernel) (by decide +kernel)
theorem lk_X2_98 : Cond.methodLink RX2 98 yX4_forgetOffers ∈ TB := tbm (i := 579) (by decide +kernel) (by decide +kernel)
theorem lk_X2_101 : Cond.methodLink RX2 101 yX1_findRides ∈ TB := tbm (i := 583) (by decide +kernel) (by decide +kernel)
theorem lk_X2_110 : Cond.methodLink RX2 110 yX4_offer ∈ TB := tbm (i := 591) (by decide +kernel) (by decide +kernel)
theorem lk_X2_114 : Cond.methodLink RX2 114 yX2_waitingWeight ∈ TB := tbm (i := 599) (by decide +kernel) (by decide +kernel)
theorem lk_X2_118 : Cond.methodLink RX2 118 yX4_choose ∈ TB := tbm (i := 604) (by decide +kernel) (by decide +kernel)
theorem lk_X2_122 : Cond.methodLink RX2 122 yX4_takes ∈ TB := tbm (i := 651) (by decide +kernel) (by decide +kernel)
theorem lk_X2_125 : Cond.methodLink RX2 125 yX4_takenLines ∈ TB := tbm (i := 976) (by decide +kernel) (by decide +kernel)
theorem lk_X2_132 : Cond.methodLink RX2 132 yX2_orderStops ∈ TB := tbm (i := 678) (by decide +kernel) (by decide +kernel)
theorem lk_X2_138 : Cond.methodLink RX2 138 yX2_boardsBySet ∈ TB := tbm (i := 682) (by decide +kernel) (by decide +kernel)
theorem lk_X2_150 : Cond.methodLink RX2 150 yX1_leftFrom ∈ TB := tbm (i := 686) (by decide +kernel) (by decide +kernel)
theorem lk_X2_164 : Cond.methodLink RX2 164 yX2_findCosts ∈ TB := tbm (i := 711) (by decide +kernel) (by decide +kernel)
theorem lk_X2_167 : Cond.methodLink RX2 167 yX2_spreadLoads ∈ TB := tbm (i := 712) (by decide +kernel) (by decide +kernel)
theorem lk_X2_170 : Cond.methodLink RX2 170 yX1_forgetLoads ∈ TB := tbm (i := 716) (by decide +kernel) (by decide +kernel)
theorem lk_X2_176 : Cond.methodLink RX2 176 yX2_boardAll ∈ TB := tbm (i := 720) (by decide +kernel) (by decide +kernel)
theorem lk_X2_180 : Cond.methodLink RX2 180 yX2_shareOf ∈ TB := tbm (i := 724) (by decide +kernel) (by decide +kernel)
theorem lk_X2_184 : Cond.methodLink RX2 184 yX2_carry ∈ TB := tbm (i := 728) (by decide +kernel) (by decide +kernel)
theorem lk_X2_188 : Cond.methodLink RX2 188 yX1_carry ∈ TB := tbm (i := 732) (by decide +kernel) (by decide +kernel)
theorem lk_X2_196 : Cond.methodLink RX2 196 yX1_time ∈ TB := tbm (i := 769) (by decide +kernel) (by decide +kernel)
theorem lk_X2_206 : Cond.methodLink RX2 206 yX1_copyWay ∈ TB := tbm (i := 881) (by decide +kernel) (by decide +kernel)
theorem lk_X2_210 : Cond.methodLink RX2 210 yX1_omit ∈ TB := tbm (i := 885) (by decide +kernel) (by decide +kernel)
theorem lk_X2_214 : Cond.methodLink RX2 214 yX2_findTotal ∈ TB := tbm (i := 889) (by decide +kernel) (by decide +kernel)
theorem lk_X2_217 : Cond.methodLink RX2 217 yX2_findLoads ∈ TB := tbm (i := 798) (by decide +kernel) (by decide +kernel)
theorem lk_X2_223 : Cond.methodLink RX2 223 yX1_averageLoads ∈ TB := tbm (i := 799) (by decide +kernel) (by decide +kernel)
theorem lk_X3_19 : Cond.methodLink RX3 19 yX3_empty ∈ TB := tbm (i := 615) (by decide +kernel) (by decide +kernel)
theorem lk_X3_22 : Cond.methodLink RX3 22 yX3_put ∈ TB := tbm (i := 616) (by decide +kernel) (by decide +kernel)
theorem lk_X4_43 : Cond.methodLink RX4 43 yX4_takenLines ∈ TB := tbm (i := 655) (by decide +kernel) (by decide +kernel)
theorem lk_X5_27 : Cond.methodLink RX5 27 yX5_begin ∈ TB := tbm (i := 399) (by decide +kernel) (by decide +kernel)
theorem lk_X5_30 : Cond.methodLink RX5 30 yX5_readsLine ∈ TB := tbm (i := 403) (by decide +kernel) (by decide +kernel)
theorem lk_X5_34 : Cond.methodLink RX5 34 yX5_isNext ∈ TB := tbm (i := 419) (by decide +kernel) (by decide +kernel)
theorem lk_X5_41 : Cond.methodLink RX5 41 yX5_readsEnd ∈ TB := tbm (i := 461) (by decide +kernel) (by decide +kernel)
theorem lk_X5_51 : Cond.methodLink RX5 51 yX5_fails ∈ TB := tbm (i := 407) (by decide +kernel) (by decide +kernel)
theorem lk_X5_54 : Cond.methodLink RX5 54 yX5_isDigitNext ∈ TB := tbm (i := 415) (by decide +kernel) (by decide +kernel)
theorem lk_X5_60 : Cond.methodLink RX5 60 yX1_goesTo ∈ TB := tbm (i := 439) (by decide +kernel) (by decide +kernel)
theorem lk_X5_65 : Cond.methodLink RX5 65 yX1_lead ∈ TB := tbm (i := 443) (by decide +kernel) (by decide +kernel)
theorem lk_X5_69 : Cond.methodLink RX5 69 yX5_readsSign ∈ TB := tbm (i := 423) (by decide +kernel) (by decide +kernel)
theorem lk_X5_72 : Cond.methodLink RX5 72 yX5_readsNumber ∈ TB := tbm (i := 411) (by decide +kernel) (by decide +kernel)
theorem lk_X5_75 : Cond.methodLink RX5 75 yX5_readsStop ∈ TB := tbm (i := 435) (by decide +kernel) (by decide +kernel)
theorem lk_X5_79 : Cond.methodLink RX5 79 yX1_renew ∈ TB := tbm (i := 427) (by decide +kernel) (by decide +kernel)
theorem lk_X5_83 : Cond.methodLink RX5 83 yX5_readsWay ∈ TB := tbm (i := 431) (by decide +kernel) (by decide +kernel)
theorem lk_X5_87 : Cond.methodLink RX5 87 yX5_keep ∈ TB := tbm (i := 451) (by decide +kernel) (by decide +kernel)
theorem lk_X5_91 : Cond.methodLink RX5 91 yX5_readsStep ∈ TB := tbm (i := 447) (by decide +kernel) (by decide +kernel)
theorem lk_X5_94 : Cond.methodLink RX5 94 yX1_becomeReturnOf ∈ TB := tbm (i := 455) (by decide +kernel) (by decide +kernel)
theorem lk_X7_125 : Cond.methodLink RX7 125 yX7_in ∈ TB := tbm (i := 1220) (by decide +kernel) (by decide +kernel)
theorem lk_X7_134 : Cond.methodLink RX7 134 yX7_isLine ∈ TB := tbm (i := 1280) (by decide +kernel) (by decide +kernel)
theorem lk_X7_150 : Cond.methodLink RX7 150 yX7_sees ∈ TB := tbm (i := 1243) (by decide +kernel) (by decide +kernel)
theorem lk_X7_158 : Cond.methodLink RX7 158 yX7_fault ∈ TB := tbm (i := 1235) (by decide +kernel) (by decide +kernel)
theorem lk_X7_162 : Cond.methodLink RX7 162 yX7_isStop ∈ TB := tbm (i := 1257) (by decide +kernel) (by decide +kernel)
theorem lk_X7_165 : Cond.methodLink RX7 165 yX7_at ∈ TB := tbm (i := 1261) (by decide +kernel) (by decide +kernel)
theorem lk_X7_169 : Cond.methodLink RX7 169 yX7_readNumber ∈ TB := tbm (i := 1239) (by decide +kernel) (by decide +kernel)
theorem lk_X7_173 : Cond.methodLink RX7 173 yX7_expect ∈ TB := tbm (i := 1249) (by decide +kernel) (by decide +kernel)
theorem lk_X7_177 : Cond.methodLink RX7 177 yX7_readStop ∈ TB := tbm (i := 1253) (by decide +kernel) (by decide +kernel)
theorem lk_X7_180 : Cond.methodLink RX7 180 yX7_readsBack ∈ TB := tbm (i := 1264) (by decide +kernel) (by decide +kernel)
theorem lk_X7_183 : Cond.methodLink RX7 183 yX7_begin ∈ TB := tbm (i := 1227) (by decide +kernel) (by decide +kernel)
theorem lk_X7_186 : Cond.methodLink RX7 186 yX7_readLine ∈ TB := tbm (i := 1231) (by decide +kernel) (by decide +kernel)
theorem lk_X7_189 : Cond.methodLink RX7 189 yX7_takesRead ∈ TB := tbm (i := 1268) (by decide +kernel) (by decide +kernel)
theorem lk_X7_202 : Cond.methodLink RX7 202 yX7_outMany ∈ TB := tbm (i := 1302) (by decide +kernel) (by decide +kernel)
theorem lk_X7_207 : Cond.methodLink RX7 207 yX7_isHalt ∈ TB := tbm (i := 1323) (by decide +kernel) (by decide +kernel)
theorem lk_X7_211 : Cond.methodLink RX7 211 yX7_tell ∈ TB := tbm (i := 1327) (by decide +kernel) (by decide +kernel)
theorem lk_X7_217 : Cond.methodLink RX7 217 yX7_time ∈ TB := tbm (i := 1352) (by decide +kernel) (by decide +kernel)
theorem lk_X7_221 : Cond.methodLink RX7 221 yX7_boardingAt ∈ TB := tbm (i := 1348) (by decide +kernel) (by decide +kernel)
theorem lk_X7_224 : Cond.methodLink RX7 224 yX7_placeOf ∈ TB := tbm (i := 1368) (by decide +kernel) (by decide +kernel)
theorem lk_X7_227 : Cond.methodLink RX7 227 yX7_boardable ∈ TB := tbm (i := 1364) (by decide +kernel) (by decide +kernel)
theorem lk_X7_230 : Cond.methodLink RX7 230 yX7_nextLine ∈ TB := tbm (i := 1360) (by decide +kernel) (by decide +kernel)
theorem lk_X7_233 : Cond.methodLink RX7 233 yX7_laysAboard ∈ TB := tbm (i := 1344) (by decide +kernel) (by decide +kernel)
theorem lk_X7_236 : Cond.methodLink RX7 236 yX7_laysSet ∈ TB := tbm (i := 1356) (by decide +kernel) (by decide +kernel)
theorem lk_X7_242 : Cond.methodLink RX7 242 yX7_isRoundDone ∈ TB := tbm (i := 1340) (by decide +kernel) (by decide +kernel)
theorem lk_X7_246 : Cond.methodLink RX7 246 yX7_laysCosts ∈ TB := tbm (i := 1335) (by decide +kernel) (by decide +kernel)
theorem lk_X7_249 : Cond.methodLink RX7 249 yX7_costed ∈ TB := tbm (i := 1376) (by decide +kernel) (by decide +kernel)
theorem lk_X7_252 : Cond.methodLink RX7 252 yX7_isStep ∈ TB := tbm (i := 1388) (by decide +kernel) (by decide +kernel)
theorem lk_X7_255 : Cond.methodLink RX7 255 yX7_isInSet ∈ TB := tbm (i := 1392) (by decide +kernel) (by decide +kernel)
theorem lk_X7_261 : Cond.methodLink RX7 261 yX7_laysOrder ∈ TB := tbm (i := 1412) (by decide +kernel) (by decide +kernel)
theorem lk_X7_266 : Cond.methodLink RX7 266 yX7_leaves ∈ TB := tbm (i := 1417) (by decide +kernel) (by decide +kernel)
theorem lk_X7_269 : Cond.methodLink RX7 269 yX7_passesOn ∈ TB := tbm (i := 1441) (by decide +kernel) (by decide +kernel)
theorem lk_X7_272 : Cond.methodLink RX7 272 yX7_laysLoads ∈ TB := tbm (i := 1437) (by decide +kernel) (by decide +kernel)
theorem lk_X7_275 : Cond.methodLink RX7 275 yX7_strandedNow ∈ TB := tbm (i := 1461) (by decide +kernel) (by decide +kernel)
theorem lk_X7_279 : Cond.methodLink RX7 279 yX7_totalNow ∈ TB := tbm (i := 1465) (by decide +kernel) (by decide +kernel)
theorem lk_X7_291 : Cond.methodLink RX7 291 yJ9_abs_067f4 ∈ TB := tbm (i := 1495) (by decide +kernel) (by decide +kernel)
theorem lk_X7_299 : Cond.methodLink RX7 299 yJ9_min_f86c9 ∈ TB := tbm (i := 1499) (by decide +kernel) (by decide +kernel)
theorem lk_X7_305 : Cond.methodLink RX7 305 yX7_settlesOnce ∈ TB := tbm (i := 1491) (by decide +kernel) (by decide +kernel)
theorem lk_X7_315 : Cond.methodLink RX7 315 yX7_before ∈ TB := tbm (i := 1518) (by decide +kernel) (by decide +kernel)
theorem lk_X7_318 : Cond.methodLink RX7 318 yX7_tells ∈ TB := tbm (i := 1522) (by decide +kernel) (by decide +kernel)
theorem lk_X7_325 : Cond.methodLink RX7 325 yX7_totalWith ∈ TB := tbm (i := 1536) (by decide +kernel) (by decide +kernel)
theorem lk_X7_334 : Cond.methodLink RX7 334 yX7_comesAt ∈ TB := tbm (i := 1577) (by decide +kernel) (by decide +kernel)
theorem lk_X7_341 : Cond.methodLink RX7 341 yX7_goes ∈ TB := tbm (i := 1587) (by decide +kernel) (by decide +kernel)
theorem lk_X7_349 : Cond.methodLink RX7 349 yJ9_max_f86c9 ∈ TB := tbm (i := 1596) (by decide +kernel) (by decide +kernel)
theorem lk_X7_352 : Cond.methodLink RX7 352 yX7_ridersMany ∈ TB := tbm (i := 1603) (by decide +kernel) (by decide +kernel)
theorem lk_X7_355 : Cond.methodLink RX7 355 yX7_stepMany ∈ TB := tbm (i := 1607) (by decide +kernel) (by decide +kernel)
theorem lk_X7_358 : Cond.methodLink RX7 358 yX7_closedBits ∈ TB := tbm (i := 1611) (by decide +kernel) (by decide +kernel)
theorem lk_X7_361 : Cond.methodLink RX7 361 yX7_outBits ∈ TB := tbm (i := 1615) (by decide +kernel) (by decide +kernel)
theorem lk_X7_364 : Cond.methodLink RX7 364 yX7_unusedBits ∈ TB := tbm (i := 1619) (by decide +kernel) (by decide +kernel)
theorem lk_X7_367 : Cond.methodLink RX7 367 yX7_costedBits ∈ TB := tbm (i := 1623) (by decide +kernel) (by decide +kernel)
theorem lk_X7_370 : Cond.methodLink RX7 370 yX7_lost ∈ TB := tbm (i := 1631) (by decide +kernel) (by decide +kernel)
theorem nk_X1_82 : Cond.methodLinkNest RX1 82 yX6_parts RX6 ∈ nestL := by simp [nestL]
theorem nk_X2_70 : Cond.methodLinkNest RX2 70 yX6_bit RX6 ∈ nestL := by simp [nestL]
theorem nk_X2_160 : Cond.methodLinkNest RX2 160 yX6_parts RX6 ∈ nestL := by simp [nestL]
theorem nk_X4_34 : Cond.methodLinkNest RX4 34 yX6_parts RX6 ∈ nestL := by simp [nestL]
theorem meX6_bit : MeS yX6_bit cX6_bit 1 (some .int) 1 := ⟨⟨tbm (i := 518) (by decide +kernel) (by decide +kernel), tbm (i := 71) (by decide +kernel) (by decide +kernel), by decide +kernel, by decide +kernel, by decide +kernel⟩, tbm (i := 517) (by decide +kernel) (by decide +kernel)⟩
theorem meX6_canBeMore : MeS yX6_canBeMore cX6_canBeMore 3 (some .boolean) 2 := ⟨⟨tbm (i := 851) (by decide +kernel) (by decide +kernel), tbm (i := 71) (by decide +kernel) (by decide +kernel), by decide +kernel, by decide +kernel, by decide +kernel⟩, tbm (i := 850) (by decide +kernel) (by decide +kernel)⟩
theorem meX6_findTotalTowards : MeV yX6_findTotalTowards cX6_findTotalTowards 3 none 1 := ⟨⟨tbm (i := 867) (by decide +kernel) (by decide +kernel), tbm (i := 71) (by decide +kernel) (by decide +kernel), by decide +kernel, by decide +kernel, by decide +kernel⟩, tbm (i := 866) (by decide +kernel) (by decide +kernel), tbm (i := 22) (by decide +kernel) (by decide +kernel)⟩
theorem meX6_findTotalWithMore : MeV yX6_findTotalWithMore cX6_findTotalWithMore 3 none 2 := ⟨⟨tbm (i := 855) (by decide +kernel) (by decide +kernel), tbm (i := 71) (by decide +kernel) (by decide +kernel), by decide +kernel, by decide +kernel, by decide +kernel⟩, tbm (i := 854) (by decide +kernel) (by decide +kernel), tbm (i := 21) (by decide +kernel) (by decide +kernel)⟩
theorem meX6_isStart : MeS yX6_isStart cX6_isStart 1 (some .boolean) 1 := ⟨⟨tbm (i := 920) (by decide +kernel) (by decide +kernel), tbm (i := 71) (by decide +kernel) (by decide +kernel), by decide +kernel, by decide +kernel, by decide +kernel⟩, tbm (i := 919) (by decide +kernel) (by decide +kernel)⟩
theorem meX6_isStop : MeS yX6_isStop cX6_isStop 1 (some .boolean) 1 := ⟨⟨tbm (i := 503) (by decide +kernel) (by decide +kernel), tbm (i := 71) (by decide +kernel) (by decide +kernel), by decide +kernel, by decide +kernel, by decide +kernel⟩, tbm (i := 502) (by decide +kernel) (by decide +kernel)⟩
theorem meX6_parts : MeS yX6_parts cX6_parts 4 (some .long) 2 := ⟨⟨tbm (i := 610) (by decide +kernel) (by decide +kernel), tbm (i := 71) (by decide +kernel) (by decide +kernel), by decide +kernel, by decide +kernel, by decide +kernel⟩, tbm (i := 609) (by decide +kernel) (by decide +kernel)⟩
theorem meX6_tellDifference : MeV yX6_tellDifference cX6_tellDifference 3 (some .long) 1 := ⟨⟨tbm (i := 840) (by decide +kernel) (by decide +kernel), tbm (i := 71) (by decide +kernel) (by decide +kernel), by decide +kernel, by decide +kernel, by decide +kernel⟩, tbm (i := 839) (by decide +kernel) (by decide +kernel), tbm (i := 20) (by decide +kernel) (by decide +kernel)⟩
theorem meX6_totalNow : MeV yX6_totalNow cX6_totalNow 1 (some .long) 0 := ⟨⟨tbm (i := 836) (by decide +kernel) (by decide +kernel), tbm (i := 71) (by decide +kernel) (by decide +kernel), by decide +kernel, by decide +kernel, by decide +kernel⟩, tbm (i := 835) (by decide +kernel) (by decide +kernel), tbm (i := 19) (by decide +kernel) (by decide +kernel)⟩
theorem meX0_firstOf : MeV yX0_firstOf cX0_firstOf 8 (some .int) 3 := ⟨⟨tbm (i := 942) (by decide +kernel) (by decide +kernel), tbm (i := 77) (by decide +kernel) (by decide +kernel), by decide +kernel, by decide +kernel, by decide +kernel⟩, tbm (i := 941) (by decide +kernel) (by decide +kernel), tbm (i := 23) (by decide +kernel) (by decide +kernel)⟩
theorem meX0_keepRide : MeV yX0_keepRide cX0_keepRide 3 none 2 := ⟨⟨tbm (i := 949) (by decide +kernel) (by decide +kernel), tbm (i := 77) (by decide +kernel) (by decide +kernel), by decide +kernel, by decide +kernel, by decide +kernel⟩, tbm (i := 948) (by decide +kernel) (by decide +kernel), tbm (i := 24) (by decide +kernel) (by decide +kernel)⟩
theorem meX0_takes : MeV yX0_takes cX0_takes 12 (some .int) 3 := ⟨⟨tbm (i := 938) (by decide +kernel) (by decide +kernel), tbm (i := 77) (by decide +kernel) (by decide +kernel), by decide +kernel, by decide +kernel, by decide +kernel⟩, tbm (i := 936) (by decide +kernel) (by decide +kernel), tbm (i := 937) (by decide +kernel) (by decide +kernel)⟩
theorem meX1_allEntering : MeV yX1_allEntering cX1_allEntering 3 (some .int) 0 := ⟨⟨tbm (i := 751) (by decide +kernel) (by decide +kernel), tbm (i := 73) (by decide +kernel) (by decide +kernel), by decide +kernel, by decide +kernel, by decide +kernel⟩, tbm (i := 749) (by decide +kernel) (by decide +kernel), tbm (i := 750) (by decide +kernel) (by decide +kernel)⟩
theorem meX1_averageLoads : MeV yX1_averageLoads cX1_averageLoads 8 (some .int) 2 := ⟨⟨tbm (i := 802) (by decide +kernel) (by decide +kernel), tbm (i := 73) (by decide +kernel) (by decide +kernel), by decide +kernel, by decide +kernel, by decide +kernel⟩, tbm (i := 800) (by decide +kernel) (by decide +kernel), tbm (i := 801) (by decide +kernel) (by decide +kernel)⟩
theorem meX1_becomeReturnOf : MeV yX1_becomeReturnOf cX1_becomeReturnOf 3 none 1 := ⟨⟨tbm (i := 458) (by decide +kernel) (by decide +kernel), tbm (i := 73) (by decide +kernel) (by decide +kernel), by decide +kernel, by decide +kernel, by decide +kernel⟩, tbm (i := 456) (by decide +kernel) (by decide +kernel), tbm (i := 457) (by decide +kernel) (by decide +kernel)⟩
theorem meX1_carry : MeV yX1_carry cX1_carry 5 none 3 := ⟨⟨tbm (i := 735) (by decide +kernel) (by decide +kernel), tbm (i := 73) (by decide +kernel) (by decide +kernel), by decide +kernel, by decide +kernel, by decide +kernel⟩, tbm (i := 733) (by decide +kernel) (by decide +kernel), tbm (i := 734) (by decide +kernel) (by decide +kernel)⟩
theorem meX1_copyWay : MeV yX1_copyWay cX1_copyWay 3 none 1 := ⟨⟨tbm (i := 884) (by decide +kernel) (by decide +kernel), tbm (i := 73) (by decide +kernel) (by decide +kernel), by decide +kernel, by decide +kernel, by decide +kernel⟩, tbm (i := 882) (by decide +kernel) (by decide +kernel), tbm (i := 883) (by decide +kernel) (by decide +kernel)⟩
theorem meX1_findRides : MeV yX1_findRides cX1_findRides 7 none 1 := ⟨⟨tbm (i := 586) (by decide +kernel) (by decide +kernel), tbm (i := 73) (by decide +kernel) (by decide +kernel), by decide +kernel, by decide +kernel, by decide +kernel⟩, tbm (i := 584) (by decide +kernel) (by decide +kernel), tbm (i := 585) (by decide +kernel) (by decide +kernel)⟩
theorem meX1_firstAt : MeV yX1_firstAt cX1_firstAt 6 (some .int) 2 := ⟨⟨tbm (i := 925) (by decide +kernel) (by decide +kernel), tbm (i := 73) (by decide +kernel) (by decide +kernel), by decide +kernel, by decide +kernel, by decide +kernel⟩, tbm (i := 923) (by decide +kernel) (by decide +kernel), tbm (i := 924) (by decide +kernel) (by decide +kernel)⟩
theorem meX1_forgetLoads : MeV yX1_forgetLoads cX1_forgetLoads 2 none 0 := ⟨⟨tbm (i := 719) (by decide +kernel) (by decide +kernel), tbm (i := 73) (by decide +kernel) (by decide +kernel), by decide +kernel, by decide +kernel, by decide +kernel⟩, tbm (i := 717) (by decide +kernel) (by decide +kernel), tbm (i := 718) (by decide +kernel) (by decide +kernel)⟩
theorem meX1_fullestStep : MeV yX1_fullestStep cX1_fullestStep 3 (some .int) 0 := ⟨⟨tbm (i := 747) (by decide +kernel) (by decide +kernel), tbm (i := 73) (by decide +kernel) (by decide +kernel), by decide +kernel, by decide +kernel, by decide +kernel⟩, tbm (i := 745) (by decide +kernel) (by decide +kernel), tbm (i := 746) (by decide +kernel) (by decide +kernel)⟩
theorem meX1_goesTo : MeV yX1_goesTo cX1_goesTo 3 (some .boolean) 1 := ⟨⟨tbm (i := 442) (by decide +kernel) (by decide +kernel), tbm (i := 73) (by decide +kernel) (by decide +kernel), by decide +kernel, by decide +kernel, by decide +kernel⟩, tbm (i := 440) (by decide +kernel) (by decide +kernel), tbm (i := 441) (by decide +kernel) (by decide +kernel)⟩
theorem meX1_isHalt : MeV yX1_isHalt cX1_isHalt 2 (some .boolean) 1 := ⟨⟨tbm (i := 554) (by decide +kernel) (by decide +kernel), tbm (i := 73) (by decide +kernel) (by decide +kernel), by decide +kernel, by decide +kernel, by decide +kernel⟩, tbm (i := 552) (by decide +kernel) (by decide +kernel), tbm (i := 553) (by decide +kernel) (by decide +kernel)⟩
theorem meX1_isStep : MeV yX1_isStep cX1_isStep 2 (some .boolean) 1 := ⟨⟨tbm (i := 562) (by decide +kernel) (by decide +kernel), tbm (i := 73) (by decide +kernel) (by decide +kernel), by decide +kernel, by decide +kernel, by decide +kernel⟩, tbm (i := 560) (by decide +kernel) (by decide +kernel), tbm (i := 561) (by decide +kernel) (by decide +kernel)⟩
theorem meX1_lead : MeV yX1_lead cX1_lead 3 none 2 := ⟨⟨tbm (i := 446) (by decide +kernel) (by decide +kernel), tbm (i := 73) (by decide +kernel) (by decide +kernel), by decide +kernel, by decide +kernel, by decide +kernel⟩, tbm (i := 444) (by decide +kernel) (by decide +kernel), tbm (i := 445) (by decide +kernel) (by decide +kernel)⟩
theorem meX1_leftFrom : MeV yX1_leftFrom cX1_leftFrom 3 (some .int) 1 := ⟨⟨tbm (i := 689) (by decide +kernel) (by decide +kernel), tbm (i := 73) (by decide +kernel) (by decide +kernel), by decide +kernel, by decide +kernel, by decide +kernel⟩, tbm (i := 687) (by decide +kernel) (by decide +kernel), tbm (i := 688) (by decide +kernel) (by decide +kernel)⟩
theorem meX1_omit : MeV yX1_omit cX1_omit 3 none 1 := ⟨⟨tbm (i := 888) (by decide +kernel) (by decide +kernel), tbm (i := 73) (by decide +kernel) (by decide +kernel), by decide +kernel, by decide +kernel, by decide +kernel⟩, tbm (i := 886) (by decide +kernel) (by decide +kernel), tbm (i := 887) (by decide +kernel) (by decide +kernel)⟩
theorem meX1_renew : MeV yX1_renew cX1_renew 2 none 1 := ⟨⟨tbm (i := 430) (by decide +kernel) (by decide +kernel), tbm (i := 73) (by decide +kernel) (by decide +kernel), by decide +kernel, by decide +kernel, by decide +kernel⟩, tbm (i := 428) (by decide +kernel) (by decide +kernel), tbm (i := 429) (by decide +kernel) (by decide +kernel)⟩
theorem meX1_time : MeV yX1_time cX1_time 2 (some .int) 1 := ⟨⟨tbm (i := 590) (by decide +kernel) (by decide +kernel), tbm (i := 73) (by decide +kernel) (by decide +kernel), by decide +kernel, by decide +kernel, by decide +kernel⟩, tbm (i := 588) (by decide +kernel) (by decide +kernel), tbm (i := 589) (by decide +kernel) (by decide +kernel)⟩
theorem meX1_timeBetween : MeV yX1_timeBetween cX1_timeBetween 5 (some .int) 2 := ⟨⟨tbm (i := 929) (by decide +kernel) (by decide +kernel), tbm (i := 73) (by decide +kernel) (by decide +kernel), by decide +kernel, by decide +kernel, by decide +kernel⟩, tbm (i := 927) (by decide +kernel) (by decide +kernel), tbm (i := 928) (by decide +kernel) (by decide +kernel)⟩
theorem meX2_allRiders : MeV yX2_allRiders cX2_allRiders 3 (some .int) 0 := ⟨⟨tbm (i := 967) (by decide +kernel) (by decide +kernel), tbm (i := 74) (by decide +kernel) (by decide +kernel), by decide +kernel, by decide +kernel, by decide +kernel⟩, tbm (i := 965) (by decide +kernel) (by decide +kernel), tbm (i := 966) (by decide +kernel) (by decide +kernel)⟩
theorem meX2_allSteps : MeV yX2_allSteps cX2_allSteps 3 (some .int) 0 := ⟨⟨tbm (i := 971) (by decide +kernel) (by decide +kernel), tbm (i := 74) (by decide +kernel) (by decide +kernel), by decide +kernel, by decide +kernel, by decide +kernel⟩, tbm (i := 969) (by decide +kernel) (by decide +kernel), tbm (i := 970) (by decide +kernel) (by decide +kernel)⟩
theorem meX2_appendLines : MeV yX2_appendLines cX2_appendLines 4 none 1 := ⟨⟨tbm (i := 480) (by decide +kernel) (by decide +kernel), tbm (i := 74) (by decide +kernel) (by decide +kernel), by decide +kernel, by decide +kernel, by decide +kernel⟩, tbm (i := 478) (by decide +kernel) (by decide +kernel), tbm (i := 479) (by decide +kernel) (by decide +kernel)⟩
theorem meX2_boardAll : MeV yX2_boardAll cX2_boardAll 6 none 1 := ⟨⟨tbm (i := 723) (by decide +kernel) (by decide +kernel), tbm (i := 74) (by decide +kernel) (by decide +kernel), by decide +kernel, by decide +kernel, by decide +kernel⟩, tbm (i := 722) (by decide +kernel) (by decide +kernel), tbm (i := 16) (by decide +kernel) (by decide +kernel)⟩
theorem meX2_boardsBySet : MeV yX2_boardsBySet cX2_boardsBySet 7 (some .int) 1 := ⟨⟨tbm (i := 685) (by decide +kernel) (by decide +kernel), tbm (i := 74) (by decide +kernel) (by decide +kernel), by decide +kernel, by decide +kernel, by decide +kernel⟩, tbm (i := 684) (by decide +kernel) (by decide +kernel), tbm (i := 15) (by decide +kernel) (by decide +kernel)⟩
theorem meX2_bringBack : MeV yX2_bringBack cX2_bringBack 3 none 1 := ⟨⟨tbm (i := 909) (by decide +kernel) (by decide +kernel), tbm (i := 74) (by decide +kernel) (by decide +kernel), by decide +kernel, by decide +kernel, by decide +kernel⟩, tbm (i := 907) (by decide +kernel) (by decide +kernel), tbm (i := 908) (by decide +kernel) (by decide +kernel)⟩
theorem meX2_carry : MeV yX2_carry cX2_carry 5 none 3 := ⟨⟨tbm (i := 731) (by decide +kernel) (by decide +kernel), tbm (i := 74) (by decide +kernel) (by decide +kernel), by decide +kernel, by decide +kernel, by decide +kernel⟩, tbm (i := 730) (by decide +kernel) (by decide +kernel), tbm (i := 18) (by decide +kernel) (by decide +kernel)⟩
theorem meX2_changing : MeV yX2_changing cX2_changing 3 (some .int) 0 := ⟨⟨tbm (i := 781) (by decide +kernel) (by decide +kernel), tbm (i := 74) (by decide +kernel) (by decide +kernel), by decide +kernel, by decide +kernel, by decide +kernel⟩, tbm (i := 779) (by decide +kernel) (by decide +kernel), tbm (i := 780) (by decide +kernel) (by decide +kernel)⟩
theorem meX2_chooseAll : MeV yX2_chooseAll cX2_chooseAll 5 (some .boolean) 0 := ⟨⟨tbm (i := 598) (by decide +kernel) (by decide +kernel), tbm (i := 74) (by decide +kernel) (by decide +kernel), by decide +kernel, by decide +kernel, by decide +kernel⟩, tbm (i := 597) (by decide +kernel) (by decide +kernel), tbm (i := 13) (by decide +kernel) (by decide +kernel)⟩
theorem meX2_closedStops : MeV yX2_closedStops cX2_closedStops 3 (some .int) 0 := ⟨⟨tbm (i := 532) (by decide +kernel) (by decide +kernel), tbm (i := 74) (by decide +kernel) (by decide +kernel), by decide +kernel, by decide +kernel, by decide +kernel⟩, tbm (i := 530) (by decide +kernel) (by decide +kernel), tbm (i := 531) (by decide +kernel) (by decide +kernel)⟩
theorem meX2_collectOffers : MeV yX2_collectOffers cX2_collectOffers 5 none 0 := ⟨⟨tbm (i := 578) (by decide +kernel) (by decide +kernel), tbm (i := 74) (by decide +kernel) (by decide +kernel), by decide +kernel, by decide +kernel, by decide +kernel⟩, tbm (i := 577) (by decide +kernel) (by decide +kernel), tbm (i := 12) (by decide +kernel) (by decide +kernel)⟩
theorem meX2_findBoards : MeV yX2_findBoards cX2_findBoards 2 none 0 := ⟨⟨tbm (i := 677) (by decide +kernel) (by decide +kernel), tbm (i := 74) (by decide +kernel) (by decide +kernel), by decide +kernel, by decide +kernel, by decide +kernel⟩, tbm (i := 675) (by decide +kernel) (by decide +kernel), tbm (i := 676) (by decide +kernel) (by decide +kernel)⟩
theorem meX2_findCosts : MeV yX2_findCosts cX2_findCosts 2 none 0 := ⟨⟨tbm (i := 574) (by decide +kernel) (by decide +kernel), tbm (i := 74) (by decide +kernel) (by decide +kernel), by decide +kernel, by decide +kernel, by decide +kernel⟩, tbm (i := 572) (by decide +kernel) (by decide +kernel), tbm (i := 573) (by decide +kernel) (by decide +kernel)⟩
theorem meX2_findLoads : MeV yX2_findLoads cX2_findLoads 1 none 0 := ⟨⟨tbm (i := 710) (by decide +kernel) (by decide +kernel), tbm (i := 74) (by decide +kernel) (by decide +kernel), by decide +kernel, by decide +kernel, by decide +kernel⟩, tbm (i := 708) (by decide +kernel) (by decide +kernel), tbm (i := 709) (by decide +kernel) (by decide +kernel)⟩
theorem meX2_findTotal : MeV yX2_findTotal cX2_findTotal 3 none 0 := ⟨⟨tbm (i := 763) (by decide +kernel) (by decide +kernel), tbm (i := 74) (by decide +kernel) (by decide +kernel), by decide +kernel, by decide +kernel, by decide +kernel⟩, tbm (i := 761) (by decide +kernel) (by decide +kernel), tbm (i := 762) (by decide +kernel) (by decide +kernel)⟩
theorem meX2_findTotalSkipping : MeV yX2_findTotalSkipping cX2_findTotalSkipping 3 none 2 := ⟨⟨tbm (i := 880) (by decide +kernel) (by decide +kernel), tbm (i := 74) (by decide +kernel) (by decide +kernel), by decide +kernel, by decide +kernel, by decide +kernel⟩, tbm (i := 878) (by decide +kernel) (by decide +kernel), tbm (i := 879) (by decide +kernel) (by decide +kernel)⟩
theorem meX2_forgetCrowds : MeV yX2_forgetCrowds cX2_forgetCrowds 3 none 0 := ⟨⟨tbm (i := 826) (by decide +kernel) (by decide +kernel), tbm (i := 74) (by decide +kernel) (by decide +kernel), by decide +kernel, by decide +kernel, by decide +kernel⟩, tbm (i := 824) (by decide +kernel) (by decide +kernel), tbm (i := 825) (by decide +kernel) (by decide +kernel)⟩
theorem meX2_hasHalt : MeV yX2_hasHalt cX2_hasHalt 3 (some .boolean) 2 := ⟨⟨tbm (i := 549) (by decide +kernel) (by decide +kernel), tbm (i := 74) (by decide +kernel) (by decide +kernel), by decide +kernel, by decide +kernel, by decide +kernel⟩, tbm (i := 547) (by decide +kernel) (by decide +kernel), tbm (i := 548) (by decide +kernel) (by decide +kernel)⟩
theorem meX2_hasLine : MeV yX2_hasLine cX2_hasLine 2 (some .boolean) 1 := ⟨⟨tbm (i := 488) (by decide +kernel) (by decide +kernel), tbm (i := 74) (by decide +kernel) (by decide +kernel), by decide +kernel, by decide +kernel, by decide +kernel⟩, tbm (i := 486) (by decide +kernel) (by decide +kernel), tbm (i := 487) (by decide +kernel) (by decide +kernel)⟩
theorem meX2_hasStep : MeV yX2_hasStep cX2_hasStep 3 (some .boolean) 2 := ⟨⟨tbm (i := 645) (by decide +kernel) (by decide +kernel), tbm (i := 74) (by decide +kernel) (by decide +kernel), by decide +kernel, by decide +kernel, by decide +kernel⟩, tbm (i := 643) (by decide +kernel) (by decide +kernel), tbm (i := 644) (by decide +kernel) (by decide +kernel)⟩
theorem meX2_isTaken : MeV yX2_isTaken cX2_isTaken 3 (some .boolean) 2 := ⟨⟨tbm (i := 650) (by decide +kernel) (by decide +kernel), tbm (i := 74) (by decide +kernel) (by decide +kernel), by decide +kernel, by decide +kernel, by decide +kernel⟩, tbm (i := 648) (by decide +kernel) (by decide +kernel), tbm (i := 649) (by decide +kernel) (by decide +kernel)⟩
theorem meX2_linesInNoSet : MeV yX2_linesInNoSet cX2_linesInNoSet 3 (some .int) 0 := ⟨⟨tbm (i := 975) (by decide +kernel) (by decide +kernel), tbm (i := 74) (by decide +kernel) (by decide +kernel), by decide +kernel, by decide +kernel, by decide +kernel⟩, tbm (i := 973) (by decide +kernel) (by decide +kernel), tbm (i := 974) (by decide +kernel) (by decide +kernel)⟩
theorem meX2_orderStops : MeV yX2_orderStops cX2_orderStops 3 none 0 := ⟨⟨tbm (i := 681) (by decide +kernel) (by decide +kernel), tbm (i := 74) (by decide +kernel) (by decide +kernel), by decide +kernel, by decide +kernel, by decide +kernel⟩, tbm (i := 680) (by decide +kernel) (by decide +kernel), tbm (i := 14) (by decide +kernel) (by decide +kernel)⟩
theorem meX2_outLines : MeV yX2_outLines cX2_outLines 3 (some .int) 0 := ⟨⟨tbm (i := 515) (by decide +kernel) (by decide +kernel), tbm (i := 74) (by decide +kernel) (by decide +kernel), by decide +kernel, by decide +kernel, by decide +kernel⟩, tbm (i := 513) (by decide +kernel) (by decide +kernel), tbm (i := 514) (by decide +kernel) (by decide +kernel)⟩
theorem meX2_removeLine : MeV yX2_removeLine cX2_removeLine 4 none 1 := ⟨⟨tbm (i := 492) (by decide +kernel) (by decide +kernel), tbm (i := 74) (by decide +kernel) (by decide +kernel), by decide +kernel, by decide +kernel, by decide +kernel⟩, tbm (i := 490) (by decide +kernel) (by decide +kernel), tbm (i := 491) (by decide +kernel) (by decide +kernel)⟩
theorem meX2_replaceLines : MeV yX2_replaceLines cX2_replaceLines 4 none 1 := ⟨⟨tbm (i := 468) (by decide +kernel) (by decide +kernel), tbm (i := 74) (by decide +kernel) (by decide +kernel), by decide +kernel, by decide +kernel, by decide +kernel⟩, tbm (i := 466) (by decide +kernel) (by decide +kernel), tbm (i := 467) (by decide +kernel) (by decide +kernel)⟩
theorem meX2_ridingPoints : MeV yX2_ridingPoints cX2_ridingPoints 5 (some .long) 0 := ⟨⟨tbm (i := 768) (by decide +kernel) (by decide +kernel), tbm (i := 74) (by decide +kernel) (by decide +kernel), by decide +kernel, by decide +kernel, by decide +kernel⟩, tbm (i := 766) (by decide +kernel) (by decide +kernel), tbm (i := 767) (by decide +kernel) (by decide +kernel)⟩
theorem meX2_settleOnce : MeV yX2_settleOnce cX2_settleOnce 3 (some .int) 0 := ⟨⟨tbm (i := 797) (by decide +kernel) (by decide +kernel), tbm (i := 74) (by decide +kernel) (by decide +kernel), by decide +kernel, by decide +kernel, by decide +kernel⟩, tbm (i := 795) (by decide +kernel) (by decide +kernel), tbm (i := 796) (by decide +kernel) (by decide +kernel)⟩
theorem meX2_shareOf : MeV yX2_shareOf cX2_shareOf 4 (some .int) 3 := ⟨⟨tbm (i := 727) (by decide +kernel) (by decide +kernel), tbm (i := 74) (by decide +kernel) (by decide +kernel), by decide +kernel, by decide +kernel, by decide +kernel⟩, tbm (i := 726) (by decide +kernel) (by decide +kernel), tbm (i := 17) (by decide +kernel) (by decide +kernel)⟩
theorem meX2_spreadLoads : MeV yX2_spreadLoads cX2_spreadLoads 2 none 0 := ⟨⟨tbm (i := 715) (by decide +kernel) (by decide +kernel), tbm (i := 74) (by decide +kernel) (by decide +kernel), by decide +kernel, by decide +kernel, by decide +kernel⟩, tbm (i := 713) (by decide +kernel) (by decide +kernel), tbm (i := 714) (by decide +kernel) (by decide +kernel)⟩
theorem meX2_spreadLoadsOf : MeV yX2_spreadLoadsOf cX2_spreadLoadsOf 4 none 2 := ⟨⟨tbm (i := 897) (by decide +kernel) (by decide +kernel), tbm (i := 74) (by decide +kernel) (by decide +kernel), by decide +kernel, by decide +kernel, by decide +kernel⟩, tbm (i := 895) (by decide +kernel) (by decide +kernel), tbm (i := 896) (by decide +kernel) (by decide +kernel)⟩
theorem meX2_stopsWithin : MeV yX2_stopsWithin cX2_stopsWithin 5 (some .int) 1 := ⟨⟨tbm (i := 625) (by decide +kernel) (by decide +kernel), tbm (i := 74) (by decide +kernel) (by decide +kernel), by decide +kernel, by decide +kernel, by decide +kernel⟩, tbm (i := 623) (by decide +kernel) (by decide +kernel), tbm (i := 624) (by decide +kernel) (by decide +kernel)⟩
theorem meX2_waitingWeight : MeV yX2_waitingWeight cX2_waitingWeight 1 (some .long) 0 := ⟨⟨tbm (i := 602) (by decide +kernel) (by decide +kernel), tbm (i := 74) (by decide +kernel) (by decide +kernel), by decide +kernel, by decide +kernel, by decide +kernel⟩, tbm (i := 600) (by decide +kernel) (by decide +kernel), tbm (i := 601) (by decide +kernel) (by decide +kernel)⟩
theorem meX3_empty : MeV yX3_empty cX3_empty 1 none 0 := ⟨⟨tbm (i := 558) (by decide +kernel) (by decide +kernel), tbm (i := 76) (by decide +kernel) (by decide +kernel), by decide +kernel, by decide +kernel, by decide +kernel⟩, tbm (i := 556) (by decide +kernel) (by decide +kernel), tbm (i := 557) (by decide +kernel) (by decide +kernel)⟩
theorem meX3_put : MeV yX3_put cX3_put 3 none 1 := ⟨⟨tbm (i := 566) (by decide +kernel) (by decide +kernel), tbm (i := 76) (by decide +kernel) (by decide +kernel), by decide +kernel, by decide +kernel, by decide +kernel⟩, tbm (i := 564) (by decide +kernel) (by decide +kernel), tbm (i := 565) (by decide +kernel) (by decide +kernel)⟩
theorem meX3_putOne : MeV yX3_putOne cX3_putOne 3 none 1 := ⟨⟨tbm (i := 629) (by decide +kernel) (by decide +kernel), tbm (i := 76) (by decide +kernel) (by decide +kernel), by decide +kernel, by decide +kernel, by decide +kernel⟩, tbm (i := 627) (by decide +kernel) (by decide +kernel), tbm (i := 628) (by decide +kernel) (by decide +kernel)⟩
theorem meX3_putTwo : MeV yX3_putTwo cX3_putTwo 5 none 2 := ⟨⟨tbm (i := 614) (by decide +kernel) (by decide +kernel), tbm (i := 76) (by decide +kernel) (by decide +kernel), by decide +kernel, by decide +kernel, by decide +kernel⟩, tbm (i := 612) (by decide +kernel) (by decide +kernel), tbm (i := 613) (by decide +kernel) (by decide +kernel)⟩
theorem meX4_choose : MeV yX4_choose cX4_choose 7 (some .int) 2 := ⟨⟨tbm (i := 607) (by decide +kernel) (by decide +kernel), tbm (i := 75) (by decide +kernel) (by decide +kernel), by decide +kernel, by decide +kernel, by decide +kernel⟩, tbm (i := 605) (by decide +kernel) (by decide +kernel), tbm (i := 606) (by decide +kernel) (by decide +kernel)⟩
theorem meX4_forgetOffers : MeV yX4_forgetOffers cX4_forgetOffers 1 none 0 := ⟨⟨tbm (i := 582) (by decide +kernel) (by decide +kernel), tbm (i := 75) (by decide +kernel) (by decide +kernel), by decide +kernel, by decide +kernel, by decide +kernel⟩, tbm (i := 580) (by decide +kernel) (by decide +kernel), tbm (i := 581) (by decide +kernel) (by decide +kernel)⟩
theorem meX4_offer : MeV yX4_offer cX4_offer 5 none 3 := ⟨⟨tbm (i := 594) (by decide +kernel) (by decide +kernel), tbm (i := 75) (by decide +kernel) (by decide +kernel), by decide +kernel, by decide +kernel, by decide +kernel⟩, tbm (i := 592) (by decide +kernel) (by decide +kernel), tbm (i := 593) (by decide +kernel) (by decide +kernel)⟩
theorem meX4_takenLines : MeV yX4_takenLines cX4_takenLines 3 (some .int) 0 := ⟨⟨tbm (i := 637) (by decide +kernel) (by decide +kernel), tbm (i := 75) (by decide +kernel) (by decide +kernel), by decide +kernel, by decide +kernel, by decide +kernel⟩, tbm (i := 635) (by decide +kernel) (by decide +kernel), tbm (i := 636) (by decide +kernel) (by decide +kernel)⟩
theorem meX4_takes : MeV yX4_takes cX4_takes 2 (some .boolean) 1 := ⟨⟨tbm (i := 654) (by decide +kernel) (by decide +kernel), tbm (i := 75) (by decide +kernel) (by decide +kernel), by decide +kernel, by decide +kernel, by decide +kernel⟩, tbm (i := 652) (by decide +kernel) (by decide +kernel), tbm (i := 653) (by decide +kernel) (by decide +kernel)⟩
theorem meX5_addsFour : MeV yX5_addsFour cX5_addsFour 3 (some .boolean) 1 := ⟨⟨tbm (i := 386) (by decide +kernel) (by decide +kernel), tbm (i := 72) (by decide +kernel) (by decide +kernel), by decide +kernel, by decide +kernel, by decide +kernel⟩, tbm (i := 384) (by decide +kernel) (by decide +kernel), tbm (i := 385) (by decide +kernel) (by decide +kernel)⟩
theorem meX5_begin : MeV yX5_begin cX5_begin 1 none 0 := ⟨⟨tbm (i := 402) (by decide +kernel) (by decide +kernel), tbm (i := 72) (by decide +kernel) (by decide +kernel), by decide +kernel, by decide +kernel, by decide +kernel⟩, tbm (i := 401) (by decide +kernel) (by decide +kernel), tbm (i := 0) (by decide +kernel) (by decide +kernel)⟩
theorem meX5_fails : MeV yX5_fails cX5_fails 2 (some .boolean) 1 := ⟨⟨tbm (i := 410) (by decide +kernel) (by decide +kernel), tbm (i := 72) (by decide +kernel) (by decide +kernel), by decide +kernel, by decide +kernel, by decide +kernel⟩, tbm (i := 409) (by decide +kernel) (by decide +kernel), tbm (i := 2) (by decide +kernel) (by decide +kernel)⟩
theorem meX5_isDigitNext : MeV yX5_isDigitNext cX5_isDigitNext 1 (some .boolean) 0 := ⟨⟨tbm (i := 418) (by decide +kernel) (by decide +kernel), tbm (i := 72) (by decide +kernel) (by decide +kernel), by decide +kernel, by decide +kernel, by decide +kernel⟩, tbm (i := 417) (by decide +kernel) (by decide +kernel), tbm (i := 4) (by decide +kernel) (by decide +kernel)⟩
theorem meX5_isNext : MeV yX5_isNext cX5_isNext 2 (some .boolean) 1 := ⟨⟨tbm (i := 422) (by decide +kernel) (by decide +kernel), tbm (i := 72) (by decide +kernel) (by decide +kernel), by decide +kernel, by decide +kernel, by decide +kernel⟩, tbm (i := 421) (by decide +kernel) (by decide +kernel), tbm (i := 5) (by decide +kernel) (by decide +kernel)⟩
theorem meX5_keep : MeV yX5_keep cX5_keep 3 (some .boolean) 2 := ⟨⟨tbm (i := 454) (by decide +kernel) (by decide +kernel), tbm (i := 72) (by decide +kernel) (by decide +kernel), by decide +kernel, by decide +kernel, by decide +kernel⟩, tbm (i := 453) (by decide +kernel) (by decide +kernel), tbm (i := 10) (by decide +kernel) (by decide +kernel)⟩
theorem meX5_readsEnd : MeV yX5_readsEnd cX5_readsEnd 1 (some .boolean) 0 := ⟨⟨tbm (i := 464) (by decide +kernel) (by decide +kernel), tbm (i := 72) (by decide +kernel) (by decide +kernel), by decide +kernel, by decide +kernel, by decide +kernel⟩, tbm (i := 463) (by decide +kernel) (by decide +kernel), tbm (i := 11) (by decide +kernel) (by decide +kernel)⟩
theorem meX5_readsLine : MeV yX5_readsLine cX5_readsLine 5 (some .boolean) 1 := ⟨⟨tbm (i := 406) (by decide +kernel) (by decide +kernel), tbm (i := 72) (by decide +kernel) (by decide +kernel), by decide +kernel, by decide +kernel, by decide +kernel⟩, tbm (i := 405) (by decide +kernel) (by decide +kernel), tbm (i := 1) (by decide +kernel) (by decide +kernel)⟩
theorem meX5_readsLines : MeV yX5_readsLines cX5_readsLines 3 (some .boolean) 0 := ⟨⟨tbm (i := 398) (by decide +kernel) (by decide +kernel), tbm (i := 72) (by decide +kernel) (by decide +kernel), by decide +kernel, by decide +kernel, by decide +kernel⟩, tbm (i := 396) (by decide +kernel) (by decide +kernel), tbm (i := 397) (by decide +kernel) (by decide +kernel)⟩
theorem meX5_readsNumber : MeV yX5_readsNumber cX5_readsNumber 3 (some .boolean) 1 := ⟨⟨tbm (i := 414) (by decide +kernel) (by decide +kernel), tbm (i := 72) (by decide +kernel) (by decide +kernel), by decide +kernel, by decide +kernel, by decide +kernel⟩, tbm (i := 413) (by decide +kernel) (by decide +kernel), tbm (i := 3) (by decide +kernel) (by decide +kernel)⟩
theorem meX5_readsOneLine : MeV yX5_readsOneLine cX5_readsOneLine 2 (some .boolean) 1 := ⟨⟨tbm (i := 476) (by decide +kernel) (by decide +kernel), tbm (i := 72) (by decide +kernel) (by decide +kernel), by decide +kernel, by decide +kernel, by decide +kernel⟩, tbm (i := 474) (by decide +kernel) (by decide +kernel), tbm (i := 475) (by decide +kernel) (by decide +kernel)⟩
theorem meX5_readsSign : MeV yX5_readsSign cX5_readsSign 2 (some .boolean) 1 := ⟨⟨tbm (i := 426) (by decide +kernel) (by decide +kernel), tbm (i := 72) (by decide +kernel) (by decide +kernel), by decide +kernel, by decide +kernel, by decide +kernel⟩, tbm (i := 425) (by decide +kernel) (by decide +kernel), tbm (i := 6) (by decide +kernel) (by decide +kernel)⟩
theorem meX5_readsStep : MeV yX5_readsStep cX5_readsStep 2 (some .boolean) 1 := ⟨⟨tbm (i := 450) (by decide +kernel) (by decide +kernel), tbm (i := 72) (by decide +kernel) (by decide +kernel), by decide +kernel, by decide +kernel, by decide +kernel⟩, tbm (i := 449) (by decide +kernel) (by decide +kernel), tbm (i := 9) (by decide +kernel) (by decide +kernel)⟩
theorem meX5_readsStop : MeV yX5_readsStop cX5_readsStop 3 (some .boolean) 2 := ⟨⟨tbm (i := 438) (by decide +kernel) (by decide +kernel), tbm (i := 72) (by decide +kernel) (by decide +kernel), by decide +kernel, by decide +kernel, by decide +kernel⟩, tbm (i := 437) (by decide +kernel) (by decide +kernel), tbm (i := 8) (by decide +kernel) (by decide +kernel)⟩
theorem meX5_readsWay : MeV yX5_readsWay cX5_readsWay 3 (some .boolean) 1 := ⟨⟨tbm (i := 434) (by decide +kernel) (by decide +kernel), tbm (i := 72) (by decide +kernel) (by decide +kernel), by decide +kernel, by decide +kernel, by decide +kernel⟩, tbm (i := 433) (by decide +kernel) (by decide +kernel), tbm (i := 7) (by decide +kernel) (by decide +kernel)⟩
theorem meX7_at : MeS yX7_at cX7_at 2 (some .int) 2 := ⟨⟨tbm (i := 1263) (by decide +kernel) (by decide +kernel), tbm (i := 78) (by decide +kernel) (by decide +kernel), by decide +kernel, by decide +kernel, by decide +kernel⟩, tbm (i := 1262) (by decide +kernel) (by decide +kernel)⟩
theorem meX7_before : MeV yX7_before cX7_before 1 (some .long) 0 := ⟨⟨tbm (i := 1521) (by decide +kernel) (by decide +kernel), tbm (i := 78) (by decide +kernel) (by decide +kernel), by decide +kernel, by decide +kernel, by decide +kernel⟩, tbm (i := 1520) (by decide +kernel) (by decide +kernel), tbm (i := 58) (by decide +kernel) (by decide +kernel)⟩
theorem meX7_begin : MeV yX7_begin cX7_begin 1 none 0 := ⟨⟨tbm (i := 1230) (by decide +kernel) (by decide +kernel), tbm (i := 78) (by decide +kernel) (by decide +kernel), by decide +kernel, by decide +kernel, by decide +kernel⟩, tbm (i := 1229) (by decide +kernel) (by decide +kernel), tbm (i := 26) (by decide +kernel) (by decide +kernel)⟩
theorem meX7_boardable : MeV yX7_boardable cX7_boardable 4 (some .long) 2 := ⟨⟨tbm (i := 1367) (by decide +kernel) (by decide +kernel), tbm (i := 78) (by decide +kernel) (by decide +kernel), by decide +kernel, by decide +kernel, by decide +kernel⟩, tbm (i := 1366) (by decide +kernel) (by decide +kernel), tbm (i := 46) (by decide +kernel) (by decide +kernel)⟩
theorem meX7_boardingAt : MeV yX7_boardingAt cX7_boardingAt 5 (some .long) 2 := ⟨⟨tbm (i := 1351) (by decide +kernel) (by decide +kernel), tbm (i := 78) (by decide +kernel) (by decide +kernel), by decide +kernel, by decide +kernel, by decide +kernel⟩, tbm (i := 1350) (by decide +kernel) (by decide +kernel), tbm (i := 42) (by decide +kernel) (by decide +kernel)⟩
theorem meX7_closedBits : MeV yX7_closedBits cX7_closedBits 3 (some .int) 0 := ⟨⟨tbm (i := 1614) (by decide +kernel) (by decide +kernel), tbm (i := 78) (by decide +kernel) (by decide +kernel), by decide +kernel, by decide +kernel, by decide +kernel⟩, tbm (i := 1613) (by decide +kernel) (by decide +kernel), tbm (i := 65) (by decide +kernel) (by decide +kernel)⟩
theorem meX7_comesAt : MeV yX7_comesAt cX7_comesAt 11 (some .long) 3 := ⟨⟨tbm (i := 1580) (by decide +kernel) (by decide +kernel), tbm (i := 78) (by decide +kernel) (by decide +kernel), by decide +kernel, by decide +kernel, by decide +kernel⟩, tbm (i := 1579) (by decide +kernel) (by decide +kernel), tbm (i := 61) (by decide +kernel) (by decide +kernel)⟩
theorem meX7_costed : MeV yX7_costed cX7_costed 3 (some .int) 0 := ⟨⟨tbm (i := 1379) (by decide +kernel) (by decide +kernel), tbm (i := 78) (by decide +kernel) (by decide +kernel), by decide +kernel, by decide +kernel, by decide +kernel⟩, tbm (i := 1378) (by decide +kernel) (by decide +kernel), tbm (i := 48) (by decide +kernel) (by decide +kernel)⟩
theorem meX7_costedBits : MeV yX7_costedBits cX7_costedBits 3 (some .int) 0 := ⟨⟨tbm (i := 1626) (by decide +kernel) (by decide +kernel), tbm (i := 78) (by decide +kernel) (by decide +kernel), by decide +kernel, by decide +kernel, by decide +kernel⟩, tbm (i := 1625) (by decide +kernel) (by decide +kernel), tbm (i := 68) (by decide +kernel) (by decide +kernel)⟩
theorem meX7_expect : MeV yX7_expect cX7_expect 2 none 1 := ⟨⟨tbm (i := 1252) (by decide +kernel) (by decide +kernel), tbm (i := 78) (by decide +kernel) (by decide +kernel), by decide +kernel, by decide +kernel, by decide +kernel⟩, tbm (i := 1251) (by decide +kernel) (by decide +kernel), tbm (i := 31) (by decide +kernel) (by decide +kernel)⟩
theorem meX7_fault : MeV yX7_fault cX7_fault 2 none 1 := ⟨⟨tbm (i := 1238) (by decide +kernel) (by decide +kernel), tbm (i := 78) (by decide +kernel) (by decide +kernel), by decide +kernel, by decide +kernel, by decide +kernel⟩, tbm (i := 1237) (by decide +kernel) (by decide +kernel), tbm (i := 28) (by decide +kernel) (by decide +kernel)⟩
theorem meX7_goes : MeV yX7_goes cX7_goes 15 (some .long) 3 := ⟨⟨tbm (i := 1590) (by decide +kernel) (by decide +kernel), tbm (i := 78) (by decide +kernel) (by decide +kernel), by decide +kernel, by decide +kernel, by decide +kernel⟩, tbm (i := 1589) (by decide +kernel) (by decide +kernel), tbm (i := 62) (by decide +kernel) (by decide +kernel)⟩
theorem meX7_in : MeS yX7_in cX7_in 6 (some .boolean) 3 := ⟨⟨tbm (i := 1222) (by decide +kernel) (by decide +kernel), tbm (i := 78) (by decide +kernel) (by decide +kernel), by decide +kernel, by decide +kernel, by decide +kernel⟩, tbm (i := 1221) (by decide +kernel) (by decide +kernel)⟩
theorem meX7_isHalt : MeV yX7_isHalt cX7_isHalt 3 (some .boolean) 2 := ⟨⟨tbm (i := 1326) (by decide +kernel) (by decide +kernel), tbm (i := 78) (by decide +kernel) (by decide +kernel), by decide +kernel, by decide +kernel, by decide +kernel⟩, tbm (i := 1325) (by decide +kernel) (by decide +kernel), tbm (i := 37) (by decide +kernel) (by decide +kernel)⟩
theorem meX7_isInSet : MeV yX7_isInSet cX7_isInSet 4 (some .boolean) 2 := ⟨⟨tbm (i := 1395) (by decide +kernel) (by decide +kernel), tbm (i := 78) (by decide +kernel) (by decide +kernel), by decide +kernel, by decide +kernel, by decide +kernel⟩, tbm (i := 1394) (by decide +kernel) (by decide +kernel), tbm (i := 50) (by decide +kernel) (by decide +kernel)⟩
theorem meX7_isLine : MeV yX7_isLine cX7_isLine 2 (some .boolean) 1 := ⟨⟨tbm (i := 1283) (by decide +kernel) (by decide +kernel), tbm (i := 78) (by decide +kernel) (by decide +kernel), by decide +kernel, by decide +kernel, by decide +kernel⟩, tbm (i := 1282) (by decide +kernel) (by decide +kernel), tbm (i := 35) (by decide +kernel) (by decide +kernel)⟩
theorem meX7_isRoundDone : MeV yX7_isRoundDone cX7_isRoundDone 3 (some .boolean) 0 := ⟨⟨tbm (i := 1343) (by decide +kernel) (by decide +kernel), tbm (i := 78) (by decide +kernel) (by decide +kernel), by decide +kernel, by decide +kernel, by decide +kernel⟩, tbm (i := 1342) (by decide +kernel) (by decide +kernel), tbm (i := 40) (by decide +kernel) (by decide +kernel)⟩
theorem meX7_isStep : MeV yX7_isStep cX7_isStep 3 (some .boolean) 2 := ⟨⟨tbm (i := 1391) (by decide +kernel) (by decide +kernel), tbm (i := 78) (by decide +kernel) (by decide +kernel), by decide +kernel, by decide +kernel, by decide +kernel⟩, tbm (i := 1390) (by decide +kernel) (by decide +kernel), tbm (i := 49) (by decide +kernel) (by decide +kernel)⟩
theorem meX7_isStop : MeS yX7_isStop cX7_isStop 1 (some .boolean) 1 := ⟨⟨tbm (i := 1259) (by decide +kernel) (by decide +kernel), tbm (i := 78) (by decide +kernel) (by decide +kernel), by decide +kernel, by decide +kernel, by decide +kernel⟩, tbm (i := 1258) (by decide +kernel) (by decide +kernel)⟩
theorem meX7_laysAboard : MeV yX7_laysAboard cX7_laysAboard 8 none 0 := ⟨⟨tbm (i := 1347) (by decide +kernel) (by decide +kernel), tbm (i := 78) (by decide +kernel) (by decide +kernel), by decide +kernel, by decide +kernel, by decide +kernel⟩, tbm (i := 1346) (by decide +kernel) (by decide +kernel), tbm (i := 41) (by decide +kernel) (by decide +kernel)⟩
theorem meX7_laysCosts : MeV yX7_laysCosts cX7_laysCosts 2 none 0 := ⟨⟨tbm (i := 1338) (by decide +kernel) (by decide +kernel), tbm (i := 78) (by decide +kernel) (by decide +kernel), by decide +kernel, by decide +kernel, by decide +kernel⟩, tbm (i := 1337) (by decide +kernel) (by decide +kernel), tbm (i := 39) (by decide +kernel) (by decide +kernel)⟩
theorem meX7_laysLoads : MeV yX7_laysLoads cX7_laysLoads 2 none 0 := ⟨⟨tbm (i := 1440) (by decide +kernel) (by decide +kernel), tbm (i := 78) (by decide +kernel) (by decide +kernel), by decide +kernel, by decide +kernel, by decide +kernel⟩, tbm (i := 1439) (by decide +kernel) (by decide +kernel), tbm (i := 53) (by decide +kernel) (by decide +kernel)⟩
theorem meX7_laysOrder : MeV yX7_laysOrder cX7_laysOrder 3 none 0 := ⟨⟨tbm (i := 1415) (by decide +kernel) (by decide +kernel), tbm (i := 78) (by decide +kernel) (by decide +kernel), by decide +kernel, by decide +kernel, by decide +kernel⟩, tbm (i := 1414) (by decide +kernel) (by decide +kernel), tbm (i := 51) (by decide +kernel) (by decide +kernel)⟩
theorem meX7_laysSet : MeV yX7_laysSet cX7_laysSet 6 none 1 := ⟨⟨tbm (i := 1359) (by decide +kernel) (by decide +kernel), tbm (i := 78) (by decide +kernel) (by decide +kernel), by decide +kernel, by decide +kernel, by decide +kernel⟩, tbm (i := 1358) (by decide +kernel) (by decide +kernel), tbm (i := 44) (by decide +kernel) (by decide +kernel)⟩
theorem meX7_leaves : MeV yX7_leaves cX7_leaves 4 (some .int) 2 := ⟨⟨tbm (i := 1420) (by decide +kernel) (by decide +kernel), tbm (i := 78) (by decide +kernel) (by decide +kernel), by decide +kernel, by decide +kernel, by decide +kernel⟩, tbm (i := 1419) (by decide +kernel) (by decide +kernel), tbm (i := 52) (by decide +kernel) (by decide +kernel)⟩
theorem meX7_lost : MeV yX7_lost cX7_lost 1 (some .int) 0 := ⟨⟨tbm (i := 1634) (by decide +kernel) (by decide +kernel), tbm (i := 78) (by decide +kernel) (by decide +kernel), by decide +kernel, by decide +kernel, by decide +kernel⟩, tbm (i := 1633) (by decide +kernel) (by decide +kernel), tbm (i := 69) (by decide +kernel) (by decide +kernel)⟩
theorem meX7_nextLine : MeV yX7_nextLine cX7_nextLine 6 (some .int) 1 := ⟨⟨tbm (i := 1363) (by decide +kernel) (by decide +kernel), tbm (i := 78) (by decide +kernel) (by decide +kernel), by decide +kernel, by decide +kernel, by decide +kernel⟩, tbm (i := 1362) (by decide +kernel) (by decide +kernel), tbm (i := 45) (by decide +kernel) (by decide +kernel)⟩
theorem meX7_outBits : MeV yX7_outBits cX7_outBits 3 (some .int) 0 := ⟨⟨tbm (i := 1618) (by decide +kernel) (by decide +kernel), tbm (i := 78) (by decide +kernel) (by decide +kernel), by decide +kernel, by decide +kernel, by decide +kernel⟩, tbm (i := 1617) (by decide +kernel) (by decide +kernel), tbm (i := 66) (by decide +kernel) (by decide +kernel)⟩
theorem meX7_outMany : MeV yX7_outMany cX7_outMany 3 (some .int) 0 := ⟨⟨tbm (i := 1305) (by decide +kernel) (by decide +kernel), tbm (i := 78) (by decide +kernel) (by decide +kernel), by decide +kernel, by decide +kernel, by decide +kernel⟩, tbm (i := 1304) (by decide +kernel) (by decide +kernel), tbm (i := 36) (by decide +kernel) (by decide +kernel)⟩
theorem meX7_passesOn : MeV yX7_passesOn cX7_passesOn 13 none 1 := ⟨⟨tbm (i := 1444) (by decide +kernel) (by decide +kernel), tbm (i := 78) (by decide +kernel) (by decide +kernel), by decide +kernel, by decide +kernel, by decide +kernel⟩, tbm (i := 1443) (by decide +kernel) (by decide +kernel), tbm (i := 54) (by decide +kernel) (by decide +kernel)⟩
theorem meX7_placeOf : MeV yX7_placeOf cX7_placeOf 4 (some .int) 2 := ⟨⟨tbm (i := 1371) (by decide +kernel) (by decide +kernel), tbm (i := 78) (by decide +kernel) (by decide +kernel), by decide +kernel, by decide +kernel, by decide +kernel⟩, tbm (i := 1370) (by decide +kernel) (by decide +kernel), tbm (i := 47) (by decide +kernel) (by decide +kernel)⟩
theorem meX7_readLine : MeV yX7_readLine cX7_readLine 5 none 1 := ⟨⟨tbm (i := 1234) (by decide +kernel) (by decide +kernel), tbm (i := 78) (by decide +kernel) (by decide +kernel), by decide +kernel, by decide +kernel, by decide +kernel⟩, tbm (i := 1233) (by decide +kernel) (by decide +kernel), tbm (i := 27) (by decide +kernel) (by decide +kernel)⟩
theorem meX7_readNumber : MeV yX7_readNumber cX7_readNumber 4 (some .int) 1 := ⟨⟨tbm (i := 1242) (by decide +kernel) (by decide +kernel), tbm (i := 78) (by decide +kernel) (by decide +kernel), by decide +kernel, by decide +kernel, by decide +kernel⟩, tbm (i := 1241) (by decide +kernel) (by decide +kernel), tbm (i := 29) (by decide +kernel) (by decide +kernel)⟩
theorem meX7_readStop : MeV yX7_readStop cX7_readStop 4 none 0 := ⟨⟨tbm (i := 1256) (by decide +kernel) (by decide +kernel), tbm (i := 78) (by decide +kernel) (by decide +kernel), by decide +kernel, by decide +kernel, by decide +kernel⟩, tbm (i := 1255) (by decide +kernel) (by decide +kernel), tbm (i := 32) (by decide +kernel) (by decide +kernel)⟩
theorem meX7_readsBack : MeV yX7_readsBack cX7_readsBack 4 none 0 := ⟨⟨tbm (i := 1267) (by decide +kernel) (by decide +kernel), tbm (i := 78) (by decide +kernel) (by decide +kernel), by decide +kernel, by decide +kernel, by decide +kernel⟩, tbm (i := 1266) (by decide +kernel) (by decide +kernel), tbm (i := 33) (by decide +kernel) (by decide +kernel)⟩
theorem meX7_ridersMany : MeV yX7_ridersMany cX7_ridersMany 3 (some .int) 0 := ⟨⟨tbm (i := 1606) (by decide +kernel) (by decide +kernel), tbm (i := 78) (by decide +kernel) (by decide +kernel), by decide +kernel, by decide +kernel, by decide +kernel⟩, tbm (i := 1605) (by decide +kernel) (by decide +kernel), tbm (i := 63) (by decide +kernel) (by decide +kernel)⟩
theorem meX7_sees : MeV yX7_sees cX7_sees 1 (some .int) 0 := ⟨⟨tbm (i := 1246) (by decide +kernel) (by decide +kernel), tbm (i := 78) (by decide +kernel) (by decide +kernel), by decide +kernel, by decide +kernel, by decide +kernel⟩, tbm (i := 1245) (by decide +kernel) (by decide +kernel), tbm (i := 30) (by decide +kernel) (by decide +kernel)⟩
theorem meX7_settlesOnce : MeV yX7_settlesOnce cX7_settlesOnce 6 none 0 := ⟨⟨tbm (i := 1494) (by decide +kernel) (by decide +kernel), tbm (i := 78) (by decide +kernel) (by decide +kernel), by decide +kernel, by decide +kernel, by decide +kernel⟩, tbm (i := 1493) (by decide +kernel) (by decide +kernel), tbm (i := 57) (by decide +kernel) (by decide +kernel)⟩
theorem meX7_stepMany : MeV yX7_stepMany cX7_stepMany 3 (some .int) 0 := ⟨⟨tbm (i := 1610) (by decide +kernel) (by decide +kernel), tbm (i := 78) (by decide +kernel) (by decide +kernel), by decide +kernel, by decide +kernel, by decide +kernel⟩, tbm (i := 1609) (by decide +kernel) (by decide +kernel), tbm (i := 64) (by decide +kernel) (by decide +kernel)⟩
theorem meX7_strandedNow : MeV yX7_strandedNow cX7_strandedNow 4 (some .long) 0 := ⟨⟨tbm (i := 1464) (by decide +kernel) (by decide +kernel), tbm (i := 78) (by decide +kernel) (by decide +kernel), by decide +kernel, by decide +kernel, by decide +kernel⟩, tbm (i := 1463) (by decide +kernel) (by decide +kernel), tbm (i := 55) (by decide +kernel) (by decide +kernel)⟩
theorem meX7_takesRead : MeV yX7_takesRead cX7_takesRead 4 none 0 := ⟨⟨tbm (i := 1271) (by decide +kernel) (by decide +kernel), tbm (i := 78) (by decide +kernel) (by decide +kernel), by decide +kernel, by decide +kernel, by decide +kernel⟩, tbm (i := 1270) (by decide +kernel) (by decide +kernel), tbm (i := 34) (by decide +kernel) (by decide +kernel)⟩
theorem meX7_tell : MeV yX7_tell cX7_tell 3 none 1 := ⟨⟨tbm (i := 1330) (by decide +kernel) (by decide +kernel), tbm (i := 78) (by decide +kernel) (by decide +kernel), by decide +kernel, by decide +kernel, by decide +kernel⟩, tbm (i := 1329) (by decide +kernel) (by decide +kernel), tbm (i := 38) (by decide +kernel) (by decide +kernel)⟩
theorem meX7_tells : MeV yX7_tells cX7_tells 5 (some .long) 2 := ⟨⟨tbm (i := 1525) (by decide +kernel) (by decide +kernel), tbm (i := 78) (by decide +kernel) (by decide +kernel), by decide +kernel, by decide +kernel, by decide +kernel⟩, tbm (i := 1524) (by decide +kernel) (by decide +kernel), tbm (i := 59) (by decide +kernel) (by decide +kernel)⟩
theorem meX7_time : MeV yX7_time cX7_time 3 (some .long) 2 := ⟨⟨tbm (i := 1355) (by decide +kernel) (by decide +kernel), tbm (i := 78) (by decide +kernel) (by decide +kernel), by decide +kernel, by decide +kernel, by decide +kernel⟩, tbm (i := 1354) (by decide +kernel) (by decide +kernel), tbm (i := 43) (by decide +kernel) (by decide +kernel)⟩
theorem meX7_totalNow : MeV yX7_totalNow cX7_totalNow 4 (some .long) 0 := ⟨⟨tbm (i := 1468) (by decide +kernel) (by decide +kernel), tbm (i := 78) (by decide +kernel) (by decide +kernel), by decide +kernel, by decide +kernel, by decide +kernel⟩, tbm (i := 1467) (by decide +kernel) (by decide +kernel), tbm (i := 56) (by decide +kernel) (by decide +kernel)⟩
theorem meX7_totalWith : MeV yX7_totalWith cX7_totalWith 5 (some .long) 2 := ⟨⟨tbm (i := 1539) (by decide +kernel) (by decide +kernel), tbm (i := 78) (by decide +kernel) (by decide +kernel), by decide +kernel, by decide +kernel, by decide +kernel⟩, tbm (i := 1538) (by decide +kernel) (by decide +kernel), tbm (i := 60) (by decide +kernel) (by decide +kernel)⟩
theorem meX7_unusedBits : MeV yX7_unusedBits cX7_unusedBits 4 (some .int) 0 := ⟨⟨tbm (i := 1622) (by decide +kernel) (by decide +kernel), tbm (i := 78) (by decide +kernel) (by decide +kernel), by decide +kernel, by decide +kernel, by decide +kernel⟩, tbm (i := 1621) (by decide +kernel) (by decide +kernel), tbm (i := 67) (by decide +kernel) (by decide +kernel)⟩
theorem meJ6_bitCount_0f7a4 : MeS yJ6_bitCount_0f7a4 cJ6_bitCount_0f7a4 1 (some .int) 1 := ⟨⟨tbm (i := 521) (by decide +kernel) (by decide +kernel), tbm (i := 79) (by decide +kernel) (by decide +kernel), by decide +kernel, by decide +kernel, by decide +kernel⟩, tbm (i := 520) (by decide +kernel) (by decide +kernel)⟩
theorem meJ9_abs_0f7a4 : MeS yJ9_abs_0f7a4 cJ9_abs_0f7a4 1 (some .int) 1 := ⟨⟨tbm (i := 805) (by decide +kernel) (by decide +kernel), tbm (i := 80) (by decide +kernel) (by decide +kernel), by decide +kernel, by decide +kernel, by decide +kernel⟩, tbm (i := 804) (by decide +kernel) (by decide +kernel)⟩
theorem meJ9_abs_067f4 : MeS yJ9_abs_067f4 cJ9_abs_067f4 2 (some .long) 1 := ⟨⟨tbm (i := 1497) (by decide +kernel) (by decide +kernel), tbm (i := 80) (by decide +kernel) (by decide +kernel), by decide +kernel, by decide +kernel, by decide +kernel⟩, tbm (i := 1496) (by decide +kernel) (by decide +kernel)⟩
theorem meJ9_max_7cf53 : MeS yJ9_max_7cf53 cJ9_max_7cf53 2 (some .int) 2 := ⟨⟨tbm (i := 959) (by decide +kernel) (by decide +kernel), tbm (i := 80) (by decide +kernel) (by decide +kernel), by decide +kernel, by decide +kernel, by decide +kernel⟩, tbm (i := 958) (by decide +kernel) (by decide +kernel)⟩
theorem meJ9_max_f86c9 : MeS yJ9_max_f86c9 cJ9_max_f86c9 4 (some .long) 2 := ⟨⟨tbm (i := 1598) (by decide +kernel) (by decide +kernel), tbm (i := 80) (by decide +kernel) (by decide +kernel), by decide +kernel, by decide +kernel, by decide +kernel⟩, tbm (i := 1597) (by decide +kernel) (by decide +kernel)⟩
theorem meJ9_min_7cf53 : MeS yJ9_min_7cf53 cJ9_min_7cf53 2 (some .int) 2 := ⟨⟨tbm (i := 956) (by decide +kernel) (by decide +kernel), tbm (i := 80) (by decide +kernel) (by decide +kernel), by decide +kernel, by decide +kernel, by decide +kernel⟩, tbm (i := 955) (by decide +kernel) (by decide +kernel)⟩
theorem meJ9_min_f86c9 : MeS yJ9_min_f86c9 cJ9_min_f86c9 4 (some .long) 2 := ⟨⟨tbm (i := 810) (by decide +kernel) (by decide +kernel), tbm (i := 80) (by decide +kernel) (by decide +kernel), by decide +kernel, by decide +kernel, by decide +kernel⟩, tbm (i := 809) (by decide +kernel) (by decide +kernel)⟩
theorem cl_X6_271 : Cond.constantLong RX6 271 (-1) ∈ TB := tbm (i := 831) (by decide +kernel) (by decide +kernel)
theorem cl_X6_273 : Cond.constantLong RX6 273 (-2) ∈ TB := tbm (i := 832) (by decide +kernel) (by decide +kernel)
theorem cl_X6_293 : Cond.constantLong RX6 293 (99) ∈ TB := tbm (i := 872) (by decide +kernel) (by decide +kernel)
theorem cl_X1_86 : Cond.constantLong RX1 86 (100000) ∈ TB := tbm (i := 807) (by decide +kernel) (by decide +kernel)
theorem cl_X1_95 : Cond.constantLong RX1 95 (6000) ∈ TB := tbm (i := 930) (by decide +kernel) (by decide +kernel)
theorem cl_X2_80 : Cond.constantLong RX2 80 (60) ∈ TB := tbm (i := 603) (by decide +kernel) (by decide +kernel)
theorem cl_X7_132 : Cond.constantLong RX7 132 (9) ∈ TB := tbm (i := 1260) (by decide +kernel) (by decide +kernel)
theorem cl_X7_154 : Cond.constantLong RX7 154 (48) ∈ TB := tbm (i := 1247) (by decide +kernel) (by decide +kernel)
theorem cl_X7_156 : Cond.constantLong RX7 156 (57) ∈ TB := tbm (i := 1248) (by decide +kernel) (by decide +kernel)
theorem cl_X7_195 : Cond.constantLong RX7 195 (100) ∈ TB := tbm (i := 1288) (by decide +kernel) (by decide +kernel)
theorem cl_X7_200 : Cond.constantLong RX7 200 (9999) ∈ TB := tbm (i := 1297) (by decide +kernel) (by decide +kernel)
theorem cl_X7_205 : Cond.constantLong RX7 205 (60) ∈ TB := tbm (i := 1314) (by decide +kernel) (by decide +kernel)
theorem cl_X7_215 : Cond.constantLong RX7 215 (-1) ∈ TB := tbm (i := 1339) (by decide +kernel) (by decide +kernel)
theorem cl_X7_264 : Cond.constantLong RX7 264 (1000) ∈ TB := tbm (i := 1416) (by decide +kernel) (by decide +kernel)
theorem cl_X7_285 : Cond.constantLong RX7 285 (999) ∈ TB := tbm (i := 1485) (by decide +kernel) (by decide +kernel)
theorem cl_X7_297 : Cond.constantLong RX7 297 (100000) ∈ TB := tbm (i := 1498) (by decide +kernel) (by decide +kernel)
theorem cl_X7_303 : Cond.constantLong RX7 303 (50) ∈ TB := tbm (i := 1490) (by decide +kernel) (by decide +kernel)
theorem cl_X7_308 : Cond.constantLong RX7 308 (200) ∈ TB := tbm (i := 1504) (by decide +kernel) (by decide +kernel)
theorem cl_X7_313 : Cond.constantLong RX7 313 (-2) ∈ TB := tbm (i := 1517) (by decide +kernel) (by decide +kernel)
theorem cl_X7_321 : Cond.constantLong RX7 321 (-59) ∈ TB := tbm (i := 1534) (by decide +kernel) (by decide +kernel)
theorem cl_X7_323 : Cond.constantLong RX7 323 (59) ∈ TB := tbm (i := 1535) (by decide +kernel) (by decide +kernel)
theorem cl_X7_328 : Cond.constantLong RX7 328 (99) ∈ TB := tbm (i := 1552) (by decide +kernel) (by decide +kernel)
theorem cl_X7_330 : Cond.constantLong RX7 330 (5999) ∈ TB := tbm (i := 1581) (by decide +kernel) (by decide +kernel)
theorem cl_X7_332 : Cond.constantLong RX7 332 (6000) ∈ TB := tbm (i := 1582) (by decide +kernel) (by decide +kernel)
theorem cl_X7_347 : Cond.constantLong RX7 347 (9223372036854775807) ∈ TB := tbm (i := 1595) (by decide +kernel) (by decide +kernel)
theorem ci_X6_171 : Cond.constant RX6 171 (2147483647) ∈ TB := tbm (i := 621) (by decide +kernel) (by decide +kernel)
theorem ci_X6_352 : Cond.constant RX6 352 (100000) ∈ TB := tbm (i := 921) (by decide +kernel) (by decide +kernel)
theorem ci_J6_265 : Cond.constant RJ6 265 (1431655765) ∈ TB := tbm (i := 522) (by decide +kernel) (by decide +kernel)
theorem ci_J6_266 : Cond.constant RJ6 266 (858993459) ∈ TB := tbm (i := 523) (by decide +kernel) (by decide +kernel)
theorem ci_J6_267 : Cond.constant RJ6 267 (252645135) ∈ TB := tbm (i := 524) (by decide +kernel) (by decide +kernel)
