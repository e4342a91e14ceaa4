theorem ln_X7_67 : Cond.methodLink RX7 67 yJ0_length_8abf5 ∈ gT := gI 392 (by decide +kernel) rfl
theorem ln_X8_104 : Cond.methodLink RX8 104 yX8_lays ∈ gT := gI 982 (by decide +kernel) rfl
theorem mv_X8_lays : MWv yX8_lays cX8_lays 4 none 3 := ⟨⟨gI 985 (by decide +kernel) rfl, gI 89 (by decide +kernel) rfl, ⟨by decide +kernel, by decide +kernel⟩, by decide +kernel⟩, gI 984 (by decide +kernel) rfl, gI 35 (by decide +kernel) rfl⟩
theorem bp_42 : (Int8.ofInt 42).toInt32 = Int32.ofInt 42 ∧ inR 42 := ⟨by decide +kernel, inr_b rfl⟩
theorem wo_X6 : Cond.methodLink RX6 3 objectInit ∈ gT ∧ Cond.instanceMethod objectInit ∈ gT ∧ Cond.code objectInit ⟨#[0xb1]⟩ 1 none ∈ gT := ⟨gI 104 (by decide +kernel) rfl, gI 97 (by decide +kernel) rfl, gI 98 (by decide +kernel) rfl⟩
theorem wa_int : Cond.arrayClass .int ∈ gT := gI 114 (by decide +kernel) rfl
theorem ff_X6_9 : FF RX6 9 6 0 := ⟨_, _, _, _, ci_X6, by decide, gI 105 (by decide +kernel) rfl, rfl, rfl, fun _ => ⟨rfl, rfl⟩⟩
theorem wo_X0 : Cond.methodLink RX0 3 objectInit ∈ gT ∧ Cond.instanceMethod objectInit ∈ gT ∧ Cond.code objectInit ⟨#[0xb1]⟩ 1 none ∈ gT := ⟨gI 120 (by decide +kernel) rfl, gI 97 (by decide +kernel) rfl, gI 98 (by decide +kernel) rfl⟩
theorem ff_X0_9 : FF RX0 9 0 0 := ⟨_, _, _, _, ci_X0, by decide, gI 121 (by decide +kernel) rfl, rfl, rfl, fun _ => ⟨rfl, rfl⟩⟩
theorem wo_X2 : Cond.methodLink RX2 3 objectInit ∈ gT ∧ Cond.instanceMethod objectInit ∈ gT ∧ Cond.code objectInit ⟨#[0xb1]⟩ 1 none ∈ gT := ⟨gI 181 (by decide +kernel) rfl, gI 97 (by decide +kernel) rfl, gI 98 (by decide +kernel) rfl⟩
theorem ff_X2_27 : FF RX2 27 2 5 := ⟨_, _, _, _, ci_X2, by decide, gI 189 (by decide +kernel) rfl, rfl, rfl, fun _ => ⟨rfl, rfl⟩⟩
theorem ff_X2_31 : FF RX2 31 2 6 := ⟨_, _, _, _, ci_X2, by decide, gI 190 (by decide +kernel) rfl, rfl, rfl, fun _ => ⟨rfl, rfl⟩⟩
theorem ff_X2_34 : FF RX2 34 2 7 := ⟨_, _, _, _, ci_X2, by decide, gI 191 (by decide +kernel) rfl, rfl, rfl, fun _ => ⟨rfl, rfl⟩⟩
theorem ff_X2_37 : FF RX2 37 2 8 := ⟨_, _, _, _, ci_X2, by decide, gI 192 (by decide +kernel) rfl, rfl, rfl, fun _ => ⟨rfl, rfl⟩⟩
theorem wo_X3 : Cond.methodLink RX3 3 objectInit ∈ gT ∧ Cond.instanceMethod objectInit ∈ gT ∧ Cond.code objectInit ⟨#[0xb1]⟩ 1 none ∈ gT := ⟨gI 218 (by decide +kernel) rfl, gI 97 (by decide +kernel) rfl, gI 98 (by decide +kernel) rfl⟩
theorem ff_X3_9 : FF RX3 9 3 0 := ⟨_, _, _, _, ci_X3, by decide, gI 219 (by decide +kernel) rfl, rfl, rfl, fun _ => ⟨rfl, rfl⟩⟩
theorem ff_X3_15 : FF RX3 15 3 1 := ⟨_, _, _, _, ci_X3, by decide, gI 223 (by decide +kernel) rfl, rfl, rfl, fun _ => ⟨rfl, rfl⟩⟩
theorem ff_X3_18 : FF RX3 18 3 2 := ⟨_, _, _, _, ci_X3, by decide, gI 227 (by decide +kernel) rfl, rfl, rfl, fun _ => ⟨rfl, rfl⟩⟩
theorem ff_X3_21 : FF RX3 21 3 3 := ⟨_, _, _, _, ci_X3, by decide, gI 228 (by decide +kernel) rfl, rfl, rfl, fun _ => ⟨rfl, rfl⟩⟩
theorem wa_boolean : Cond.arrayClass .boolean ∈ gT := gI 260 (by decide +kernel) rfl
theorem ff_X3_24 : FF RX3 24 3 4 := ⟨_, _, _, _, ci_X3, by decide, gI 231 (by decide +kernel) rfl, rfl, rfl, fun _ => ⟨rfl, rfl⟩⟩
theorem ff_X3_28 : FF RX3 28 3 5 := ⟨_, _, _, _, ci_X3, by decide, gI 232 (by decide +kernel) rfl, rfl, rfl, fun _ => ⟨rfl, rfl⟩⟩
theorem wo_X1 : Cond.methodLink RX1 3 objectInit ∈ gT ∧ Cond.instanceMethod objectInit ∈ gT ∧ Cond.code objectInit ⟨#[0xb1]⟩ 1 none ∈ gT := ⟨gI 266 (by decide +kernel) rfl, gI 97 (by decide +kernel) rfl, gI 98 (by decide +kernel) rfl⟩
theorem ff_X1_11 : FF RX1 11 1 4 := ⟨_, _, _, _, ci_X1, by decide, gI 271 (by decide +kernel) rfl, rfl, rfl, fun _ => ⟨rfl, rfl⟩⟩
theorem ff_X1_15 : FF RX1 15 1 5 := ⟨_, _, _, _, ci_X1, by decide, gI 272 (by decide +kernel) rfl, rfl, rfl, fun _ => ⟨rfl, rfl⟩⟩
theorem ff_X1_18 : FF RX1 18 1 6 := ⟨_, _, _, _, ci_X1, by decide, gI 273 (by decide +kernel) rfl, rfl, rfl, fun _ => ⟨rfl, rfl⟩⟩
theorem ff_X1_21 : FF RX1 21 1 7 := ⟨_, _, _, _, ci_X1, by decide, gI 274 (by decide +kernel) rfl, rfl, rfl, fun _ => ⟨rfl, rfl⟩⟩
theorem ff_X1_24 : FF RX1 24 1 8 := ⟨_, _, _, _, ci_X1, by decide, gI 275 (by decide +kernel) rfl, rfl, rfl, fun _ => ⟨rfl, rfl⟩⟩
theorem ff_X1_27 : FF RX1 27 1 9 := ⟨_, _, _, _, ci_X1, by decide, gI 276 (by decide +kernel) rfl, rfl, rfl, fun _ => ⟨rfl, rfl⟩⟩
theorem ff_X1_30 : FF RX1 30 1 10 := ⟨_, _, _, _, ci_X1, by decide, gI 277 (by decide +kernel) rfl, rfl, rfl, fun _ => ⟨rfl, rfl⟩⟩
theorem ff_X1_33 : FF RX1 33 1 11 := ⟨_, _, _, _, ci_X1, by decide, gI 278 (by decide +kernel) rfl, rfl, rfl, fun _ => ⟨rfl, rfl⟩⟩
theorem ff_X1_36 : FF RX1 36 1 12 := ⟨_, _, _, _, ci_X1, by decide, gI 279 (by decide +kernel) rfl, rfl, rfl, fun _ => ⟨rfl, rfl⟩⟩
theorem ff_X1_39 : FF RX1 39 1 13 := ⟨_, _, _, _, ci_X1, by decide, gI 280 (by decide +kernel) rfl, rfl, rfl, fun _ => ⟨rfl, rfl⟩⟩
theorem ff_X1_42 : FF RX1 42 1 14 := ⟨_, _, _, _, ci_X1, by decide, gI 281 (by decide +kernel) rfl, rfl, rfl, fun _ => ⟨rfl, rfl⟩⟩
theorem ff_X1_45 : FF RX1 45 1 15 := ⟨_, _, _, _, ci_X1, by decide, gI 283 (by decide +kernel) rfl, rfl, rfl, fun _ => ⟨rfl, rfl⟩⟩
theorem ff_X1_59 : FF RX1 59 1 0 := ⟨_, _, _, _, ci_X1, by decide, gI 267 (by decide +kernel) rfl, rfl, rfl, fun _ => ⟨rfl, rfl⟩⟩
theorem ff_X1_63 : FF RX1 63 1 1 := ⟨_, _, _, _, ci_X1, by decide, gI 268 (by decide +kernel) rfl, rfl, rfl, fun _ => ⟨rfl, rfl⟩⟩
theorem fl_X1_67 : FL RX1 67 2 8 := ⟨_, _, _, _, ci_X2, by decide, gI 193 (by decide +kernel) rfl⟩
theorem ff_X1_72 : FF RX1 72 1 2 := ⟨_, _, _, _, ci_X1, by decide, gI 269 (by decide +kernel) rfl, rfl, rfl, fun _ => ⟨rfl, rfl⟩⟩
theorem fl_X1_73 : FL RX1 73 5 4 := ⟨_, _, _, _, ci_X5, by decide, gI 153 (by decide +kernel) rfl⟩
theorem ff_X1_78 : FF RX1 78 1 3 := ⟨_, _, _, _, ci_X1, by decide, gI 270 (by decide +kernel) rfl, rfl, rfl, fun _ => ⟨rfl, rfl⟩⟩
theorem wo_X4 : Cond.methodLink RX4 3 objectInit ∈ gT ∧ Cond.instanceMethod objectInit ∈ gT ∧ Cond.code objectInit ⟨#[0xb1]⟩ 1 none ∈ gT := ⟨gI 333 (by decide +kernel) rfl, gI 97 (by decide +kernel) rfl, gI 98 (by decide +kernel) rfl⟩
theorem ff_X4_9 : FF RX4 9 4 3 := ⟨_, _, _, _, ci_X4, by decide, gI 337 (by decide +kernel) rfl, rfl, rfl, fun _ => ⟨rfl, rfl⟩⟩
theorem ff_X4_15 : FF RX4 15 4 4 := ⟨_, _, _, _, ci_X4, by decide, gI 338 (by decide +kernel) rfl, rfl, rfl, fun _ => ⟨rfl, rfl⟩⟩
theorem ff_X4_18 : FF RX4 18 4 5 := ⟨_, _, _, _, ci_X4, by decide, gI 340 (by decide +kernel) rfl, rfl, rfl, fun _ => ⟨rfl, rfl⟩⟩
theorem ff_X4_21 : FF RX4 21 4 6 := ⟨_, _, _, _, ci_X4, by decide, gI 342 (by decide +kernel) rfl, rfl, rfl, fun _ => ⟨rfl, rfl⟩⟩
theorem ff_X4_50 : FF RX4 50 4 0 := ⟨_, _, _, _, ci_X4, by decide, gI 334 (by decide +kernel) rfl, rfl, rfl, fun _ => ⟨rfl, rfl⟩⟩
theorem ff_X4_54 : FF RX4 54 4 1 := ⟨_, _, _, _, ci_X4, by decide, gI 335 (by decide +kernel) rfl, rfl, rfl, fun _ => ⟨rfl, rfl⟩⟩
theorem fl_X4_58 : FL RX4 58 1 15 := ⟨_, _, _, _, ci_X1, by decide, gI 282 (by decide +kernel) rfl⟩
theorem ff_X4_63 : FF RX4 63 4 2 := ⟨_, _, _, _, ci_X4, by decide, gI 336 (by decide +kernel) rfl, rfl, rfl, fun _ => ⟨rfl, rfl⟩⟩
theorem wo_X5 : Cond.methodLink RX5 3 objectInit ∈ gT ∧ Cond.instanceMethod objectInit ∈ gT ∧ Cond.code objectInit ⟨#[0xb1]⟩ 1 none ∈ gT := ⟨gI 136 (by decide +kernel) rfl, gI 97 (by decide +kernel) rfl, gI 98 (by decide +kernel) rfl⟩
theorem ff_X5_24 : FF RX5 24 5 4 := ⟨_, _, _, _, ci_X5, by decide, gI 152 (by decide +kernel) rfl, rfl, rfl, fun _ => ⟨rfl, rfl⟩⟩
theorem ff_X5_31 : FF RX5 31 5 6 := ⟨_, _, _, _, ci_X5, by decide, gI 157 (by decide +kernel) rfl, rfl, rfl, fun _ => ⟨rfl, rfl⟩⟩
theorem wo_X7 : Cond.methodLink RX7 1 objectInit ∈ gT ∧ Cond.instanceMethod objectInit ∈ gT ∧ Cond.code objectInit ⟨#[0xb1]⟩ 1 none ∈ gT := ⟨gI 96 (by decide +kernel) rfl, gI 97 (by decide +kernel) rfl, gI 98 (by decide +kernel) rfl⟩
theorem fn_X7_7 : FNw RX7 7 6 2 [.null, .int 0] := ⟨_, _, _, ci_X6, gI 99 (by decide +kernel) rfl, gI 100 (by decide +kernel) rfl, gI 75 (by decide +kernel) rfl, fun j hj => (show ∀ j, j < 2 → defaultValue (tyX6 j) = vp_V [.null, .int 0] j by decide) j hj⟩
theorem mi_X6_init : MWi yX6_init cX6_init 1 0 := ⟨⟨gI 103 (by decide +kernel) rfl, gI 75 (by decide +kernel) rfl, ⟨by decide +kernel, by decide +kernel⟩, by decide +kernel⟩, gI 102 (by decide +kernel) rfl, rfl⟩
theorem ff_X7_10 : FF RX7 10 7 0 := ⟨_, _, _, _, ci_X7, by decide, gI 619 (by decide +kernel) rfl, rfl, rfl, fun _ => ⟨rfl, rfl⟩⟩
theorem fn_X7_16 : FNw RX7 16 0 2 [.null, .int 0] := ⟨_, _, _, ci_X0, gI 115 (by decide +kernel) rfl, gI 116 (by decide +kernel) rfl, gI 76 (by decide +kernel) rfl, fun j hj => (show ∀ j, j < 2 → defaultValue (tyX0 j) = vp_V [.null, .int 0] j by decide) j hj⟩
theorem mi_X0_init : MWi yX0_init cX0_init 1 0 := ⟨⟨gI 119 (by decide +kernel) rfl, gI 76 (by decide +kernel) rfl, ⟨by decide +kernel, by decide +kernel⟩, by decide +kernel⟩, gI 118 (by decide +kernel) rfl, rfl⟩
theorem ff_X7_19 : FF RX7 19 7 1 := ⟨_, _, _, _, ci_X7, by decide, gI 620 (by decide +kernel) rfl, rfl, rfl, fun _ => ⟨rfl, rfl⟩⟩
theorem fn_X7_23 : FNw RX7 23 5 8 [.int 0, .int 0, .int 0, .int 0, .null, .int 0, .null, .int 0] := ⟨_, _, _, ci_X5, gI 131 (by decide +kernel) rfl, gI 132 (by decide +kernel) rfl, gI 77 (by decide +kernel) rfl, fun j hj => (show ∀ j, j < 8 → defaultValue (tyX5 j) = vp_V [.int 0, .int 0, .int 0, .int 0, .null, .int 0, .null, .int 0] j by decide) j hj⟩
theorem mi_X5_init : MWi yX5_init cX5_init 1 0 := ⟨⟨gI 135 (by decide +kernel) rfl, gI 77 (by decide +kernel) rfl, ⟨by decide +kernel, by decide +kernel⟩, by decide +kernel⟩, gI 134 (by decide +kernel) rfl, rfl⟩
theorem ln_X7_25 : Cond.methodLink RX7 25 yX5_init ∈ gT := gI 133 (by decide +kernel) rfl
theorem ff_X7_26 : FF RX7 26 7 2 := ⟨_, _, _, _, ci_X7, by decide, gI 621 (by decide +kernel) rfl, rfl, rfl, fun _ => ⟨rfl, rfl⟩⟩
theorem fn_X7_30 : FNw RX7 30 2 9 [.int 0, .int 0, .int 0, .int 0, .int 0, .null, .null, .null, .null] := ⟨_, _, _, ci_X2, gI 176 (by decide +kernel) rfl, gI 177 (by decide +kernel) rfl, gI 79 (by decide +kernel) rfl, fun j hj => (show ∀ j, j < 9 → defaultValue (tyX2 j) = vp_V [.int 0, .int 0, .int 0, .int 0, .int 0, .null, .null, .null, .null] j by decide) j hj⟩
theorem mi_X2_init : MWi yX2_init cX2_init 1 0 := ⟨⟨gI 180 (by decide +kernel) rfl, gI 79 (by decide +kernel) rfl, ⟨by decide +kernel, by decide +kernel⟩, by decide +kernel⟩, gI 179 (by decide +kernel) rfl, rfl⟩
theorem ff_X7_33 : FF RX7 33 7 3 := ⟨_, _, _, _, ci_X7, by decide, gI 622 (by decide +kernel) rfl, rfl, rfl, fun _ => ⟨rfl, rfl⟩⟩
theorem fn_X7_37 : FNw RX7 37 3 9 [.null, .null, .null, .null, .null, .null, .int 0, .int 0, .int 0] := ⟨_, _, _, ci_X3, gI 213 (by decide +kernel) rfl, gI 214 (by decide +kernel) rfl, gI 80 (by decide +kernel) rfl, fun j hj => (show ∀ j, j < 9 → defaultValue (tyX3 j) = vp_V [.null, .null, .null, .null, .null, .null, .int 0, .int 0, .int 0] j by decide) j hj⟩
theorem mi_X3_init : MWi yX3_init cX3_init 1 0 := ⟨⟨gI 217 (by decide +kernel) rfl, gI 80 (by decide +kernel) rfl, ⟨by decide +kernel, by decide +kernel⟩, by decide +kernel⟩, gI 216 (by decide +kernel) rfl, rfl⟩
theorem ff_X7_40 : FF RX7 40 7 4 := ⟨_, _, _, _, ci_X7, by decide, gI 623 (by decide +kernel) rfl, rfl, rfl, fun _ => ⟨rfl, rfl⟩⟩
theorem ff_X7_44 : FF RX7 44 7 5 := ⟨_, _, _, _, ci_X7, by decide, gI 624 (by decide +kernel) rfl, rfl, rfl, fun _ => ⟨rfl, rfl⟩⟩
theorem fn_X7_47 : FNw RX7 47 1 19 [.null, .null, .null, .null, .null, .null, .null, .null, .null, .null, .null, .null, .null, .null, .null, .null, .int 0, .int 0, .int 0] := ⟨_, _, _, ci_X1, gI 261 (by decide +kernel) rfl, gI 262 (by decide +kernel) rfl, gI 81 (by decide +kernel) rfl, fun j hj => (show ∀ j, j < 19 → defaultValue (tyX1 j) = vp_V [.null, .null, .null, .null, .null, .null, .null, .null, .null, .null, .null, .null, .null, .null, .null, .null, .int 0, .int 0, .int 0] j by decide) j hj⟩
theorem mi_X1_init : MWi yX1_init cX1_init 4 3 := ⟨⟨gI 265 (by decide +kernel) rfl, gI 81 (by decide +kernel) rfl, ⟨by decide +kernel, by decide +kernel⟩, by decide +kernel⟩, gI 264 (by decide +kernel) rfl, rfl⟩
theorem ln_X7_49 : Cond.methodLink RX7 49 yX1_init ∈ gT := gI 263 (by decide +kernel) rfl
theorem ff_X7_52 : FF RX7 52 7 6 := ⟨_, _, _, _, ci_X7, by decide, gI 625 (by decide +kernel) rfl, rfl, rfl, fun _ => ⟨rfl, rfl⟩⟩
theorem fn_X7_56 : FNw RX7 56 4 15 [.null, .null, .null, .null, .null, .null, .null, .int 0, .int 0, .int 0, .int 0, .int 0, .int 0, .int 0, .int 0] := ⟨_, _, _, ci_X4, gI 328 (by decide +kernel) rfl, gI 329 (by decide +kernel) rfl, gI 82 (by decide +kernel) rfl, fun j hj => (show ∀ j, j < 15 → defaultValue (tyX4 j) = vp_V [.null, .null, .null, .null, .null, .null, .null, .int 0, .int 0, .int 0, .int 0, .int 0, .int 0, .int 0, .int 0] j by decide) j hj⟩
theorem mi_X4_init : MWi yX4_init cX4_init 4 3 := ⟨⟨gI 332 (by decide +kernel) rfl, gI 82 (by decide +kernel) rfl, ⟨by decide +kernel, by decide +kernel⟩, by decide +kernel⟩, gI 331 (by decide +kernel) rfl, rfl⟩
theorem ln_X7_58 : Cond.methodLink RX7 58 yX4_init ∈ gT := gI 330 (by decide +kernel) rfl
theorem ff_X7_61 : FF RX7 61 7 7 := ⟨_, _, _, _, ci_X7, by decide, gI 626 (by decide +kernel) rfl, rfl, rfl, fun _ => ⟨rfl, rfl⟩⟩
theorem wo_X8 : Cond.methodLink RX8 1 objectInit ∈ gT ∧ Cond.instanceMethod objectInit ∈ gT ∧ Cond.code objectInit ⟨#[0xb1]⟩ 1 none ∈ gT := ⟨gI 981 (by decide +kernel) rfl, gI 97 (by decide +kernel) rfl, gI 98 (by decide +kernel) rfl⟩
theorem ff_X8_7 : FF RX8 7 8 0 := ⟨_, _, _, _, ci_X8, by decide, gI 1018 (by decide +kernel) rfl, rfl, rfl, fun _ => ⟨rfl, rfl⟩⟩
theorem ff_X8_13 : FF RX8 13 8 1 := ⟨_, _, _, _, ci_X8, by decide, gI 1019 (by decide +kernel) rfl, rfl, rfl, fun _ => ⟨rfl, rfl⟩⟩
theorem ff_X8_16 : FF RX8 16 8 4 := ⟨_, _, _, _, ci_X8, by decide, gI 1022 (by decide +kernel) rfl, rfl, rfl, fun _ => ⟨rfl, rfl⟩⟩
theorem ff_X8_19 : FF RX8 19 8 5 := ⟨_, _, _, _, ci_X8, by decide, gI 1023 (by decide +kernel) rfl, rfl, rfl, fun _ => ⟨rfl, rfl⟩⟩
theorem ff_X8_22 : FF RX8 22 8 6 := ⟨_, _, _, _, ci_X8, by decide, gI 1024 (by decide +kernel) rfl, rfl, rfl, fun _ => ⟨rfl, rfl⟩⟩
theorem ff_X8_25 : FF RX8 25 8 7 := ⟨_, _, _, _, ci_X8, by decide, gI 1025 (by decide +kernel) rfl, rfl, rfl, fun _ => ⟨rfl, rfl⟩⟩
theorem ff_X8_28 : FF RX8 28 8 8 := ⟨_, _, _, _, ci_X8, by decide, gI 1026 (by decide +kernel) rfl, rfl, rfl, fun _ => ⟨rfl, rfl⟩⟩
theorem ff_X8_31 : FF RX8 31 8 11 := ⟨_, _, _, _, ci_X8, by decide, gI 1029 (by decide +kernel) rfl, rfl, rfl, fun _ => ⟨rfl, rfl⟩⟩
theorem ff_X8_34 : FF RX8 34 8 12 := ⟨_, _, _, _, ci_X8, by decide, gI 1030 (by decide +kernel) rfl, rfl, rfl, fun _ => ⟨rfl, rfl⟩⟩
theorem ff_X8_37 : FF RX8 37 8 13 := ⟨_, _, _, _, ci_X8, by decide, gI 1031 (by decide +kernel) rfl, rfl, rfl, fun _ => ⟨rfl, rfl⟩⟩
theorem ff_X8_40 : FF RX8 40 8 15 := ⟨_, _, _, _, ci_X8, by decide, gI 1033 (by decide +kernel) rfl, rfl, rfl, fun _ => ⟨rfl, rfl⟩⟩
theorem ff_X8_43 : FF RX8 43 8 17 := ⟨_, _, _, _, ci_X8, by decide, gI 1035 (by decide +kernel) rfl, rfl, rfl, fun _ => ⟨rfl, rfl⟩⟩
theorem ff_X8_46 : FF RX8 46 8 18 := ⟨_, _, _, _, ci_X8, by decide, gI 1036 (by decide +kernel) rfl, rfl, rfl, fun _ => ⟨rfl, rfl⟩⟩
theorem ff_X8_49 : FF RX8 49 8 19 := ⟨_, _, _, _, ci_X8, by decide, gI 1037 (by decide +kernel) rfl, rfl, rfl, fun _ => ⟨rfl, rfl⟩⟩
theorem ff_X8_52 : FF RX8 52 8 21 := ⟨_, _, _, _, ci_X8, by decide, gI 1039 (by decide +kernel) rfl, rfl, rfl, fun _ => ⟨rfl, rfl⟩⟩
theorem ff_X8_55 : FF RX8 55 8 22 := ⟨_, _, _, _, ci_X8, by decide, gI 1040 (by decide +kernel) rfl, rfl, rfl, fun _ => ⟨rfl, rfl⟩⟩
theorem ff_X8_58 : FF RX8 58 8 26 := ⟨_, _, _, _, ci_X8, by decide, gI 1044 (by decide +kernel) rfl, rfl, rfl, fun _ => ⟨rfl, rfl⟩⟩
theorem ff_X8_61 : FF RX8 61 8 28 := ⟨_, _, _, _, ci_X8, by decide, gI 1046 (by decide +kernel) rfl, rfl, rfl, fun _ => ⟨rfl, rfl⟩⟩
theorem ff_X8_64 : FF RX8 64 8 29 := ⟨_, _, _, _, ci_X8, by decide, gI 1047 (by decide +kernel) rfl, rfl, rfl, fun _ => ⟨rfl, rfl⟩⟩
theorem ff_X8_67 : FF RX8 67 8 30 := ⟨_, _, _, _, ci_X8, by decide, gI 1048 (by decide +kernel) rfl, rfl, rfl, fun _ => ⟨rfl, rfl⟩⟩
theorem ff_X8_70 : FF RX8 70 8 33 := ⟨_, _, _, _, ci_X8, by decide, gI 1051 (by decide +kernel) rfl, rfl, rfl, fun _ => ⟨rfl, rfl⟩⟩
theorem ff_X8_73 : FF RX8 73 8 34 := ⟨_, _, _, _, ci_X8, by decide, gI 1052 (by decide +kernel) rfl, rfl, rfl, fun _ => ⟨rfl, rfl⟩⟩
theorem ff_X8_76 : FF RX8 76 8 35 := ⟨_, _, _, _, ci_X8, by decide, gI 1053 (by decide +kernel) rfl, rfl, rfl, fun _ => ⟨rfl, rfl⟩⟩
theorem ff_X8_79 : FF RX8 79 8 36 := ⟨_, _, _, _, ci_X8, by decide, gI 1054 (by decide +kernel) rfl, rfl, rfl, fun _ => ⟨rfl, rfl⟩⟩
theorem ff_X8_82 : FF RX8 82 8 38 := ⟨_, _, _, _, ci_X8, by decide, gI 1056 (by decide +kernel) rfl, rfl, rfl, fun _ => ⟨rfl, rfl⟩⟩
theorem ff_X8_85 : FF RX8 85 8 39 := ⟨_, _, _, _, ci_X8, by decide, gI 1057 (by decide +kernel) rfl, rfl, rfl, fun _ => ⟨rfl, rfl⟩⟩
theorem ff_X8_92 : FF RX8 92 8 47 := ⟨_, _, _, _, ci_X8, by decide, gI 1065 (by decide +kernel) rfl, rfl, rfl, fun _ => ⟨rfl, rfl⟩⟩
theorem ff_X8_95 : FF RX8 95 8 51 := ⟨_, _, _, _, ci_X8, by decide, gI 1069 (by decide +kernel) rfl, rfl, rfl, fun _ => ⟨rfl, rfl⟩⟩
theorem ff_X8_98 : FF RX8 98 8 53 := ⟨_, _, _, _, ci_X8, by decide, gI 1071 (by decide +kernel) rfl, rfl, rfl, fun _ => ⟨rfl, rfl⟩⟩
theorem ff_X8_101 : FF RX8 101 8 54 := ⟨_, _, _, _, ci_X8, by decide, gI 1072 (by decide +kernel) rfl, rfl, rfl, fun _ => ⟨rfl, rfl⟩⟩
