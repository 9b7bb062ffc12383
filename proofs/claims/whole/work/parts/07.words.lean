theorem gX0 : ∀ w ∈ u_ws RX0 TX0 9, w ∈ gw := fun w hw => gw_of (inX0 w hw) ((by decide +kernel : ∀ w ∈ u_ws RX0 TX0 9, goodWord w = true) w hw)
theorem gX1 : ∀ w ∈ u_ws RX1 TX1 1, w ∈ gw := fun w hw => gw_of (inX1 w hw) ((by decide +kernel : ∀ w ∈ u_ws RX1 TX1 1, goodWord w = true) w hw)
theorem gX2 : ∀ w ∈ u_ws RX2 TX2 3, w ∈ gw := fun w hw => gw_of (inX2 w hw) ((by decide +kernel : ∀ w ∈ u_ws RX2 TX2 3, goodWord w = true) w hw)
theorem gX3 : ∀ w ∈ u_ws RX3 TX3 9, w ∈ gw := fun w hw => gw_of (inX3 w hw) ((by decide +kernel : ∀ w ∈ u_ws RX3 TX3 9, goodWord w = true) w hw)
theorem gX4 : ∀ w ∈ u_ws RX4 TX4 3, w ∈ gw := fun w hw => gw_of (inX4 w hw) ((by decide +kernel : ∀ w ∈ u_ws RX4 TX4 3, goodWord w = true) w hw)
theorem gX5 : ∀ w ∈ u_ws RX5 TX5 7, w ∈ gw := fun w hw => gw_of (inX5 w hw) ((by decide +kernel : ∀ w ∈ u_ws RX5 TX5 7, goodWord w = true) w hw)
theorem gX6 : ∀ w ∈ u_ws RX6 TX6 1, w ∈ gw := fun w hw => gw_of (inX6 w hw) ((by decide +kernel : ∀ w ∈ u_ws RX6 TX6 1, goodWord w = true) w hw)
theorem gX7 : ∀ w ∈ u_ws RX7 TX7 4, w ∈ gw := fun w hw => gw_of (inX7 w hw) ((by decide +kernel : ∀ w ∈ u_ws RX7 TX7 4, goodWord w = true) w hw)
theorem gX8 : ∀ w ∈ u_ws RX8 TX8 13, w ∈ gw := fun w hw => gw_of (inX8 w hw) ((by decide +kernel : ∀ w ∈ u_ws RX8 TX8 13, goodWord w = true) w hw)
theorem gX9 : ∀ w ∈ u_ws RX9 TX9 33, w ∈ gw := fun w hw => gw_of (inX9 w hw) ((by decide +kernel : ∀ w ∈ u_ws RX9 TX9 33, goodWord w = true) w hw)
theorem wF_RX0_7 : Cond.fieldLink RX0 7 (TX0 0).1 (TX0 0).2.1 (TX0 0).2.2.1 ∈ gw := gw_of (List.mem_of_getElem? (i := 335) (by decide +kernel)) rfl
theorem wF_RX0_13 : Cond.fieldLink RX0 13 (TX0 1).1 (TX0 1).2.1 (TX0 1).2.2.1 ∈ gw := gw_of (List.mem_of_getElem? (i := 338) (by decide +kernel)) rfl
theorem wF_RX0_16 : Cond.fieldLink RX0 16 (TX0 2).1 (TX0 2).2.1 (TX0 2).2.2.1 ∈ gw := gw_of (List.mem_of_getElem? (i := 342) (by decide +kernel)) rfl
theorem wF_RX0_19 : Cond.fieldLink RX0 19 (TX0 3).1 (TX0 3).2.1 (TX0 3).2.2.1 ∈ gw := gw_of (List.mem_of_getElem? (i := 346) (by decide +kernel)) rfl
theorem wF_RX0_22 : Cond.fieldLink RX0 22 (TX0 4).1 (TX0 4).2.1 (TX0 4).2.2.1 ∈ gw := gw_of (List.mem_of_getElem? (i := 349) (by decide +kernel)) rfl
theorem wF_RX0_25 : Cond.fieldLink RX0 25 (TX0 5).1 (TX0 5).2.1 (TX0 5).2.2.1 ∈ gw := gw_of (List.mem_of_getElem? (i := 351) (by decide +kernel)) rfl
theorem wF_RX1_11 : Cond.fieldLink RX1 11 (TX1 0).1 (TX1 0).2.1 (TX1 0).2.2.1 ∈ gw := gw_of (List.mem_of_getElem? (i := 145) (by decide +kernel)) rfl
theorem wF_RX1_21 : Cond.fieldLink RX1 21 (TX0 2).1 (TX0 2).2.1 (TX0 2).2.2.1 ∈ gw := gw_of (List.mem_of_getElem? (i := 344) (by decide +kernel)) rfl
theorem wF_RX1_28 : Cond.fieldLink RX1 28 (TX0 5).1 (TX0 5).2.1 (TX0 5).2.2.1 ∈ gw := gw_of (List.mem_of_getElem? (i := 352) (by decide +kernel)) rfl
theorem wF_RX1_36 : Cond.fieldLink RX1 36 (TX0 0).1 (TX0 0).2.1 (TX0 0).2.2.1 ∈ gw := gw_of (List.mem_of_getElem? (i := 336) (by decide +kernel)) rfl
theorem wF_RX1_53 : Cond.fieldLink RX1 53 (TX0 1).1 (TX0 1).2.1 (TX0 1).2.2.1 ∈ gw := gw_of (List.mem_of_getElem? (i := 341) (by decide +kernel)) rfl
theorem wF_RX2_7 : Cond.fieldLink RX2 7 (TX2 0).1 (TX2 0).2.1 (TX2 0).2.2.1 ∈ gw := gw_of (List.mem_of_getElem? (i := 91) (by decide +kernel)) rfl
theorem wF_RX2_13 : Cond.fieldLink RX2 13 (TX2 1).1 (TX2 1).2.1 (TX2 1).2.2.1 ∈ gw := gw_of (List.mem_of_getElem? (i := 93) (by decide +kernel)) rfl
theorem wF_RX3_9 : Cond.fieldLink RX3 9 (TX3 0).1 (TX3 0).2.1 (TX3 0).2.2.1 ∈ gw := gw_of (List.mem_of_getElem? (i := 103) (by decide +kernel)) rfl
theorem wF_RX3_17 : Cond.fieldLink RX3 17 (TX3 1).1 (TX3 1).2.1 (TX3 1).2.2.1 ∈ gw := gw_of (List.mem_of_getElem? (i := 104) (by decide +kernel)) rfl
theorem wF_RX3_24 : Cond.fieldLink RX3 24 (TX3 2).1 (TX3 2).2.1 (TX3 2).2.2.1 ∈ gw := gw_of (List.mem_of_getElem? (i := 105) (by decide +kernel)) rfl
theorem wF_RX3_28 : Cond.fieldLink RX3 28 (TX3 3).1 (TX3 3).2.1 (TX3 3).2.2.1 ∈ gw := gw_of (List.mem_of_getElem? (i := 106) (by decide +kernel)) rfl
theorem wF_RX3_31 : Cond.fieldLink RX3 31 (TX3 4).1 (TX3 4).2.1 (TX3 4).2.2.1 ∈ gw := gw_of (List.mem_of_getElem? (i := 108) (by decide +kernel)) rfl
theorem wF_RX3_45 : Cond.fieldLink RX3 45 (TX2 1).1 (TX2 1).2.1 (TX2 1).2.2.1 ∈ gw := gw_of (List.mem_of_getElem? (i := 94) (by decide +kernel)) rfl
theorem wF_RX3_48 : Cond.fieldLink RX3 48 (TX3 7).1 (TX3 7).2.1 (TX3 7).2.2.1 ∈ gw := gw_of (List.mem_of_getElem? (i := 114) (by decide +kernel)) rfl
theorem wF_RX3_51 : Cond.fieldLink RX3 51 (TX2 0).1 (TX2 0).2.1 (TX2 0).2.2.1 ∈ gw := gw_of (List.mem_of_getElem? (i := 92) (by decide +kernel)) rfl
theorem wF_RX3_63 : Cond.fieldLink RX3 63 (TX2 2).1 (TX2 2).2.1 (TX2 2).2.2.1 ∈ gw := gw_of (List.mem_of_getElem? (i := 95) (by decide +kernel)) rfl
theorem wF_RX3_66 : Cond.fieldLink RX3 66 (TX3 5).1 (TX3 5).2.1 (TX3 5).2.2.1 ∈ gw := gw_of (List.mem_of_getElem? (i := 110) (by decide +kernel)) rfl
theorem wF_RX3_69 : Cond.fieldLink RX3 69 (TX3 6).1 (TX3 6).2.1 (TX3 6).2.2.1 ∈ gw := gw_of (List.mem_of_getElem? (i := 112) (by decide +kernel)) rfl
theorem wF_RX3_88 : Cond.fieldLink RX3 88 (TX3 8).1 (TX3 8).2.1 (TX3 8).2.2.1 ∈ gw := gw_of (List.mem_of_getElem? (i := 116) (by decide +kernel)) rfl
theorem wF_RX4_9 : Cond.fieldLink RX4 9 (TX4 0).1 (TX4 0).2.1 (TX4 0).2.2.1 ∈ gw := gw_of (List.mem_of_getElem? (i := 177) (by decide +kernel)) rfl
theorem wF_RX4_15 : Cond.fieldLink RX4 15 (TX4 1).1 (TX4 1).2.1 (TX4 1).2.2.1 ∈ gw := gw_of (List.mem_of_getElem? (i := 178) (by decide +kernel)) rfl
theorem wF_RX4_18 : Cond.fieldLink RX4 18 (TX4 2).1 (TX4 2).2.1 (TX4 2).2.2.1 ∈ gw := gw_of (List.mem_of_getElem? (i := 179) (by decide +kernel)) rfl
theorem wF_RX5_7 : Cond.fieldLink RX5 7 (TX5 0).1 (TX5 0).2.1 (TX5 0).2.2.1 ∈ gw := gw_of (List.mem_of_getElem? (i := 195) (by decide +kernel)) rfl
theorem wF_RX5_13 : Cond.fieldLink RX5 13 (TX5 1).1 (TX5 1).2.1 (TX5 1).2.2.1 ∈ gw := gw_of (List.mem_of_getElem? (i := 196) (by decide +kernel)) rfl
theorem wF_RX5_17 : Cond.fieldLink RX5 17 (TX5 2).1 (TX5 2).2.1 (TX5 2).2.2.1 ∈ gw := gw_of (List.mem_of_getElem? (i := 197) (by decide +kernel)) rfl
theorem wF_RX5_21 : Cond.fieldLink RX5 21 (TX1 0).1 (TX1 0).2.1 (TX1 0).2.2.1 ∈ gw := gw_of (List.mem_of_getElem? (i := 146) (by decide +kernel)) rfl
theorem wF_RX5_29 : Cond.fieldLink RX5 29 (TX5 3).1 (TX5 3).2.1 (TX5 3).2.2.1 ∈ gw := gw_of (List.mem_of_getElem? (i := 198) (by decide +kernel)) rfl
theorem wF_RX5_32 : Cond.fieldLink RX5 32 (TX5 4).1 (TX5 4).2.1 (TX5 4).2.2.1 ∈ gw := gw_of (List.mem_of_getElem? (i := 199) (by decide +kernel)) rfl
theorem wF_RX5_41 : Cond.fieldLink RX5 41 (TX5 5).1 (TX5 5).2.1 (TX5 5).2.2.1 ∈ gw := gw_of (List.mem_of_getElem? (i := 200) (by decide +kernel)) rfl
theorem wF_RX5_52 : Cond.fieldLink RX5 52 (TX5 6).1 (TX5 6).2.1 (TX5 6).2.2.1 ∈ gw := gw_of (List.mem_of_getElem? (i := 201) (by decide +kernel)) rfl
theorem wF_RX5_69 : Cond.fieldLink RX5 69 (TX0 3).1 (TX0 3).2.1 (TX0 3).2.2.1 ∈ gw := gw_of (List.mem_of_getElem? (i := 348) (by decide +kernel)) rfl
theorem wF_RX5_76 : Cond.fieldLink RX5 76 (TX0 2).1 (TX0 2).2.1 (TX0 2).2.2.1 ∈ gw := gw_of (List.mem_of_getElem? (i := 345) (by decide +kernel)) rfl
theorem wF_RX5_85 : Cond.fieldLink RX5 85 (TX0 6).1 (TX0 6).2.1 (TX0 6).2.2.1 ∈ gw := gw_of (List.mem_of_getElem? (i := 354) (by decide +kernel)) rfl
theorem wF_RX5_91 : Cond.fieldLink RX5 91 (TX0 7).1 (TX0 7).2.1 (TX0 7).2.2.1 ∈ gw := gw_of (List.mem_of_getElem? (i := 355) (by decide +kernel)) rfl
theorem wF_RX6_7 : Cond.fieldLink RX6 7 (TX6 0).1 (TX6 0).2.1 (TX6 0).2.2.1 ∈ gw := gw_of (List.mem_of_getElem? (i := 72) (by decide +kernel)) rfl
theorem wF_RX7_7 : Cond.fieldLink RX7 7 (TX7 1).1 (TX7 1).2.1 (TX7 1).2.2.1 ∈ gw := gw_of (List.mem_of_getElem? (i := 157) (by decide +kernel)) rfl
theorem wF_RX7_13 : Cond.fieldLink RX7 13 (TX7 0).1 (TX7 0).2.1 (TX7 0).2.2.1 ∈ gw := gw_of (List.mem_of_getElem? (i := 156) (by decide +kernel)) rfl
theorem wF_RX7_16 : Cond.fieldLink RX7 16 (TX0 8).1 (TX0 8).2.1 (TX0 8).2.2.1 ∈ gw := gw_of (List.mem_of_getElem? (i := 357) (by decide +kernel)) rfl
theorem wF_RX7_21 : Cond.fieldLink RX7 21 (TX7 2).1 (TX7 2).2.1 (TX7 2).2.2.1 ∈ gw := gw_of (List.mem_of_getElem? (i := 158) (by decide +kernel)) rfl
theorem wF_RX7_25 : Cond.fieldLink RX7 25 (TX7 3).1 (TX7 3).2.1 (TX7 3).2.2.1 ∈ gw := gw_of (List.mem_of_getElem? (i := 160) (by decide +kernel)) rfl
theorem wF_RX7_28 : Cond.fieldLink RX7 28 (TX0 1).1 (TX0 1).2.1 (TX0 1).2.2.1 ∈ gw := gw_of (List.mem_of_getElem? (i := 339) (by decide +kernel)) rfl
theorem wF_RX8_18 : Cond.fieldLink RX8 18 (TX8 0).1 (TX8 0).2.1 (TX8 0).2.2.1 ∈ gw := gw_of (List.mem_of_getElem? (i := 217) (by decide +kernel)) rfl
theorem wF_RX8_22 : Cond.fieldLink RX8 22 (TX8 1).1 (TX8 1).2.1 (TX8 1).2.2.1 ∈ gw := gw_of (List.mem_of_getElem? (i := 218) (by decide +kernel)) rfl
theorem wF_RX8_26 : Cond.fieldLink RX8 26 (TX8 2).1 (TX8 2).2.1 (TX8 2).2.2.1 ∈ gw := gw_of (List.mem_of_getElem? (i := 219) (by decide +kernel)) rfl
theorem wF_RX8_32 : Cond.fieldLink RX8 32 (TX8 3).1 (TX8 3).2.1 (TX8 3).2.2.1 ∈ gw := gw_of (List.mem_of_getElem? (i := 220) (by decide +kernel)) rfl
theorem wF_RX8_39 : Cond.fieldLink RX8 39 (TX8 4).1 (TX8 4).2.1 (TX8 4).2.2.1 ∈ gw := gw_of (List.mem_of_getElem? (i := 221) (by decide +kernel)) rfl
theorem wF_RX8_46 : Cond.fieldLink RX8 46 (TX8 5).1 (TX8 5).2.1 (TX8 5).2.2.1 ∈ gw := gw_of (List.mem_of_getElem? (i := 222) (by decide +kernel)) rfl
theorem wF_RX8_50 : Cond.fieldLink RX8 50 (TX8 6).1 (TX8 6).2.1 (TX8 6).2.2.1 ∈ gw := gw_of (List.mem_of_getElem? (i := 223) (by decide +kernel)) rfl
theorem wF_RX8_57 : Cond.fieldLink RX8 57 (TX8 7).1 (TX8 7).2.1 (TX8 7).2.2.1 ∈ gw := gw_of (List.mem_of_getElem? (i := 224) (by decide +kernel)) rfl
theorem wF_RX8_66 : Cond.fieldLink RX8 66 (TX8 8).1 (TX8 8).2.1 (TX8 8).2.2.1 ∈ gw := gw_of (List.mem_of_getElem? (i := 225) (by decide +kernel)) rfl
theorem wF_RX8_74 : Cond.fieldLink RX8 74 (TX0 2).1 (TX0 2).2.1 (TX0 2).2.2.1 ∈ gw := gw_of (List.mem_of_getElem? (i := 343) (by decide +kernel)) rfl
theorem wF_RX8_90 : Cond.fieldLink RX8 90 (TX0 3).1 (TX0 3).2.1 (TX0 3).2.2.1 ∈ gw := gw_of (List.mem_of_getElem? (i := 347) (by decide +kernel)) rfl
theorem wF_RX8_132 : Cond.fieldLink RX8 132 (TX0 1).1 (TX0 1).2.1 (TX0 1).2.2.1 ∈ gw := gw_of (List.mem_of_getElem? (i := 340) (by decide +kernel)) rfl
theorem wF_RX8_135 : Cond.fieldLink RX8 135 (TX0 4).1 (TX0 4).2.1 (TX0 4).2.2.1 ∈ gw := gw_of (List.mem_of_getElem? (i := 350) (by decide +kernel)) rfl
theorem wF_RX8_138 : Cond.fieldLink RX8 138 (TX0 5).1 (TX0 5).2.1 (TX0 5).2.2.1 ∈ gw := gw_of (List.mem_of_getElem? (i := 353) (by decide +kernel)) rfl
theorem wF_RX8_149 : Cond.fieldLink RX8 149 (TX0 7).1 (TX0 7).2.1 (TX0 7).2.2.1 ∈ gw := gw_of (List.mem_of_getElem? (i := 356) (by decide +kernel)) rfl
theorem wF_RX8_155 : Cond.fieldLink RX8 155 (TX3 3).1 (TX3 3).2.1 (TX3 3).2.2.1 ∈ gw := gw_of (List.mem_of_getElem? (i := 107) (by decide +kernel)) rfl
theorem wF_RX8_158 : Cond.fieldLink RX8 158 (TX8 9).1 (TX8 9).2.1 (TX8 9).2.2.1 ∈ gw := gw_of (List.mem_of_getElem? (i := 226) (by decide +kernel)) rfl
theorem wF_RX8_161 : Cond.fieldLink RX8 161 (TX8 10).1 (TX8 10).2.1 (TX8 10).2.2.1 ∈ gw := gw_of (List.mem_of_getElem? (i := 227) (by decide +kernel)) rfl
theorem wF_RX8_164 : Cond.fieldLink RX8 164 (TX8 12).1 (TX8 12).2.1 (TX8 12).2.2.1 ∈ gw := gw_of (List.mem_of_getElem? (i := 229) (by decide +kernel)) rfl
theorem wF_RX8_167 : Cond.fieldLink RX8 167 (TX7 2).1 (TX7 2).2.1 (TX7 2).2.2.1 ∈ gw := gw_of (List.mem_of_getElem? (i := 159) (by decide +kernel)) rfl
theorem wF_RX8_170 : Cond.fieldLink RX8 170 (TX7 3).1 (TX7 3).2.1 (TX7 3).2.2.1 ∈ gw := gw_of (List.mem_of_getElem? (i := 161) (by decide +kernel)) rfl
theorem wF_RX8_173 : Cond.fieldLink RX8 173 (TX3 5).1 (TX3 5).2.1 (TX3 5).2.2.1 ∈ gw := gw_of (List.mem_of_getElem? (i := 111) (by decide +kernel)) rfl
theorem wF_RX8_176 : Cond.fieldLink RX8 176 (TX3 6).1 (TX3 6).2.1 (TX3 6).2.2.1 ∈ gw := gw_of (List.mem_of_getElem? (i := 113) (by decide +kernel)) rfl
theorem wF_RX8_179 : Cond.fieldLink RX8 179 (TX8 11).1 (TX8 11).2.1 (TX8 11).2.2.1 ∈ gw := gw_of (List.mem_of_getElem? (i := 228) (by decide +kernel)) rfl
theorem wF_RX8_182 : Cond.fieldLink RX8 182 (TX3 7).1 (TX3 7).2.1 (TX3 7).2.2.1 ∈ gw := gw_of (List.mem_of_getElem? (i := 115) (by decide +kernel)) rfl
theorem wF_RX8_185 : Cond.fieldLink RX8 185 (TX3 8).1 (TX3 8).2.1 (TX3 8).2.2.1 ∈ gw := gw_of (List.mem_of_getElem? (i := 117) (by decide +kernel)) rfl
theorem wF_RX8_188 : Cond.fieldLink RX8 188 (TX3 4).1 (TX3 4).2.1 (TX3 4).2.2.1 ∈ gw := gw_of (List.mem_of_getElem? (i := 109) (by decide +kernel)) rfl
theorem wF_RX8_191 : Cond.fieldLink RX8 191 (TX4 2).1 (TX4 2).2.1 (TX4 2).2.2.1 ∈ gw := gw_of (List.mem_of_getElem? (i := 180) (by decide +kernel)) rfl
theorem wF_RX8_194 : Cond.fieldLink RX8 194 (TX6 0).1 (TX6 0).2.1 (TX6 0).2.2.1 ∈ gw := gw_of (List.mem_of_getElem? (i := 73) (by decide +kernel)) rfl
theorem wF_RX8_248 : Cond.fieldLink RX8 248 (TX0 0).1 (TX0 0).2.1 (TX0 0).2.2.1 ∈ gw := gw_of (List.mem_of_getElem? (i := 337) (by decide +kernel)) rfl
theorem wF_RX9_7 : Cond.fieldLink RX9 7 (TX9 4).1 (TX9 4).2.1 (TX9 4).2.2.1 ∈ gw := gw_of (List.mem_of_getElem? (i := 699) (by decide +kernel)) rfl
theorem wF_RX9_13 : Cond.fieldLink RX9 13 (TX9 5).1 (TX9 5).2.1 (TX9 5).2.2.1 ∈ gw := gw_of (List.mem_of_getElem? (i := 700) (by decide +kernel)) rfl
theorem wF_RX9_17 : Cond.fieldLink RX9 17 (TX9 6).1 (TX9 6).2.1 (TX9 6).2.2.1 ∈ gw := gw_of (List.mem_of_getElem? (i := 701) (by decide +kernel)) rfl
theorem wF_RX9_20 : Cond.fieldLink RX9 20 (TX9 7).1 (TX9 7).2.1 (TX9 7).2.2.1 ∈ gw := gw_of (List.mem_of_getElem? (i := 702) (by decide +kernel)) rfl
theorem wF_RX9_23 : Cond.fieldLink RX9 23 (TX9 8).1 (TX9 8).2.1 (TX9 8).2.2.1 ∈ gw := gw_of (List.mem_of_getElem? (i := 703) (by decide +kernel)) rfl
theorem wF_RX9_26 : Cond.fieldLink RX9 26 (TX9 9).1 (TX9 9).2.1 (TX9 9).2.2.1 ∈ gw := gw_of (List.mem_of_getElem? (i := 704) (by decide +kernel)) rfl
theorem wF_RX9_29 : Cond.fieldLink RX9 29 (TX9 10).1 (TX9 10).2.1 (TX9 10).2.2.1 ∈ gw := gw_of (List.mem_of_getElem? (i := 705) (by decide +kernel)) rfl
theorem wF_RX9_32 : Cond.fieldLink RX9 32 (TX9 11).1 (TX9 11).2.1 (TX9 11).2.2.1 ∈ gw := gw_of (List.mem_of_getElem? (i := 706) (by decide +kernel)) rfl
theorem wF_RX9_35 : Cond.fieldLink RX9 35 (TX9 13).1 (TX9 13).2.1 (TX9 13).2.2.1 ∈ gw := gw_of (List.mem_of_getElem? (i := 708) (by decide +kernel)) rfl
theorem wF_RX9_38 : Cond.fieldLink RX9 38 (TX9 14).1 (TX9 14).2.1 (TX9 14).2.2.1 ∈ gw := gw_of (List.mem_of_getElem? (i := 709) (by decide +kernel)) rfl
theorem wF_RX9_41 : Cond.fieldLink RX9 41 (TX9 22).1 (TX9 22).2.1 (TX9 22).2.2.1 ∈ gw := gw_of (List.mem_of_getElem? (i := 717) (by decide +kernel)) rfl
theorem wF_RX9_44 : Cond.fieldLink RX9 44 (TX9 23).1 (TX9 23).2.1 (TX9 23).2.2.1 ∈ gw := gw_of (List.mem_of_getElem? (i := 718) (by decide +kernel)) rfl
theorem wF_RX9_47 : Cond.fieldLink RX9 47 (TX9 24).1 (TX9 24).2.1 (TX9 24).2.2.1 ∈ gw := gw_of (List.mem_of_getElem? (i := 719) (by decide +kernel)) rfl
theorem wF_RX9_50 : Cond.fieldLink RX9 50 (TX9 25).1 (TX9 25).2.1 (TX9 25).2.2.1 ∈ gw := gw_of (List.mem_of_getElem? (i := 720) (by decide +kernel)) rfl
theorem wF_RX9_53 : Cond.fieldLink RX9 53 (TX9 26).1 (TX9 26).2.1 (TX9 26).2.2.1 ∈ gw := gw_of (List.mem_of_getElem? (i := 721) (by decide +kernel)) rfl
theorem wF_RX9_57 : Cond.fieldLink RX9 57 (TX9 27).1 (TX9 27).2.1 (TX9 27).2.2.1 ∈ gw := gw_of (List.mem_of_getElem? (i := 722) (by decide +kernel)) rfl
theorem wF_RX9_60 : Cond.fieldLink RX9 60 (TX9 28).1 (TX9 28).2.1 (TX9 28).2.2.1 ∈ gw := gw_of (List.mem_of_getElem? (i := 723) (by decide +kernel)) rfl
theorem wF_RX9_63 : Cond.fieldLink RX9 63 (TX9 29).1 (TX9 29).2.1 (TX9 29).2.2.1 ∈ gw := gw_of (List.mem_of_getElem? (i := 724) (by decide +kernel)) rfl
theorem wF_RX9_66 : Cond.fieldLink RX9 66 (TX9 30).1 (TX9 30).2.1 (TX9 30).2.2.1 ∈ gw := gw_of (List.mem_of_getElem? (i := 725) (by decide +kernel)) rfl
theorem wF_RX9_69 : Cond.fieldLink RX9 69 (TX9 31).1 (TX9 31).2.1 (TX9 31).2.2.1 ∈ gw := gw_of (List.mem_of_getElem? (i := 726) (by decide +kernel)) rfl
theorem wF_RX9_76 : Cond.fieldLink RX9 76 (TX9 0).1 (TX9 0).2.1 (TX9 0).2.2.1 ∈ gw := gw_of (List.mem_of_getElem? (i := 695) (by decide +kernel)) rfl
theorem wF_RX9_79 : Cond.fieldLink RX9 79 (TX9 1).1 (TX9 1).2.1 (TX9 1).2.2.1 ∈ gw := gw_of (List.mem_of_getElem? (i := 696) (by decide +kernel)) rfl
theorem wF_RX9_82 : Cond.fieldLink RX9 82 (TX9 2).1 (TX9 2).2.1 (TX9 2).2.2.1 ∈ gw := gw_of (List.mem_of_getElem? (i := 697) (by decide +kernel)) rfl
theorem wF_RX9_85 : Cond.fieldLink RX9 85 (TX9 3).1 (TX9 3).2.1 (TX9 3).2.2.1 ∈ gw := gw_of (List.mem_of_getElem? (i := 698) (by decide +kernel)) rfl
theorem wF_RX9_88 : Cond.fieldLink RX9 88 (TX9 12).1 (TX9 12).2.1 (TX9 12).2.2.1 ∈ gw := gw_of (List.mem_of_getElem? (i := 707) (by decide +kernel)) rfl
theorem wF_RX9_102 : Cond.fieldLink RX9 102 (TX9 21).1 (TX9 21).2.1 (TX9 21).2.2.1 ∈ gw := gw_of (List.mem_of_getElem? (i := 716) (by decide +kernel)) rfl
theorem wF_RX9_105 : Cond.fieldLink RX9 105 (TX9 15).1 (TX9 15).2.1 (TX9 15).2.2.1 ∈ gw := gw_of (List.mem_of_getElem? (i := 710) (by decide +kernel)) rfl
theorem wF_RX9_120 : Cond.fieldLink RX9 120 (TX9 20).1 (TX9 20).2.1 (TX9 20).2.2.1 ∈ gw := gw_of (List.mem_of_getElem? (i := 715) (by decide +kernel)) rfl
theorem wF_RX9_126 : Cond.fieldLink RX9 126 (TX9 19).1 (TX9 19).2.1 (TX9 19).2.2.1 ∈ gw := gw_of (List.mem_of_getElem? (i := 714) (by decide +kernel)) rfl
theorem wF_RX9_139 : Cond.fieldLink RX9 139 (TX9 18).1 (TX9 18).2.1 (TX9 18).2.2.1 ∈ gw := gw_of (List.mem_of_getElem? (i := 713) (by decide +kernel)) rfl
theorem wF_RX9_157 : Cond.fieldLink RX9 157 (TX9 16).1 (TX9 16).2.1 (TX9 16).2.2.1 ∈ gw := gw_of (List.mem_of_getElem? (i := 711) (by decide +kernel)) rfl
theorem wF_RX9_160 : Cond.fieldLink RX9 160 (TX9 17).1 (TX9 17).2.1 (TX9 17).2.2.1 ∈ gw := gw_of (List.mem_of_getElem? (i := 712) (by decide +kernel)) rfl
theorem wF_RX9_190 : Cond.fieldLink RX9 190 (TX9 32).1 (TX9 32).2.1 (TX9 32).2.2.1 ∈ gw := gw_of (List.mem_of_getElem? (i := 727) (by decide +kernel)) rfl
theorem wM_RL_7 : Cond.methodLink RL 7 yX8_describe ∈ gw := gw_of (List.mem_of_getElem? (i := 591) (by decide +kernel)) rfl
theorem wM_RL_15 : Cond.methodLink RL 15 yX8_fault ∈ gw := gw_of (List.mem_of_getElem? (i := 665) (by decide +kernel)) rfl
theorem wM_RL_18 : Cond.methodLink RL 18 yL_cell ∈ gw := gw_of (List.mem_of_getElem? (i := 584) (by decide +kernel)) rfl
theorem wM_RL_24 : Cond.methodLink RL 24 yX8_init ∈ gw := gw_of (List.mem_of_getElem? (i := 51) (by decide +kernel)) rfl
theorem wM_RL_29 : Cond.methodLink RL 29 yX9_init ∈ gw := gw_of (List.mem_of_getElem? (i := 688) (by decide +kernel)) rfl
theorem wM_RL_30 : Cond.methodLink RL 30 yX8_alloc ∈ gw := gw_of (List.mem_of_getElem? (i := 257) (by decide +kernel)) rfl
theorem wM_RL_34 : Cond.methodLink RL 34 yX9_alloc ∈ gw := gw_of (List.mem_of_getElem? (i := 800) (by decide +kernel)) rfl
theorem wM_RL_35 : Cond.methodLink RL 35 yX8_free ∈ gw := gw_of (List.mem_of_getElem? (i := 393) (by decide +kernel)) rfl
theorem wM_RL_38 : Cond.methodLink RL 38 yX9_free ∈ gw := gw_of (List.mem_of_getElem? (i := 852) (by decide +kernel)) rfl
theorem wM_RL_39 : Cond.methodLink RL 39 yX8_resize ∈ gw := gw_of (List.mem_of_getElem? (i := 429) (by decide +kernel)) rfl
theorem wM_RL_42 : Cond.methodLink RL 42 yX9_resize ∈ gw := gw_of (List.mem_of_getElem? (i := 884) (by decide +kernel)) rfl
theorem wM_RL_43 : Cond.methodLink RL 43 yX8_load ∈ gw := gw_of (List.mem_of_getElem? (i := 441) (by decide +kernel)) rfl
theorem wM_RL_46 : Cond.methodLink RL 46 yX9_load ∈ gw := gw_of (List.mem_of_getElem? (i := 888) (by decide +kernel)) rfl
theorem wM_RL_47 : Cond.methodLink RL 47 yX8_store ∈ gw := gw_of (List.mem_of_getElem? (i := 457) (by decide +kernel)) rfl
theorem wM_RL_50 : Cond.methodLink RL 50 yX9_store ∈ gw := gw_of (List.mem_of_getElem? (i := 900) (by decide +kernel)) rfl
theorem wM_RL_51 : Cond.methodLink RL 51 yX8_check ∈ gw := gw_of (List.mem_of_getElem? (i := 462) (by decide +kernel)) rfl
theorem wM_RL_54 : Cond.methodLink RL 54 yX9_check ∈ gw := gw_of (List.mem_of_getElem? (i := 904) (by decide +kernel)) rfl
theorem wM_RL_55 : Cond.methodLink RL 55 yX8_copy ∈ gw := gw_of (List.mem_of_getElem? (i := 466) (by decide +kernel)) rfl
theorem wM_RL_59 : Cond.methodLink RL 59 yX9_copy ∈ gw := gw_of (List.mem_of_getElem? (i := 908) (by decide +kernel)) rfl
theorem wM_RL_60 : Cond.methodLink RL 60 yX8_sizeOf ∈ gw := gw_of (List.mem_of_getElem? (i := 479) (by decide +kernel)) rfl
theorem wM_RL_63 : Cond.methodLink RL 63 yX9_sizeOf ∈ gw := gw_of (List.mem_of_getElem? (i := 912) (by decide +kernel)) rfl
theorem wM_RL_64 : Cond.methodLink RL 64 yL_describe ∈ gw := gw_of (List.mem_of_getElem? (i := 587) (by decide +kernel)) rfl
theorem wM_RL_67 : Cond.methodLink RL 67 yX9_describe ∈ gw := gw_of (List.mem_of_getElem? (i := 916) (by decide +kernel)) rfl
theorem wM_RL_68 : Cond.methodLink RL 68 yX9_thrown ∈ gw := gw_of (List.mem_of_getElem? (i := 796) (by decide +kernel)) rfl
theorem wM_RL_72 : Cond.methodLink RL 72 yX8_setRoot ∈ gw := gw_of (List.mem_of_getElem? (i := 483) (by decide +kernel)) rfl
theorem wM_RL_76 : Cond.methodLink RL 76 yX9_setRoot ∈ gw := gw_of (List.mem_of_getElem? (i := 920) (by decide +kernel)) rfl
theorem wM_RL_77 : Cond.methodLink RL 77 yX8_leakScan ∈ gw := gw_of (List.mem_of_getElem? (i := 487) (by decide +kernel)) rfl
theorem wM_RL_80 : Cond.methodLink RL 80 yX9_leakScan ∈ gw := gw_of (List.mem_of_getElem? (i := 924) (by decide +kernel)) rfl
theorem wM_RL_81 : Cond.methodLink RL 81 yX8_leak ∈ gw := gw_of (List.mem_of_getElem? (i := 532) (by decide +kernel)) rfl
theorem wM_RL_84 : Cond.methodLink RL 84 yX9_leak ∈ gw := gw_of (List.mem_of_getElem? (i := 940) (by decide +kernel)) rfl
theorem wM_RL_85 : Cond.methodLink RL 85 yX8_pointers ∈ gw := gw_of (List.mem_of_getElem? (i := 540) (by decide +kernel)) rfl
theorem wM_RL_88 : Cond.methodLink RL 88 yX9_pointers ∈ gw := gw_of (List.mem_of_getElem? (i := 944) (by decide +kernel)) rfl
theorem wM_RL_89 : Cond.methodLink RL 89 yX8_count ∈ gw := gw_of (List.mem_of_getElem? (i := 552) (by decide +kernel)) rfl
theorem wM_RL_92 : Cond.methodLink RL 92 yX9_count ∈ gw := gw_of (List.mem_of_getElem? (i := 948) (by decide +kernel)) rfl
theorem wM_RL_93 : Cond.methodLink RL 93 yX8_freeMany ∈ gw := gw_of (List.mem_of_getElem? (i := 556) (by decide +kernel)) rfl
theorem wM_RL_96 : Cond.methodLink RL 96 yX9_freeMany ∈ gw := gw_of (List.mem_of_getElem? (i := 960) (by decide +kernel)) rfl
theorem wM_RL_97 : Cond.methodLink RL 97 yX8_freeAt ∈ gw := gw_of (List.mem_of_getElem? (i := 568) (by decide +kernel)) rfl
theorem wM_RL_100 : Cond.methodLink RL 100 yX9_freeAt ∈ gw := gw_of (List.mem_of_getElem? (i := 964) (by decide +kernel)) rfl
theorem wM_RL_101 : Cond.methodLink RL 101 yX8_waiting ∈ gw := gw_of (List.mem_of_getElem? (i := 576) (by decide +kernel)) rfl
theorem wM_RL_104 : Cond.methodLink RL 104 yX9_waiting ∈ gw := gw_of (List.mem_of_getElem? (i := 968) (by decide +kernel)) rfl
theorem wM_RL_105 : Cond.methodLink RL 105 yL_fault ∈ gw := gw_of (List.mem_of_getElem? (i := 662) (by decide +kernel)) rfl
theorem wM_RL_107 : Cond.methodLink RL 107 yX9_fault ∈ gw := gw_of (List.mem_of_getElem? (i := 972) (by decide +kernel)) rfl
theorem wM_RX0_1 : Cond.methodLink RX0 1 Lib.objectInit ∈ gw := gw_of (List.mem_of_getElem? (i := 334) (by decide +kernel)) rfl
theorem wM_RX1_3 : Cond.methodLink RX1 3 Lib.objectInit ∈ gw := gw_of (List.mem_of_getElem? (i := 142) (by decide +kernel)) rfl
theorem wM_RX1_17 : Cond.methodLink RX1 17 yX1_at ∈ gw := gw_of (List.mem_of_getElem? (i := 405) (by decide +kernel)) rfl
theorem wM_RX1_25 : Cond.methodLink RX1 25 yX1_startingAt ∈ gw := gw_of (List.mem_of_getElem? (i := 401) (by decide +kernel)) rfl
theorem wM_RX1_32 : Cond.methodLink RX1 32 yX0_hasWord ∈ gw := gw_of (List.mem_of_getElem? (i := 449) (by decide +kernel)) rfl
theorem wM_RX1_39 : Cond.methodLink RX1 39 yX1_sortOf ∈ gw := gw_of (List.mem_of_getElem? (i := 474) (by decide +kernel)) rfl
theorem wM_RX1_43 : Cond.methodLink RX1 43 yX1_fillUnits ∈ gw := gw_of (List.mem_of_getElem? (i := 323) (by decide +kernel)) rfl
theorem wM_RX1_47 : Cond.methodLink RX1 47 yJ9_max_7cf53 ∈ gw := gw_of (List.mem_of_getElem? (i := 327) (by decide +kernel)) rfl
theorem wM_RX2_1 : Cond.methodLink RX2 1 Lib.objectInit ∈ gw := gw_of (List.mem_of_getElem? (i := 90) (by decide +kernel)) rfl
theorem wM_RX3_3 : Cond.methodLink RX3 3 Lib.objectInit ∈ gw := gw_of (List.mem_of_getElem? (i := 83) (by decide +kernel)) rfl
theorem wM_RX3_21 : Cond.methodLink RX3 21 yX2_init ∈ gw := gw_of (List.mem_of_getElem? (i := 87) (by decide +kernel)) rfl
theorem wM_RX3_34 : Cond.methodLink RX3 34 yX3_takeFromPiles ∈ gw := gw_of (List.mem_of_getElem? (i := 273) (by decide +kernel)) rfl
theorem wM_RX3_38 : Cond.methodLink RX3 38 yX3_takeGreat ∈ gw := gw_of (List.mem_of_getElem? (i := 278) (by decide +kernel)) rfl
theorem wM_RX3_41 : Cond.methodLink RX3 41 yX3_takeFromTop ∈ gw := gw_of (List.mem_of_getElem? (i := 286) (by decide +kernel)) rfl
theorem wM_RX3_54 : Cond.methodLink RX3 54 yX3_release ∈ gw := gw_of (List.mem_of_getElem? (i := 290) (by decide +kernel)) rfl
theorem wM_RX3_57 : Cond.methodLink RX3 57 yJ9_max_7cf53 ∈ gw := gw_of (List.mem_of_getElem? (i := 277) (by decide +kernel)) rfl
theorem wM_RX3_72 : Cond.methodLink RX3 72 yX3_unlinkGreat ∈ gw := gw_of (List.mem_of_getElem? (i := 282) (by decide +kernel)) rfl
theorem wM_RX3_76 : Cond.methodLink RX3 76 yX3_releaseGreat ∈ gw := gw_of (List.mem_of_getElem? (i := 294) (by decide +kernel)) rfl
theorem wM_RX3_79 : Cond.methodLink RX3 79 yX3_putOnPile ∈ gw := gw_of (List.mem_of_getElem? (i := 307) (by decide +kernel)) rfl
theorem wM_RX3_82 : Cond.methodLink RX3 82 yX2_end ∈ gw := gw_of (List.mem_of_getElem? (i := 298) (by decide +kernel)) rfl
theorem wM_RX3_85 : Cond.methodLink RX3 85 yJ9_min_7cf53 ∈ gw := gw_of (List.mem_of_getElem? (i := 302) (by decide +kernel)) rfl
theorem wM_RX3_91 : Cond.methodLink RX3 91 yX3_linkGreat ∈ gw := gw_of (List.mem_of_getElem? (i := 303) (by decide +kernel)) rfl
theorem wM_RX3_94 : Cond.methodLink RX3 94 yX3_chainOf ∈ gw := gw_of (List.mem_of_getElem? (i := 564) (by decide +kernel)) rfl
theorem wM_RX4_3 : Cond.methodLink RX4 3 Lib.objectInit ∈ gw := gw_of (List.mem_of_getElem? (i := 176) (by decide +kernel)) rfl
theorem wM_RX4_22 : Cond.methodLink RX4 22 yJ9_floorMod_7cf53 ∈ gw := gw_of (List.mem_of_getElem? (i := 418) (by decide +kernel)) rfl
theorem wM_RX4_28 : Cond.methodLink RX4 28 yX4_slotOf ∈ gw := gw_of (List.mem_of_getElem? (i := 678) (by decide +kernel)) rfl
theorem wM_RX5_1 : Cond.methodLink RX5 1 Lib.objectInit ∈ gw := gw_of (List.mem_of_getElem? (i := 193) (by decide +kernel)) rfl
theorem wM_RX5_35 : Cond.methodLink RX5 35 yX5_forgetReached ∈ gw := gw_of (List.mem_of_getElem? (i := 495) (by decide +kernel)) rfl
theorem wM_RX5_38 : Cond.methodLink RX5 38 yX5_reachFromRoots ∈ gw := gw_of (List.mem_of_getElem? (i := 503) (by decide +kernel)) rfl
theorem wM_RX5_45 : Cond.methodLink RX5 45 yX5_reachFromBlock ∈ gw := gw_of (List.mem_of_getElem? (i := 515) (by decide +kernel)) rfl
theorem wM_RX5_49 : Cond.methodLink RX5 49 yX5_keepLost ∈ gw := gw_of (List.mem_of_getElem? (i := 524) (by decide +kernel)) rfl
theorem wM_RX5_55 : Cond.methodLink RX5 55 yX5_unmarkHeads ∈ gw := gw_of (List.mem_of_getElem? (i := 528) (by decide +kernel)) rfl
theorem wM_RX5_58 : Cond.methodLink RX5 58 yX1_ledToBy ∈ gw := gw_of (List.mem_of_getElem? (i := 507) (by decide +kernel)) rfl
theorem wM_RX5_62 : Cond.methodLink RX5 62 yX1_liveFromUnit ∈ gw := gw_of (List.mem_of_getElem? (i := 499) (by decide +kernel)) rfl
theorem wM_RX5_65 : Cond.methodLink RX5 65 yX5_leadingWords ∈ gw := gw_of (List.mem_of_getElem? (i := 548) (by decide +kernel)) rfl
theorem wM_RX5_72 : Cond.methodLink RX5 72 yX5_ledToByWord ∈ gw := gw_of (List.mem_of_getElem? (i := 519) (by decide +kernel)) rfl
theorem wM_RX5_79 : Cond.methodLink RX5 79 yX6_read ∈ gw := gw_of (List.mem_of_getElem? (i := 523) (by decide +kernel)) rfl
theorem wM_RX5_88 : Cond.methodLink RX5 88 yX5_reach ∈ gw := gw_of (List.mem_of_getElem? (i := 511) (by decide +kernel)) rfl
theorem wM_RX6_1 : Cond.methodLink RX6 1 Lib.objectInit ∈ gw := gw_of (List.mem_of_getElem? (i := 71) (by decide +kernel)) rfl
theorem wM_RX6_13 : Cond.methodLink RX6 13 yX6_has ∈ gw := gw_of (List.mem_of_getElem? (i := 385) (by decide +kernel)) rfl
theorem wM_RX6_17 : Cond.methodLink RX6 17 yX6_write ∈ gw := gw_of (List.mem_of_getElem? (i := 381) (by decide +kernel)) rfl
theorem wM_RX6_21 : Cond.methodLink RX6 21 yJ9_max_7cf53 ∈ gw := gw_of (List.mem_of_getElem? (i := 437) (by decide +kernel)) rfl
theorem wM_RX7_1 : Cond.methodLink RX7 1 Lib.objectInit ∈ gw := gw_of (List.mem_of_getElem? (i := 155) (by decide +kernel)) rfl
theorem wM_RX8_1 : Cond.methodLink RX8 1 Lib.objectInit ∈ gw := gw_of (List.mem_of_getElem? (i := 54) (by decide +kernel)) rfl
theorem wM_RX8_9 : Cond.methodLink RX8 9 yX8_nearest ∈ gw := gw_of (List.mem_of_getElem? (i := 57) (by decide +kernel)) rfl
theorem wM_RX8_15 : Cond.methodLink RX8 15 yX6_init ∈ gw := gw_of (List.mem_of_getElem? (i := 68) (by decide +kernel)) rfl
theorem wM_RX8_31 : Cond.methodLink RX8 31 yX3_init ∈ gw := gw_of (List.mem_of_getElem? (i := 80) (by decide +kernel)) rfl
theorem wM_RX8_38 : Cond.methodLink RX8 38 yX1_init ∈ gw := gw_of (List.mem_of_getElem? (i := 139) (by decide +kernel)) rfl
theorem wM_RX8_56 : Cond.methodLink RX8 56 yX4_init ∈ gw := gw_of (List.mem_of_getElem? (i := 173) (by decide +kernel)) rfl
theorem wM_RX8_63 : Cond.methodLink RX8 63 yX5_init ∈ gw := gw_of (List.mem_of_getElem? (i := 190) (by decide +kernel)) rfl
theorem wM_RX8_70 : Cond.methodLink RX8 70 yX8_give ∈ gw := gw_of (List.mem_of_getElem? (i := 261) (by decide +kernel)) rfl
theorem wM_RX8_79 : Cond.methodLink RX8 79 yX1_liveStartingAt ∈ gw := gw_of (List.mem_of_getElem? (i := 397) (by decide +kernel)) rfl
theorem wM_RX8_82 : Cond.methodLink RX8 82 yX8_keepStartFault ∈ gw := gw_of (List.mem_of_getElem? (i := 409) (by decide +kernel)) rfl
theorem wM_RX8_86 : Cond.methodLink RX8 86 yX8_putIntoQueue ∈ gw := gw_of (List.mem_of_getElem? (i := 421) (by decide +kernel)) rfl
theorem wM_RX8_93 : Cond.methodLink RX8 93 yJ9_min_7cf53 ∈ gw := gw_of (List.mem_of_getElem? (i := 60) (by decide +kernel)) rfl
theorem wM_RX8_99 : Cond.methodLink RX8 99 yX6_move ∈ gw := gw_of (List.mem_of_getElem? (i := 433) (by decide +kernel)) rfl
theorem wM_RX8_103 : Cond.methodLink RX8 103 yX1_sortOf ∈ gw := gw_of (List.mem_of_getElem? (i := 445) (by decide +kernel)) rfl
theorem wM_RX8_106 : Cond.methodLink RX8 106 yX4_keep ∈ gw := gw_of (List.mem_of_getElem? (i := 414) (by decide +kernel)) rfl
theorem wM_RX8_110 : Cond.methodLink RX8 110 yX6_read ∈ gw := gw_of (List.mem_of_getElem? (i := 453) (by decide +kernel)) rfl
theorem wM_RX8_113 : Cond.methodLink RX8 113 yX6_write ∈ gw := gw_of (List.mem_of_getElem? (i := 461) (by decide +kernel)) rfl
theorem wM_RX8_116 : Cond.methodLink RX8 116 yX1_ownWordsFrom ∈ gw := gw_of (List.mem_of_getElem? (i := 470) (by decide +kernel)) rfl
theorem wM_RX8_119 : Cond.methodLink RX8 119 yX8_keepCopyFault ∈ gw := gw_of (List.mem_of_getElem? (i := 475) (by decide +kernel)) rfl
theorem wM_RX8_122 : Cond.methodLink RX8 122 yX1_at ∈ gw := gw_of (List.mem_of_getElem? (i := 595) (by decide +kernel)) rfl
theorem wM_RX8_142 : Cond.methodLink RX8 142 yX5_run ∈ gw := gw_of (List.mem_of_getElem? (i := 491) (by decide +kernel)) rfl
theorem wM_RX8_146 : Cond.methodLink RX8 146 yX5_lostBlock ∈ gw := gw_of (List.mem_of_getElem? (i := 536) (by decide +kernel)) rfl
theorem wM_RX8_152 : Cond.methodLink RX8 152 yX5_leadingNumbers ∈ gw := gw_of (List.mem_of_getElem? (i := 544) (by decide +kernel)) rfl
theorem wM_RX8_196 : Cond.methodLink RX8 196 yX3_manyOfSize ∈ gw := gw_of (List.mem_of_getElem? (i := 560) (by decide +kernel)) rfl
theorem wM_RX8_199 : Cond.methodLink RX8 199 yX3_addressOfSize ∈ gw := gw_of (List.mem_of_getElem? (i := 572) (by decide +kernel)) rfl
theorem wM_RX8_202 : Cond.methodLink RX8 202 yX7_behindFirst ∈ gw := gw_of (List.mem_of_getElem? (i := 580) (by decide +kernel)) rfl
theorem wM_RX8_205 : Cond.methodLink RX8 205 yX4_has ∈ gw := gw_of (List.mem_of_getElem? (i := 669) (by decide +kernel)) rfl
theorem wM_RX8_211 : Cond.methodLink RX8 211 yX4_kindOf ∈ gw := gw_of (List.mem_of_getElem? (i := 674) (by decide +kernel)) rfl
theorem wM_RX8_214 : Cond.methodLink RX8 214 yX4_addressOf ∈ gw := gw_of (List.mem_of_getElem? (i := 682) (by decide +kernel)) rfl
theorem wM_RX8_217 : Cond.methodLink RX8 217 yJ9_max_7cf53 ∈ gw := gw_of (List.mem_of_getElem? (i := 63) (by decide +kernel)) rfl
theorem wM_RX8_220 : Cond.methodLink RX8 220 yX8_needed ∈ gw := gw_of (List.mem_of_getElem? (i := 265) (by decide +kernel)) rfl
theorem wM_RX8_223 : Cond.methodLink RX8 223 yX3_find ∈ gw := gw_of (List.mem_of_getElem? (i := 269) (by decide +kernel)) rfl
theorem wM_RX8_226 : Cond.methodLink RX8 226 yX8_letLongestGo ∈ gw := gw_of (List.mem_of_getElem? (i := 311) (by decide +kernel)) rfl
theorem wM_RX8_229 : Cond.methodLink RX8 229 yX0_init ∈ gw := gw_of (List.mem_of_getElem? (i := 331) (by decide +kernel)) rfl
theorem wM_RX8_232 : Cond.methodLink RX8 232 yX6_clear ∈ gw := gw_of (List.mem_of_getElem? (i := 377) (by decide +kernel)) rfl
theorem wM_RX8_235 : Cond.methodLink RX8 235 yX1_enter ∈ gw := gw_of (List.mem_of_getElem? (i := 389) (by decide +kernel)) rfl
theorem wM_RX8_238 : Cond.methodLink RX8 238 yX7_add ∈ gw := gw_of (List.mem_of_getElem? (i := 425) (by decide +kernel)) rfl
theorem wM_RX8_241 : Cond.methodLink RX8 241 yX7_takeFirst ∈ gw := gw_of (List.mem_of_getElem? (i := 315) (by decide +kernel)) rfl
theorem wM_RX8_245 : Cond.methodLink RX8 245 yX1_remove ∈ gw := gw_of (List.mem_of_getElem? (i := 319) (by decide +kernel)) rfl
theorem wM_RX8_251 : Cond.methodLink RX8 251 yX3_release ∈ gw := gw_of (List.mem_of_getElem? (i := 328) (by decide +kernel)) rfl
theorem wM_RX8_254 : Cond.methodLink RX8 254 yX1_startingAt ∈ gw := gw_of (List.mem_of_getElem? (i := 413) (by decide +kernel)) rfl
theorem wM_RX9_1 : Cond.methodLink RX9 1 Lib.objectInit ∈ gw := gw_of (List.mem_of_getElem? (i := 691) (by decide +kernel)) rfl
theorem wM_RX9_72 : Cond.methodLink RX9 72 yX9_near ∈ gw := gw_of (List.mem_of_getElem? (i := 692) (by decide +kernel)) rfl
theorem wM_RX9_91 : Cond.methodLink RX9 91 yX9_start ∈ gw := gw_of (List.mem_of_getElem? (i := 864) (by decide +kernel)) rfl
theorem wM_RX9_95 : Cond.methodLink RX9 95 yX9_blockOf ∈ gw := gw_of (List.mem_of_getElem? (i := 896) (by decide +kernel)) rfl
theorem wM_RX9_98 : Cond.methodLink RX9 98 yX9_isLive ∈ gw := gw_of (List.mem_of_getElem? (i := 844) (by decide +kernel)) rfl
theorem wM_RX9_108 : Cond.methodLink RX9 108 yX9_addFree ∈ gw := gw_of (List.mem_of_getElem? (i := 828) (by decide +kernel)) rfl
theorem wM_RX9_112 : Cond.methodLink RX9 112 yX9_greatBeside ∈ gw := gw_of (List.mem_of_getElem? (i := 832) (by decide +kernel)) rfl
theorem wM_RX9_116 : Cond.methodLink RX9 116 yX9_takeFree ∈ gw := gw_of (List.mem_of_getElem? (i := 820) (by decide +kernel)) rfl
theorem wM_RX9_123 : Cond.methodLink RX9 123 yX9_fits ∈ gw := gw_of (List.mem_of_getElem? (i := 816) (by decide +kernel)) rfl
theorem wM_RX9_129 : Cond.methodLink RX9 129 yX9_release ∈ gw := gw_of (List.mem_of_getElem? (i := 824) (by decide +kernel)) rfl
theorem wM_RX9_132 : Cond.methodLink RX9 132 yX9_longest ∈ gw := gw_of (List.mem_of_getElem? (i := 840) (by decide +kernel)) rfl
theorem wM_RX9_136 : Cond.methodLink RX9 136 yX9_drop ∈ gw := gw_of (List.mem_of_getElem? (i := 848) (by decide +kernel)) rfl
theorem wM_RX9_150 : Cond.methodLink RX9 150 yX9_find ∈ gw := gw_of (List.mem_of_getElem? (i := 812) (by decide +kernel)) rfl
theorem wM_RX9_153 : Cond.methodLink RX9 153 yX9_oneGoes ∈ gw := gw_of (List.mem_of_getElem? (i := 836) (by decide +kernel)) rfl
theorem wM_RX9_163 : Cond.methodLink RX9 163 yX9_waits ∈ gw := gw_of (List.mem_of_getElem? (i := 880) (by decide +kernel)) rfl
theorem wM_RX9_166 : Cond.methodLink RX9 166 yX9_startsAt ∈ gw := gw_of (List.mem_of_getElem? (i := 860) (by decide +kernel)) rfl
theorem wM_RX9_169 : Cond.methodLink RX9 169 yX9_faulty ∈ gw := gw_of (List.mem_of_getElem? (i := 872) (by decide +kernel)) rfl
theorem wM_RX9_172 : Cond.methodLink RX9 172 yX9_give ∈ gw := gw_of (List.mem_of_getElem? (i := 804) (by decide +kernel)) rfl
theorem wM_RX9_175 : Cond.methodLink RX9 175 yX9_liveAt ∈ gw := gw_of (List.mem_of_getElem? (i := 856) (by decide +kernel)) rfl
theorem wM_RX9_178 : Cond.methodLink RX9 178 yX9_no ∈ gw := gw_of (List.mem_of_getElem? (i := 868) (by decide +kernel)) rfl
theorem wM_RX9_181 : Cond.methodLink RX9 181 yX9_setFree ∈ gw := gw_of (List.mem_of_getElem? (i := 876) (by decide +kernel)) rfl
theorem wM_RX9_184 : Cond.methodLink RX9 184 yX9_sortOf ∈ gw := gw_of (List.mem_of_getElem? (i := 892) (by decide +kernel)) rfl
theorem wM_RX9_187 : Cond.methodLink RX9 187 yX9_leads ∈ gw := gw_of (List.mem_of_getElem? (i := 932) (by decide +kernel)) rfl
theorem wM_RX9_193 : Cond.methodLink RX9 193 yX9_reaches ∈ gw := gw_of (List.mem_of_getElem? (i := 928) (by decide +kernel)) rfl
theorem wM_RX9_196 : Cond.methodLink RX9 196 yX9_isHead ∈ gw := gw_of (List.mem_of_getElem? (i := 936) (by decide +kernel)) rfl
theorem wM_RX9_199 : Cond.methodLink RX9 199 yX9_lives ∈ gw := gw_of (List.mem_of_getElem? (i := 952) (by decide +kernel)) rfl
theorem wM_RX9_203 : Cond.methodLink RX9 203 yX9_freeWords ∈ gw := gw_of (List.mem_of_getElem? (i := 956) (by decide +kernel)) rfl
theorem wC_X0_init : Cond.code yX0_init cX0_init 6 none ∈ gw := gw_of (List.mem_of_getElem? (i := 333) (by decide +kernel)) rfl
theorem wV_X0_init : Cond.instanceMethod yX0_init ∈ gw := gw_of (List.mem_of_getElem? (i := 332) (by decide +kernel)) rfl
theorem wC_X0_hasWord : Cond.code yX0_hasWord cX0_hasWord 2 (some .boolean) ∈ gw := gw_of (List.mem_of_getElem? (i := 452) (by decide +kernel)) rfl
theorem wV_X0_hasWord : Cond.instanceMethod yX0_hasWord ∈ gw := gw_of (List.mem_of_getElem? (i := 450) (by decide +kernel)) rfl
theorem wS_X0_hasWord : Cond.selects RX0 yX0_hasWord yX0_hasWord ∈ gw := gw_of (List.mem_of_getElem? (i := 451) (by decide +kernel)) rfl
theorem wC_X1_init : Cond.code yX1_init cX1_init 2 none ∈ gw := gw_of (List.mem_of_getElem? (i := 141) (by decide +kernel)) rfl
theorem wV_X1_init : Cond.instanceMethod yX1_init ∈ gw := gw_of (List.mem_of_getElem? (i := 140) (by decide +kernel)) rfl
theorem wC_X1_at : Cond.code yX1_at cX1_at 3 (some (.object "GuardHeap$Block")) ∈ gw := gw_of (List.mem_of_getElem? (i := 408) (by decide +kernel)) rfl
theorem wV_X1_at : Cond.instanceMethod yX1_at ∈ gw := gw_of (List.mem_of_getElem? (i := 406) (by decide +kernel)) rfl
theorem wS_X1_at : Cond.selects RX1 yX1_at yX1_at ∈ gw := gw_of (List.mem_of_getElem? (i := 407) (by decide +kernel)) rfl
theorem wC_X1_startingAt : Cond.code yX1_startingAt cX1_startingAt 3 (some (.object "GuardHeap$Block")) ∈ gw := gw_of (List.mem_of_getElem? (i := 404) (by decide +kernel)) rfl
theorem wV_X1_startingAt : Cond.instanceMethod yX1_startingAt ∈ gw := gw_of (List.mem_of_getElem? (i := 402) (by decide +kernel)) rfl
theorem wS_X1_startingAt : Cond.selects RX1 yX1_startingAt yX1_startingAt ∈ gw := gw_of (List.mem_of_getElem? (i := 403) (by decide +kernel)) rfl
theorem wC_X1_liveStartingAt : Cond.code yX1_liveStartingAt cX1_liveStartingAt 3 (some (.object "GuardHeap$Block")) ∈ gw := gw_of (List.mem_of_getElem? (i := 400) (by decide +kernel)) rfl
theorem wV_X1_liveStartingAt : Cond.instanceMethod yX1_liveStartingAt ∈ gw := gw_of (List.mem_of_getElem? (i := 398) (by decide +kernel)) rfl
theorem wS_X1_liveStartingAt : Cond.selects RX1 yX1_liveStartingAt yX1_liveStartingAt ∈ gw := gw_of (List.mem_of_getElem? (i := 399) (by decide +kernel)) rfl
theorem wC_X1_ledToBy : Cond.code yX1_ledToBy cX1_ledToBy 3 (some (.object "GuardHeap$Block")) ∈ gw := gw_of (List.mem_of_getElem? (i := 510) (by decide +kernel)) rfl
theorem wV_X1_ledToBy : Cond.instanceMethod yX1_ledToBy ∈ gw := gw_of (List.mem_of_getElem? (i := 508) (by decide +kernel)) rfl
theorem wS_X1_ledToBy : Cond.selects RX1 yX1_ledToBy yX1_ledToBy ∈ gw := gw_of (List.mem_of_getElem? (i := 509) (by decide +kernel)) rfl
theorem wC_X1_liveFromUnit : Cond.code yX1_liveFromUnit cX1_liveFromUnit 4 (some (.object "GuardHeap$Block")) ∈ gw := gw_of (List.mem_of_getElem? (i := 502) (by decide +kernel)) rfl
theorem wV_X1_liveFromUnit : Cond.instanceMethod yX1_liveFromUnit ∈ gw := gw_of (List.mem_of_getElem? (i := 500) (by decide +kernel)) rfl
theorem wS_X1_liveFromUnit : Cond.selects RX1 yX1_liveFromUnit yX1_liveFromUnit ∈ gw := gw_of (List.mem_of_getElem? (i := 501) (by decide +kernel)) rfl
theorem wC_X1_sortOf : Cond.code yX1_sortOf cX1_sortOf 3 (some .int) ∈ gw := gw_of (List.mem_of_getElem? (i := 448) (by decide +kernel)) rfl
theorem wV_X1_sortOf : Cond.instanceMethod yX1_sortOf ∈ gw := gw_of (List.mem_of_getElem? (i := 446) (by decide +kernel)) rfl
theorem wS_X1_sortOf : Cond.selects RX1 yX1_sortOf yX1_sortOf ∈ gw := gw_of (List.mem_of_getElem? (i := 447) (by decide +kernel)) rfl
theorem wC_X1_ownWordsFrom : Cond.code yX1_ownWordsFrom cX1_ownWordsFrom 4 (some .int) ∈ gw := gw_of (List.mem_of_getElem? (i := 473) (by decide +kernel)) rfl
theorem wV_X1_ownWordsFrom : Cond.instanceMethod yX1_ownWordsFrom ∈ gw := gw_of (List.mem_of_getElem? (i := 471) (by decide +kernel)) rfl
theorem wS_X1_ownWordsFrom : Cond.selects RX1 yX1_ownWordsFrom yX1_ownWordsFrom ∈ gw := gw_of (List.mem_of_getElem? (i := 472) (by decide +kernel)) rfl
theorem wC_X1_enter : Cond.code yX1_enter cX1_enter 2 none ∈ gw := gw_of (List.mem_of_getElem? (i := 392) (by decide +kernel)) rfl
theorem wV_X1_enter : Cond.instanceMethod yX1_enter ∈ gw := gw_of (List.mem_of_getElem? (i := 390) (by decide +kernel)) rfl
theorem wS_X1_enter : Cond.selects RX1 yX1_enter yX1_enter ∈ gw := gw_of (List.mem_of_getElem? (i := 391) (by decide +kernel)) rfl
theorem wC_X1_remove : Cond.code yX1_remove cX1_remove 2 none ∈ gw := gw_of (List.mem_of_getElem? (i := 322) (by decide +kernel)) rfl
theorem wV_X1_remove : Cond.instanceMethod yX1_remove ∈ gw := gw_of (List.mem_of_getElem? (i := 320) (by decide +kernel)) rfl
theorem wS_X1_remove : Cond.selects RX1 yX1_remove yX1_remove ∈ gw := gw_of (List.mem_of_getElem? (i := 321) (by decide +kernel)) rfl
theorem wC_X1_fillUnits : Cond.code yX1_fillUnits cX1_fillUnits 6 none ∈ gw := gw_of (List.mem_of_getElem? (i := 326) (by decide +kernel)) rfl
theorem wV_X1_fillUnits : Cond.instanceMethod yX1_fillUnits ∈ gw := gw_of (List.mem_of_getElem? (i := 324) (by decide +kernel)) rfl
theorem wS_X1_fillUnits : Cond.selects RX1 yX1_fillUnits yX1_fillUnits ∈ gw := gw_of (List.mem_of_getElem? (i := 325) (by decide +kernel)) rfl
theorem wC_X2_init : Cond.code yX2_init cX2_init 3 none ∈ gw := gw_of (List.mem_of_getElem? (i := 89) (by decide +kernel)) rfl
theorem wV_X2_init : Cond.instanceMethod yX2_init ∈ gw := gw_of (List.mem_of_getElem? (i := 88) (by decide +kernel)) rfl
theorem wC_X2_end : Cond.code yX2_end cX2_end 1 (some .int) ∈ gw := gw_of (List.mem_of_getElem? (i := 301) (by decide +kernel)) rfl
theorem wV_X2_end : Cond.instanceMethod yX2_end ∈ gw := gw_of (List.mem_of_getElem? (i := 299) (by decide +kernel)) rfl
theorem wS_X2_end : Cond.selects RX2 yX2_end yX2_end ∈ gw := gw_of (List.mem_of_getElem? (i := 300) (by decide +kernel)) rfl
theorem wC_X3_init : Cond.code yX3_init cX3_init 2 none ∈ gw := gw_of (List.mem_of_getElem? (i := 82) (by decide +kernel)) rfl
theorem wV_X3_init : Cond.instanceMethod yX3_init ∈ gw := gw_of (List.mem_of_getElem? (i := 81) (by decide +kernel)) rfl
theorem wC_X3_find : Cond.code yX3_find cX3_find 3 (some .int) ∈ gw := gw_of (List.mem_of_getElem? (i := 272) (by decide +kernel)) rfl
theorem wV_X3_find : Cond.instanceMethod yX3_find ∈ gw := gw_of (List.mem_of_getElem? (i := 270) (by decide +kernel)) rfl
theorem wS_X3_find : Cond.selects RX3 yX3_find yX3_find ∈ gw := gw_of (List.mem_of_getElem? (i := 271) (by decide +kernel)) rfl
theorem wC_X3_takeFromPiles : Cond.code yX3_takeFromPiles cX3_takeFromPiles 4 (some (.object "GuardHeap$Chunk")) ∈ gw := gw_of (List.mem_of_getElem? (i := 276) (by decide +kernel)) rfl
theorem wV_X3_takeFromPiles : Cond.instanceMethod yX3_takeFromPiles ∈ gw := gw_of (List.mem_of_getElem? (i := 274) (by decide +kernel)) rfl
theorem wS_X3_takeFromPiles : Cond.selects RX3 yX3_takeFromPiles yX3_takeFromPiles ∈ gw := gw_of (List.mem_of_getElem? (i := 275) (by decide +kernel)) rfl
theorem wC_X3_takeGreat : Cond.code yX3_takeGreat cX3_takeGreat 4 (some (.object "GuardHeap$Chunk")) ∈ gw := gw_of (List.mem_of_getElem? (i := 281) (by decide +kernel)) rfl
theorem wV_X3_takeGreat : Cond.instanceMethod yX3_takeGreat ∈ gw := gw_of (List.mem_of_getElem? (i := 279) (by decide +kernel)) rfl
theorem wS_X3_takeGreat : Cond.selects RX3 yX3_takeGreat yX3_takeGreat ∈ gw := gw_of (List.mem_of_getElem? (i := 280) (by decide +kernel)) rfl
theorem wC_X3_takeFromTop : Cond.code yX3_takeFromTop cX3_takeFromTop 3 (some .int) ∈ gw := gw_of (List.mem_of_getElem? (i := 289) (by decide +kernel)) rfl
theorem wV_X3_takeFromTop : Cond.instanceMethod yX3_takeFromTop ∈ gw := gw_of (List.mem_of_getElem? (i := 287) (by decide +kernel)) rfl
theorem wS_X3_takeFromTop : Cond.selects RX3 yX3_takeFromTop yX3_takeFromTop ∈ gw := gw_of (List.mem_of_getElem? (i := 288) (by decide +kernel)) rfl
theorem wC_X3_release : Cond.code yX3_release cX3_release 3 none ∈ gw := gw_of (List.mem_of_getElem? (i := 293) (by decide +kernel)) rfl
theorem wV_X3_release : Cond.instanceMethod yX3_release ∈ gw := gw_of (List.mem_of_getElem? (i := 291) (by decide +kernel)) rfl
theorem wS_X3_release : Cond.selects RX3 yX3_release yX3_release ∈ gw := gw_of (List.mem_of_getElem? (i := 292) (by decide +kernel)) rfl
theorem wC_X3_putOnPile : Cond.code yX3_putOnPile cX3_putOnPile 3 none ∈ gw := gw_of (List.mem_of_getElem? (i := 310) (by decide +kernel)) rfl
theorem wV_X3_putOnPile : Cond.instanceMethod yX3_putOnPile ∈ gw := gw_of (List.mem_of_getElem? (i := 308) (by decide +kernel)) rfl
theorem wS_X3_putOnPile : Cond.selects RX3 yX3_putOnPile yX3_putOnPile ∈ gw := gw_of (List.mem_of_getElem? (i := 309) (by decide +kernel)) rfl
theorem wC_X3_releaseGreat : Cond.code yX3_releaseGreat cX3_releaseGreat 6 none ∈ gw := gw_of (List.mem_of_getElem? (i := 297) (by decide +kernel)) rfl
theorem wV_X3_releaseGreat : Cond.instanceMethod yX3_releaseGreat ∈ gw := gw_of (List.mem_of_getElem? (i := 295) (by decide +kernel)) rfl
theorem wS_X3_releaseGreat : Cond.selects RX3 yX3_releaseGreat yX3_releaseGreat ∈ gw := gw_of (List.mem_of_getElem? (i := 296) (by decide +kernel)) rfl
theorem wC_X3_linkGreat : Cond.code yX3_linkGreat cX3_linkGreat 4 none ∈ gw := gw_of (List.mem_of_getElem? (i := 306) (by decide +kernel)) rfl
theorem wV_X3_linkGreat : Cond.instanceMethod yX3_linkGreat ∈ gw := gw_of (List.mem_of_getElem? (i := 304) (by decide +kernel)) rfl
theorem wS_X3_linkGreat : Cond.selects RX3 yX3_linkGreat yX3_linkGreat ∈ gw := gw_of (List.mem_of_getElem? (i := 305) (by decide +kernel)) rfl
theorem wC_X3_unlinkGreat : Cond.code yX3_unlinkGreat cX3_unlinkGreat 3 none ∈ gw := gw_of (List.mem_of_getElem? (i := 285) (by decide +kernel)) rfl
theorem wV_X3_unlinkGreat : Cond.instanceMethod yX3_unlinkGreat ∈ gw := gw_of (List.mem_of_getElem? (i := 283) (by decide +kernel)) rfl
theorem wS_X3_unlinkGreat : Cond.selects RX3 yX3_unlinkGreat yX3_unlinkGreat ∈ gw := gw_of (List.mem_of_getElem? (i := 284) (by decide +kernel)) rfl
theorem wC_X3_chainOf : Cond.code yX3_chainOf cX3_chainOf 2 (some (.object "GuardHeap$Chunk")) ∈ gw := gw_of (List.mem_of_getElem? (i := 567) (by decide +kernel)) rfl
theorem wV_X3_chainOf : Cond.instanceMethod yX3_chainOf ∈ gw := gw_of (List.mem_of_getElem? (i := 565) (by decide +kernel)) rfl
theorem wS_X3_chainOf : Cond.selects RX3 yX3_chainOf yX3_chainOf ∈ gw := gw_of (List.mem_of_getElem? (i := 566) (by decide +kernel)) rfl
theorem wC_X3_manyOfSize : Cond.code yX3_manyOfSize cX3_manyOfSize 4 (some .int) ∈ gw := gw_of (List.mem_of_getElem? (i := 563) (by decide +kernel)) rfl
theorem wV_X3_manyOfSize : Cond.instanceMethod yX3_manyOfSize ∈ gw := gw_of (List.mem_of_getElem? (i := 561) (by decide +kernel)) rfl
theorem wS_X3_manyOfSize : Cond.selects RX3 yX3_manyOfSize yX3_manyOfSize ∈ gw := gw_of (List.mem_of_getElem? (i := 562) (by decide +kernel)) rfl
theorem wC_X3_addressOfSize : Cond.code yX3_addressOfSize cX3_addressOfSize 5 (some .int) ∈ gw := gw_of (List.mem_of_getElem? (i := 575) (by decide +kernel)) rfl
theorem wV_X3_addressOfSize : Cond.instanceMethod yX3_addressOfSize ∈ gw := gw_of (List.mem_of_getElem? (i := 573) (by decide +kernel)) rfl
theorem wS_X3_addressOfSize : Cond.selects RX3 yX3_addressOfSize yX3_addressOfSize ∈ gw := gw_of (List.mem_of_getElem? (i := 574) (by decide +kernel)) rfl
theorem wC_X4_init : Cond.code yX4_init cX4_init 1 none ∈ gw := gw_of (List.mem_of_getElem? (i := 175) (by decide +kernel)) rfl
theorem wV_X4_init : Cond.instanceMethod yX4_init ∈ gw := gw_of (List.mem_of_getElem? (i := 174) (by decide +kernel)) rfl
theorem wC_X4_keep : Cond.code yX4_keep cX4_keep 4 none ∈ gw := gw_of (List.mem_of_getElem? (i := 417) (by decide +kernel)) rfl
theorem wV_X4_keep : Cond.instanceMethod yX4_keep ∈ gw := gw_of (List.mem_of_getElem? (i := 415) (by decide +kernel)) rfl
theorem wS_X4_keep : Cond.selects RX4 yX4_keep yX4_keep ∈ gw := gw_of (List.mem_of_getElem? (i := 416) (by decide +kernel)) rfl
theorem wC_X4_has : Cond.code yX4_has cX4_has 2 (some .boolean) ∈ gw := gw_of (List.mem_of_getElem? (i := 672) (by decide +kernel)) rfl
theorem wV_X4_has : Cond.instanceMethod yX4_has ∈ gw := gw_of (List.mem_of_getElem? (i := 670) (by decide +kernel)) rfl
theorem wS_X4_has : Cond.selects RX4 yX4_has yX4_has ∈ gw := gw_of (List.mem_of_getElem? (i := 671) (by decide +kernel)) rfl
theorem wC_X4_slotOf : Cond.code yX4_slotOf cX4_slotOf 2 (some .int) ∈ gw := gw_of (List.mem_of_getElem? (i := 681) (by decide +kernel)) rfl
theorem wV_X4_slotOf : Cond.instanceMethod yX4_slotOf ∈ gw := gw_of (List.mem_of_getElem? (i := 679) (by decide +kernel)) rfl
theorem wS_X4_slotOf : Cond.selects RX4 yX4_slotOf yX4_slotOf ∈ gw := gw_of (List.mem_of_getElem? (i := 680) (by decide +kernel)) rfl
theorem wC_X4_kindOf : Cond.code yX4_kindOf cX4_kindOf 2 (some .int) ∈ gw := gw_of (List.mem_of_getElem? (i := 677) (by decide +kernel)) rfl
theorem wV_X4_kindOf : Cond.instanceMethod yX4_kindOf ∈ gw := gw_of (List.mem_of_getElem? (i := 675) (by decide +kernel)) rfl
theorem wS_X4_kindOf : Cond.selects RX4 yX4_kindOf yX4_kindOf ∈ gw := gw_of (List.mem_of_getElem? (i := 676) (by decide +kernel)) rfl
theorem wC_X4_addressOf : Cond.code yX4_addressOf cX4_addressOf 2 (some .int) ∈ gw := gw_of (List.mem_of_getElem? (i := 685) (by decide +kernel)) rfl
theorem wV_X4_addressOf : Cond.instanceMethod yX4_addressOf ∈ gw := gw_of (List.mem_of_getElem? (i := 683) (by decide +kernel)) rfl
theorem wS_X4_addressOf : Cond.selects RX4 yX4_addressOf yX4_addressOf ∈ gw := gw_of (List.mem_of_getElem? (i := 684) (by decide +kernel)) rfl
theorem wC_X5_init : Cond.code yX5_init cX5_init 4 none ∈ gw := gw_of (List.mem_of_getElem? (i := 192) (by decide +kernel)) rfl
theorem wV_X5_init : Cond.instanceMethod yX5_init ∈ gw := gw_of (List.mem_of_getElem? (i := 191) (by decide +kernel)) rfl
theorem wC_X5_run : Cond.code yX5_run cX5_run 2 (some .int) ∈ gw := gw_of (List.mem_of_getElem? (i := 494) (by decide +kernel)) rfl
theorem wV_X5_run : Cond.instanceMethod yX5_run ∈ gw := gw_of (List.mem_of_getElem? (i := 492) (by decide +kernel)) rfl
theorem wS_X5_run : Cond.selects RX5 yX5_run yX5_run ∈ gw := gw_of (List.mem_of_getElem? (i := 493) (by decide +kernel)) rfl
theorem wC_X5_lostBlock : Cond.code yX5_lostBlock cX5_lostBlock 2 (some (.object "GuardHeap$Block")) ∈ gw := gw_of (List.mem_of_getElem? (i := 539) (by decide +kernel)) rfl
theorem wV_X5_lostBlock : Cond.instanceMethod yX5_lostBlock ∈ gw := gw_of (List.mem_of_getElem? (i := 537) (by decide +kernel)) rfl
theorem wS_X5_lostBlock : Cond.selects RX5 yX5_lostBlock yX5_lostBlock ∈ gw := gw_of (List.mem_of_getElem? (i := 538) (by decide +kernel)) rfl
theorem wC_X5_leadingNumbers : Cond.code yX5_leadingNumbers cX5_leadingNumbers 3 (some .int) ∈ gw := gw_of (List.mem_of_getElem? (i := 547) (by decide +kernel)) rfl
theorem wV_X5_leadingNumbers : Cond.instanceMethod yX5_leadingNumbers ∈ gw := gw_of (List.mem_of_getElem? (i := 545) (by decide +kernel)) rfl
theorem wS_X5_leadingNumbers : Cond.selects RX5 yX5_leadingNumbers yX5_leadingNumbers ∈ gw := gw_of (List.mem_of_getElem? (i := 546) (by decide +kernel)) rfl
theorem wC_X5_leadingWords : Cond.code yX5_leadingWords cX5_leadingWords 5 (some .int) ∈ gw := gw_of (List.mem_of_getElem? (i := 551) (by decide +kernel)) rfl
theorem wV_X5_leadingWords : Cond.instanceMethod yX5_leadingWords ∈ gw := gw_of (List.mem_of_getElem? (i := 549) (by decide +kernel)) rfl
theorem wS_X5_leadingWords : Cond.selects RX5 yX5_leadingWords yX5_leadingWords ∈ gw := gw_of (List.mem_of_getElem? (i := 550) (by decide +kernel)) rfl
theorem wC_X5_ledToByWord : Cond.code yX5_ledToByWord cX5_ledToByWord 3 (some (.object "GuardHeap$Block")) ∈ gw := gw_of (List.mem_of_getElem? (i := 522) (by decide +kernel)) rfl
theorem wV_X5_ledToByWord : Cond.instanceMethod yX5_ledToByWord ∈ gw := gw_of (List.mem_of_getElem? (i := 520) (by decide +kernel)) rfl
theorem wS_X5_ledToByWord : Cond.selects RX5 yX5_ledToByWord yX5_ledToByWord ∈ gw := gw_of (List.mem_of_getElem? (i := 521) (by decide +kernel)) rfl
theorem wC_X5_forgetReached : Cond.code yX5_forgetReached cX5_forgetReached 3 none ∈ gw := gw_of (List.mem_of_getElem? (i := 498) (by decide +kernel)) rfl
theorem wV_X5_forgetReached : Cond.instanceMethod yX5_forgetReached ∈ gw := gw_of (List.mem_of_getElem? (i := 496) (by decide +kernel)) rfl
theorem wS_X5_forgetReached : Cond.selects RX5 yX5_forgetReached yX5_forgetReached ∈ gw := gw_of (List.mem_of_getElem? (i := 497) (by decide +kernel)) rfl
theorem wC_X5_reachFromRoots : Cond.code yX5_reachFromRoots cX5_reachFromRoots 2 none ∈ gw := gw_of (List.mem_of_getElem? (i := 506) (by decide +kernel)) rfl
theorem wV_X5_reachFromRoots : Cond.instanceMethod yX5_reachFromRoots ∈ gw := gw_of (List.mem_of_getElem? (i := 504) (by decide +kernel)) rfl
theorem wS_X5_reachFromRoots : Cond.selects RX5 yX5_reachFromRoots yX5_reachFromRoots ∈ gw := gw_of (List.mem_of_getElem? (i := 505) (by decide +kernel)) rfl
theorem wC_X5_reachFromBlock : Cond.code yX5_reachFromBlock cX5_reachFromBlock 4 none ∈ gw := gw_of (List.mem_of_getElem? (i := 518) (by decide +kernel)) rfl
theorem wV_X5_reachFromBlock : Cond.instanceMethod yX5_reachFromBlock ∈ gw := gw_of (List.mem_of_getElem? (i := 516) (by decide +kernel)) rfl
theorem wS_X5_reachFromBlock : Cond.selects RX5 yX5_reachFromBlock yX5_reachFromBlock ∈ gw := gw_of (List.mem_of_getElem? (i := 517) (by decide +kernel)) rfl
theorem wC_X5_reach : Cond.code yX5_reach cX5_reach 2 none ∈ gw := gw_of (List.mem_of_getElem? (i := 514) (by decide +kernel)) rfl
theorem wV_X5_reach : Cond.instanceMethod yX5_reach ∈ gw := gw_of (List.mem_of_getElem? (i := 512) (by decide +kernel)) rfl
theorem wS_X5_reach : Cond.selects RX5 yX5_reach yX5_reach ∈ gw := gw_of (List.mem_of_getElem? (i := 513) (by decide +kernel)) rfl
theorem wC_X5_keepLost : Cond.code yX5_keepLost cX5_keepLost 3 none ∈ gw := gw_of (List.mem_of_getElem? (i := 527) (by decide +kernel)) rfl
theorem wV_X5_keepLost : Cond.instanceMethod yX5_keepLost ∈ gw := gw_of (List.mem_of_getElem? (i := 525) (by decide +kernel)) rfl
theorem wS_X5_keepLost : Cond.selects RX5 yX5_keepLost yX5_keepLost ∈ gw := gw_of (List.mem_of_getElem? (i := 526) (by decide +kernel)) rfl
theorem wC_X5_unmarkHeads : Cond.code yX5_unmarkHeads cX5_unmarkHeads 5 none ∈ gw := gw_of (List.mem_of_getElem? (i := 531) (by decide +kernel)) rfl
theorem wV_X5_unmarkHeads : Cond.instanceMethod yX5_unmarkHeads ∈ gw := gw_of (List.mem_of_getElem? (i := 529) (by decide +kernel)) rfl
theorem wS_X5_unmarkHeads : Cond.selects RX5 yX5_unmarkHeads yX5_unmarkHeads ∈ gw := gw_of (List.mem_of_getElem? (i := 530) (by decide +kernel)) rfl
theorem wC_X6_init : Cond.code yX6_init cX6_init 2 none ∈ gw := gw_of (List.mem_of_getElem? (i := 70) (by decide +kernel)) rfl
theorem wV_X6_init : Cond.instanceMethod yX6_init ∈ gw := gw_of (List.mem_of_getElem? (i := 69) (by decide +kernel)) rfl
theorem wC_X6_has : Cond.code yX6_has cX6_has 2 (some .boolean) ∈ gw := gw_of (List.mem_of_getElem? (i := 388) (by decide +kernel)) rfl
theorem wV_X6_has : Cond.instanceMethod yX6_has ∈ gw := gw_of (List.mem_of_getElem? (i := 386) (by decide +kernel)) rfl
theorem wS_X6_has : Cond.selects RX6 yX6_has yX6_has ∈ gw := gw_of (List.mem_of_getElem? (i := 387) (by decide +kernel)) rfl
theorem wC_X6_read : Cond.code yX6_read cX6_read 2 (some .int) ∈ gw := gw_of (List.mem_of_getElem? (i := 456) (by decide +kernel)) rfl
theorem wV_X6_read : Cond.instanceMethod yX6_read ∈ gw := gw_of (List.mem_of_getElem? (i := 454) (by decide +kernel)) rfl
theorem wS_X6_read : Cond.selects RX6 yX6_read yX6_read ∈ gw := gw_of (List.mem_of_getElem? (i := 455) (by decide +kernel)) rfl
theorem wC_X6_write : Cond.code yX6_write cX6_write 3 none ∈ gw := gw_of (List.mem_of_getElem? (i := 384) (by decide +kernel)) rfl
theorem wV_X6_write : Cond.instanceMethod yX6_write ∈ gw := gw_of (List.mem_of_getElem? (i := 382) (by decide +kernel)) rfl
theorem wS_X6_write : Cond.selects RX6 yX6_write yX6_write ∈ gw := gw_of (List.mem_of_getElem? (i := 383) (by decide +kernel)) rfl
theorem wC_X6_clear : Cond.code yX6_clear cX6_clear 4 none ∈ gw := gw_of (List.mem_of_getElem? (i := 380) (by decide +kernel)) rfl
theorem wV_X6_clear : Cond.instanceMethod yX6_clear ∈ gw := gw_of (List.mem_of_getElem? (i := 378) (by decide +kernel)) rfl
theorem wS_X6_clear : Cond.selects RX6 yX6_clear yX6_clear ∈ gw := gw_of (List.mem_of_getElem? (i := 379) (by decide +kernel)) rfl
theorem wC_X6_move : Cond.code yX6_move cX6_move 4 none ∈ gw := gw_of (List.mem_of_getElem? (i := 436) (by decide +kernel)) rfl
theorem wV_X6_move : Cond.instanceMethod yX6_move ∈ gw := gw_of (List.mem_of_getElem? (i := 434) (by decide +kernel)) rfl
theorem wS_X6_move : Cond.selects RX6 yX6_move yX6_move ∈ gw := gw_of (List.mem_of_getElem? (i := 435) (by decide +kernel)) rfl
theorem wC_X7_init : Cond.code yX7_init cX7_init 1 none ∈ gw := gw_of (List.mem_of_getElem? (i := 154) (by decide +kernel)) rfl
theorem wV_X7_init : Cond.instanceMethod yX7_init ∈ gw := gw_of (List.mem_of_getElem? (i := 153) (by decide +kernel)) rfl
theorem wC_X7_add : Cond.code yX7_add cX7_add 2 none ∈ gw := gw_of (List.mem_of_getElem? (i := 428) (by decide +kernel)) rfl
theorem wV_X7_add : Cond.instanceMethod yX7_add ∈ gw := gw_of (List.mem_of_getElem? (i := 426) (by decide +kernel)) rfl
theorem wS_X7_add : Cond.selects RX7 yX7_add yX7_add ∈ gw := gw_of (List.mem_of_getElem? (i := 427) (by decide +kernel)) rfl
theorem wC_X7_takeFirst : Cond.code yX7_takeFirst cX7_takeFirst 2 (some (.object "GuardHeap$Block")) ∈ gw := gw_of (List.mem_of_getElem? (i := 318) (by decide +kernel)) rfl
theorem wV_X7_takeFirst : Cond.instanceMethod yX7_takeFirst ∈ gw := gw_of (List.mem_of_getElem? (i := 316) (by decide +kernel)) rfl
theorem wS_X7_takeFirst : Cond.selects RX7 yX7_takeFirst yX7_takeFirst ∈ gw := gw_of (List.mem_of_getElem? (i := 317) (by decide +kernel)) rfl
theorem wC_X7_behindFirst : Cond.code yX7_behindFirst cX7_behindFirst 4 (some (.object "GuardHeap$Block")) ∈ gw := gw_of (List.mem_of_getElem? (i := 583) (by decide +kernel)) rfl
theorem wV_X7_behindFirst : Cond.instanceMethod yX7_behindFirst ∈ gw := gw_of (List.mem_of_getElem? (i := 581) (by decide +kernel)) rfl
theorem wS_X7_behindFirst : Cond.selects RX7 yX7_behindFirst yX7_behindFirst ∈ gw := gw_of (List.mem_of_getElem? (i := 582) (by decide +kernel)) rfl
theorem wC_X8_init : Cond.code yX8_init cX8_init 5 none ∈ gw := gw_of (List.mem_of_getElem? (i := 53) (by decide +kernel)) rfl
theorem wV_X8_init : Cond.instanceMethod yX8_init ∈ gw := gw_of (List.mem_of_getElem? (i := 52) (by decide +kernel)) rfl
theorem wC_X8_alloc : Cond.code yX8_alloc cX8_alloc 3 (some .int) ∈ gw := gw_of (List.mem_of_getElem? (i := 260) (by decide +kernel)) rfl
theorem wV_X8_alloc : Cond.instanceMethod yX8_alloc ∈ gw := gw_of (List.mem_of_getElem? (i := 258) (by decide +kernel)) rfl
theorem wS_X8_alloc : Cond.selects RX8 yX8_alloc yX8_alloc ∈ gw := gw_of (List.mem_of_getElem? (i := 259) (by decide +kernel)) rfl
theorem wC_X8_free : Cond.code yX8_free cX8_free 3 (some .int) ∈ gw := gw_of (List.mem_of_getElem? (i := 396) (by decide +kernel)) rfl
theorem wV_X8_free : Cond.instanceMethod yX8_free ∈ gw := gw_of (List.mem_of_getElem? (i := 394) (by decide +kernel)) rfl
theorem wS_X8_free : Cond.selects RX8 yX8_free yX8_free ∈ gw := gw_of (List.mem_of_getElem? (i := 395) (by decide +kernel)) rfl
theorem wC_X8_resize : Cond.code yX8_resize cX8_resize 5 (some .int) ∈ gw := gw_of (List.mem_of_getElem? (i := 432) (by decide +kernel)) rfl
theorem wV_X8_resize : Cond.instanceMethod yX8_resize ∈ gw := gw_of (List.mem_of_getElem? (i := 430) (by decide +kernel)) rfl
theorem wS_X8_resize : Cond.selects RX8 yX8_resize yX8_resize ∈ gw := gw_of (List.mem_of_getElem? (i := 431) (by decide +kernel)) rfl
theorem wC_X8_load : Cond.code yX8_load cX8_load 3 (some .int) ∈ gw := gw_of (List.mem_of_getElem? (i := 444) (by decide +kernel)) rfl
theorem wV_X8_load : Cond.instanceMethod yX8_load ∈ gw := gw_of (List.mem_of_getElem? (i := 442) (by decide +kernel)) rfl
theorem wS_X8_load : Cond.selects RX8 yX8_load yX8_load ∈ gw := gw_of (List.mem_of_getElem? (i := 443) (by decide +kernel)) rfl
theorem wC_X8_store : Cond.code yX8_store cX8_store 4 (some .int) ∈ gw := gw_of (List.mem_of_getElem? (i := 460) (by decide +kernel)) rfl
theorem wV_X8_store : Cond.instanceMethod yX8_store ∈ gw := gw_of (List.mem_of_getElem? (i := 458) (by decide +kernel)) rfl
theorem wS_X8_store : Cond.selects RX8 yX8_store yX8_store ∈ gw := gw_of (List.mem_of_getElem? (i := 459) (by decide +kernel)) rfl
theorem wC_X8_check : Cond.code yX8_check cX8_check 2 (some .int) ∈ gw := gw_of (List.mem_of_getElem? (i := 465) (by decide +kernel)) rfl
theorem wV_X8_check : Cond.instanceMethod yX8_check ∈ gw := gw_of (List.mem_of_getElem? (i := 463) (by decide +kernel)) rfl
theorem wS_X8_check : Cond.selects RX8 yX8_check yX8_check ∈ gw := gw_of (List.mem_of_getElem? (i := 464) (by decide +kernel)) rfl
theorem wC_X8_copy : Cond.code yX8_copy cX8_copy 6 (some .int) ∈ gw := gw_of (List.mem_of_getElem? (i := 469) (by decide +kernel)) rfl
theorem wV_X8_copy : Cond.instanceMethod yX8_copy ∈ gw := gw_of (List.mem_of_getElem? (i := 467) (by decide +kernel)) rfl
theorem wS_X8_copy : Cond.selects RX8 yX8_copy yX8_copy ∈ gw := gw_of (List.mem_of_getElem? (i := 468) (by decide +kernel)) rfl
theorem wC_X8_sizeOf : Cond.code yX8_sizeOf cX8_sizeOf 3 (some .int) ∈ gw := gw_of (List.mem_of_getElem? (i := 482) (by decide +kernel)) rfl
theorem wV_X8_sizeOf : Cond.instanceMethod yX8_sizeOf ∈ gw := gw_of (List.mem_of_getElem? (i := 480) (by decide +kernel)) rfl
theorem wS_X8_sizeOf : Cond.selects RX8 yX8_sizeOf yX8_sizeOf ∈ gw := gw_of (List.mem_of_getElem? (i := 481) (by decide +kernel)) rfl
theorem wC_X8_describe : Cond.code yX8_describe cX8_describe 4 (some .int) ∈ gw := gw_of (List.mem_of_getElem? (i := 594) (by decide +kernel)) rfl
theorem wV_X8_describe : Cond.instanceMethod yX8_describe ∈ gw := gw_of (List.mem_of_getElem? (i := 592) (by decide +kernel)) rfl
theorem wS_X8_describe : Cond.selects RX8 yX8_describe yX8_describe ∈ gw := gw_of (List.mem_of_getElem? (i := 593) (by decide +kernel)) rfl
theorem wC_X8_setRoot : Cond.code yX8_setRoot cX8_setRoot 3 (some .boolean) ∈ gw := gw_of (List.mem_of_getElem? (i := 486) (by decide +kernel)) rfl
theorem wV_X8_setRoot : Cond.instanceMethod yX8_setRoot ∈ gw := gw_of (List.mem_of_getElem? (i := 484) (by decide +kernel)) rfl
theorem wS_X8_setRoot : Cond.selects RX8 yX8_setRoot yX8_setRoot ∈ gw := gw_of (List.mem_of_getElem? (i := 485) (by decide +kernel)) rfl
theorem wC_X8_leakScan : Cond.code yX8_leakScan cX8_leakScan 1 (some .int) ∈ gw := gw_of (List.mem_of_getElem? (i := 490) (by decide +kernel)) rfl
theorem wV_X8_leakScan : Cond.instanceMethod yX8_leakScan ∈ gw := gw_of (List.mem_of_getElem? (i := 488) (by decide +kernel)) rfl
theorem wS_X8_leakScan : Cond.selects RX8 yX8_leakScan yX8_leakScan ∈ gw := gw_of (List.mem_of_getElem? (i := 489) (by decide +kernel)) rfl
theorem wC_X8_leak : Cond.code yX8_leak cX8_leak 4 (some .int) ∈ gw := gw_of (List.mem_of_getElem? (i := 535) (by decide +kernel)) rfl
theorem wV_X8_leak : Cond.instanceMethod yX8_leak ∈ gw := gw_of (List.mem_of_getElem? (i := 533) (by decide +kernel)) rfl
theorem wS_X8_leak : Cond.selects RX8 yX8_leak yX8_leak ∈ gw := gw_of (List.mem_of_getElem? (i := 534) (by decide +kernel)) rfl
theorem wC_X8_pointers : Cond.code yX8_pointers cX8_pointers 1 (some .int) ∈ gw := gw_of (List.mem_of_getElem? (i := 543) (by decide +kernel)) rfl
theorem wV_X8_pointers : Cond.instanceMethod yX8_pointers ∈ gw := gw_of (List.mem_of_getElem? (i := 541) (by decide +kernel)) rfl
theorem wS_X8_pointers : Cond.selects RX8 yX8_pointers yX8_pointers ∈ gw := gw_of (List.mem_of_getElem? (i := 542) (by decide +kernel)) rfl
theorem wC_X8_count : Cond.code yX8_count cX8_count 2 (some .int) ∈ gw := gw_of (List.mem_of_getElem? (i := 555) (by decide +kernel)) rfl
theorem wV_X8_count : Cond.instanceMethod yX8_count ∈ gw := gw_of (List.mem_of_getElem? (i := 553) (by decide +kernel)) rfl
theorem wS_X8_count : Cond.selects RX8 yX8_count yX8_count ∈ gw := gw_of (List.mem_of_getElem? (i := 554) (by decide +kernel)) rfl
theorem wC_X8_freeMany : Cond.code yX8_freeMany cX8_freeMany 2 (some .int) ∈ gw := gw_of (List.mem_of_getElem? (i := 559) (by decide +kernel)) rfl
theorem wV_X8_freeMany : Cond.instanceMethod yX8_freeMany ∈ gw := gw_of (List.mem_of_getElem? (i := 557) (by decide +kernel)) rfl
theorem wS_X8_freeMany : Cond.selects RX8 yX8_freeMany yX8_freeMany ∈ gw := gw_of (List.mem_of_getElem? (i := 558) (by decide +kernel)) rfl
theorem wC_X8_freeAt : Cond.code yX8_freeAt cX8_freeAt 3 (some .int) ∈ gw := gw_of (List.mem_of_getElem? (i := 571) (by decide +kernel)) rfl
theorem wV_X8_freeAt : Cond.instanceMethod yX8_freeAt ∈ gw := gw_of (List.mem_of_getElem? (i := 569) (by decide +kernel)) rfl
theorem wS_X8_freeAt : Cond.selects RX8 yX8_freeAt yX8_freeAt ∈ gw := gw_of (List.mem_of_getElem? (i := 570) (by decide +kernel)) rfl
theorem wC_X8_waiting : Cond.code yX8_waiting cX8_waiting 3 (some .int) ∈ gw := gw_of (List.mem_of_getElem? (i := 579) (by decide +kernel)) rfl
theorem wV_X8_waiting : Cond.instanceMethod yX8_waiting ∈ gw := gw_of (List.mem_of_getElem? (i := 577) (by decide +kernel)) rfl
theorem wS_X8_waiting : Cond.selects RX8 yX8_waiting yX8_waiting ∈ gw := gw_of (List.mem_of_getElem? (i := 578) (by decide +kernel)) rfl
theorem wC_X8_fault : Cond.code yX8_fault cX8_fault 3 (some .int) ∈ gw := gw_of (List.mem_of_getElem? (i := 668) (by decide +kernel)) rfl
theorem wV_X8_fault : Cond.instanceMethod yX8_fault ∈ gw := gw_of (List.mem_of_getElem? (i := 666) (by decide +kernel)) rfl
theorem wS_X8_fault : Cond.selects RX8 yX8_fault yX8_fault ∈ gw := gw_of (List.mem_of_getElem? (i := 667) (by decide +kernel)) rfl
theorem wC_X8_nearest : Cond.code yX8_nearest cX8_nearest 3 (some .int) ∈ gw := gw_of (List.mem_of_getElem? (i := 59) (by decide +kernel)) rfl
theorem wT_X8_nearest : Cond.static yX8_nearest ∈ gw := gw_of (List.mem_of_getElem? (i := 58) (by decide +kernel)) rfl
theorem wC_X8_needed : Cond.code yX8_needed cX8_needed 3 (some .int) ∈ gw := gw_of (List.mem_of_getElem? (i := 268) (by decide +kernel)) rfl
theorem wV_X8_needed : Cond.instanceMethod yX8_needed ∈ gw := gw_of (List.mem_of_getElem? (i := 267) (by decide +kernel)) rfl
theorem wS_X8_needed : Cond.selects RX8 yX8_needed yX8_needed ∈ gw := gw_of (List.mem_of_getElem? (i := 1) (by decide +kernel)) rfl
theorem wC_X8_give : Cond.code yX8_give cX8_give 5 (some (.object "GuardHeap$Block")) ∈ gw := gw_of (List.mem_of_getElem? (i := 264) (by decide +kernel)) rfl
theorem wV_X8_give : Cond.instanceMethod yX8_give ∈ gw := gw_of (List.mem_of_getElem? (i := 263) (by decide +kernel)) rfl
theorem wS_X8_give : Cond.selects RX8 yX8_give yX8_give ∈ gw := gw_of (List.mem_of_getElem? (i := 0) (by decide +kernel)) rfl
theorem wC_X8_putIntoQueue : Cond.code yX8_putIntoQueue cX8_putIntoQueue 3 none ∈ gw := gw_of (List.mem_of_getElem? (i := 424) (by decide +kernel)) rfl
theorem wV_X8_putIntoQueue : Cond.instanceMethod yX8_putIntoQueue ∈ gw := gw_of (List.mem_of_getElem? (i := 423) (by decide +kernel)) rfl
theorem wS_X8_putIntoQueue : Cond.selects RX8 yX8_putIntoQueue yX8_putIntoQueue ∈ gw := gw_of (List.mem_of_getElem? (i := 4) (by decide +kernel)) rfl
theorem wC_X8_letLongestGo : Cond.code yX8_letLongestGo cX8_letLongestGo 2 none ∈ gw := gw_of (List.mem_of_getElem? (i := 314) (by decide +kernel)) rfl
theorem wV_X8_letLongestGo : Cond.instanceMethod yX8_letLongestGo ∈ gw := gw_of (List.mem_of_getElem? (i := 313) (by decide +kernel)) rfl
theorem wS_X8_letLongestGo : Cond.selects RX8 yX8_letLongestGo yX8_letLongestGo ∈ gw := gw_of (List.mem_of_getElem? (i := 2) (by decide +kernel)) rfl
theorem wC_X8_keepStartFault : Cond.code yX8_keepStartFault cX8_keepStartFault 3 (some .int) ∈ gw := gw_of (List.mem_of_getElem? (i := 412) (by decide +kernel)) rfl
theorem wV_X8_keepStartFault : Cond.instanceMethod yX8_keepStartFault ∈ gw := gw_of (List.mem_of_getElem? (i := 411) (by decide +kernel)) rfl
theorem wS_X8_keepStartFault : Cond.selects RX8 yX8_keepStartFault yX8_keepStartFault ∈ gw := gw_of (List.mem_of_getElem? (i := 3) (by decide +kernel)) rfl
theorem wC_X8_keepCopyFault : Cond.code yX8_keepCopyFault cX8_keepCopyFault 3 (some .int) ∈ gw := gw_of (List.mem_of_getElem? (i := 478) (by decide +kernel)) rfl
theorem wV_X8_keepCopyFault : Cond.instanceMethod yX8_keepCopyFault ∈ gw := gw_of (List.mem_of_getElem? (i := 477) (by decide +kernel)) rfl
theorem wS_X8_keepCopyFault : Cond.selects RX8 yX8_keepCopyFault yX8_keepCopyFault ∈ gw := gw_of (List.mem_of_getElem? (i := 5) (by decide +kernel)) rfl
theorem wC_X9_near : Cond.code yX9_near cX9_near 3 (some .int) ∈ gw := gw_of (List.mem_of_getElem? (i := 694) (by decide +kernel)) rfl
theorem wT_X9_near : Cond.static yX9_near ∈ gw := gw_of (List.mem_of_getElem? (i := 693) (by decide +kernel)) rfl
theorem wC_X9_init : Cond.code yX9_init cX9_init 4 none ∈ gw := gw_of (List.mem_of_getElem? (i := 690) (by decide +kernel)) rfl
theorem wV_X9_init : Cond.instanceMethod yX9_init ∈ gw := gw_of (List.mem_of_getElem? (i := 689) (by decide +kernel)) rfl
theorem wC_X9_thrown : Cond.code yX9_thrown cX9_thrown 1 (some .int) ∈ gw := gw_of (List.mem_of_getElem? (i := 799) (by decide +kernel)) rfl
theorem wV_X9_thrown : Cond.instanceMethod yX9_thrown ∈ gw := gw_of (List.mem_of_getElem? (i := 797) (by decide +kernel)) rfl
theorem wS_X9_thrown : Cond.selects RX9 yX9_thrown yX9_thrown ∈ gw := gw_of (List.mem_of_getElem? (i := 798) (by decide +kernel)) rfl
theorem wC_X9_start : Cond.code yX9_start cX9_start 2 (some .int) ∈ gw := gw_of (List.mem_of_getElem? (i := 867) (by decide +kernel)) rfl
theorem wV_X9_start : Cond.instanceMethod yX9_start ∈ gw := gw_of (List.mem_of_getElem? (i := 866) (by decide +kernel)) rfl
theorem wS_X9_start : Cond.selects RX9 yX9_start yX9_start ∈ gw := gw_of (List.mem_of_getElem? (i := 20) (by decide +kernel)) rfl
theorem wC_X9_isLive : Cond.code yX9_isLive cX9_isLive 2 (some .boolean) ∈ gw := gw_of (List.mem_of_getElem? (i := 847) (by decide +kernel)) rfl
theorem wV_X9_isLive : Cond.instanceMethod yX9_isLive ∈ gw := gw_of (List.mem_of_getElem? (i := 846) (by decide +kernel)) rfl
theorem wS_X9_isLive : Cond.selects RX9 yX9_isLive yX9_isLive ∈ gw := gw_of (List.mem_of_getElem? (i := 16) (by decide +kernel)) rfl
theorem wC_X9_blockOf : Cond.code yX9_blockOf cX9_blockOf 3 (some .int) ∈ gw := gw_of (List.mem_of_getElem? (i := 899) (by decide +kernel)) rfl
theorem wV_X9_blockOf : Cond.instanceMethod yX9_blockOf ∈ gw := gw_of (List.mem_of_getElem? (i := 898) (by decide +kernel)) rfl
theorem wS_X9_blockOf : Cond.selects RX9 yX9_blockOf yX9_blockOf ∈ gw := gw_of (List.mem_of_getElem? (i := 26) (by decide +kernel)) rfl
theorem wC_X9_startsAt : Cond.code yX9_startsAt cX9_startsAt 3 (some .int) ∈ gw := gw_of (List.mem_of_getElem? (i := 863) (by decide +kernel)) rfl
theorem wV_X9_startsAt : Cond.instanceMethod yX9_startsAt ∈ gw := gw_of (List.mem_of_getElem? (i := 862) (by decide +kernel)) rfl
theorem wS_X9_startsAt : Cond.selects RX9 yX9_startsAt yX9_startsAt ∈ gw := gw_of (List.mem_of_getElem? (i := 19) (by decide +kernel)) rfl
theorem wC_X9_sortOf : Cond.code yX9_sortOf cX9_sortOf 3 (some .int) ∈ gw := gw_of (List.mem_of_getElem? (i := 895) (by decide +kernel)) rfl
theorem wV_X9_sortOf : Cond.instanceMethod yX9_sortOf ∈ gw := gw_of (List.mem_of_getElem? (i := 894) (by decide +kernel)) rfl
theorem wS_X9_sortOf : Cond.selects RX9 yX9_sortOf yX9_sortOf ∈ gw := gw_of (List.mem_of_getElem? (i := 25) (by decide +kernel)) rfl
theorem wC_X9_drop : Cond.code yX9_drop cX9_drop 2 none ∈ gw := gw_of (List.mem_of_getElem? (i := 851) (by decide +kernel)) rfl
theorem wV_X9_drop : Cond.instanceMethod yX9_drop ∈ gw := gw_of (List.mem_of_getElem? (i := 850) (by decide +kernel)) rfl
theorem wS_X9_drop : Cond.selects RX9 yX9_drop yX9_drop ∈ gw := gw_of (List.mem_of_getElem? (i := 17) (by decide +kernel)) rfl
theorem wC_X9_faulty : Cond.code yX9_faulty cX9_faulty 3 none ∈ gw := gw_of (List.mem_of_getElem? (i := 875) (by decide +kernel)) rfl
theorem wV_X9_faulty : Cond.instanceMethod yX9_faulty ∈ gw := gw_of (List.mem_of_getElem? (i := 874) (by decide +kernel)) rfl
theorem wS_X9_faulty : Cond.selects RX9 yX9_faulty yX9_faulty ∈ gw := gw_of (List.mem_of_getElem? (i := 22) (by decide +kernel)) rfl
theorem wC_X9_takeFree : Cond.code yX9_takeFree cX9_takeFree 3 none ∈ gw := gw_of (List.mem_of_getElem? (i := 823) (by decide +kernel)) rfl
theorem wV_X9_takeFree : Cond.instanceMethod yX9_takeFree ∈ gw := gw_of (List.mem_of_getElem? (i := 822) (by decide +kernel)) rfl
theorem wS_X9_takeFree : Cond.selects RX9 yX9_takeFree yX9_takeFree ∈ gw := gw_of (List.mem_of_getElem? (i := 10) (by decide +kernel)) rfl
theorem wC_X9_addFree : Cond.code yX9_addFree cX9_addFree 3 none ∈ gw := gw_of (List.mem_of_getElem? (i := 831) (by decide +kernel)) rfl
theorem wV_X9_addFree : Cond.instanceMethod yX9_addFree ∈ gw := gw_of (List.mem_of_getElem? (i := 830) (by decide +kernel)) rfl
theorem wS_X9_addFree : Cond.selects RX9 yX9_addFree yX9_addFree ∈ gw := gw_of (List.mem_of_getElem? (i := 12) (by decide +kernel)) rfl
theorem wC_X9_greatBeside : Cond.code yX9_greatBeside cX9_greatBeside 4 (some .int) ∈ gw := gw_of (List.mem_of_getElem? (i := 835) (by decide +kernel)) rfl
theorem wV_X9_greatBeside : Cond.instanceMethod yX9_greatBeside ∈ gw := gw_of (List.mem_of_getElem? (i := 834) (by decide +kernel)) rfl
theorem wS_X9_greatBeside : Cond.selects RX9 yX9_greatBeside yX9_greatBeside ∈ gw := gw_of (List.mem_of_getElem? (i := 13) (by decide +kernel)) rfl
theorem wC_X9_release : Cond.code yX9_release cX9_release 6 none ∈ gw := gw_of (List.mem_of_getElem? (i := 827) (by decide +kernel)) rfl
theorem wV_X9_release : Cond.instanceMethod yX9_release ∈ gw := gw_of (List.mem_of_getElem? (i := 826) (by decide +kernel)) rfl
theorem wS_X9_release : Cond.selects RX9 yX9_release yX9_release ∈ gw := gw_of (List.mem_of_getElem? (i := 11) (by decide +kernel)) rfl
theorem wC_X9_fits : Cond.code yX9_fits cX9_fits 4 (some .int) ∈ gw := gw_of (List.mem_of_getElem? (i := 819) (by decide +kernel)) rfl
theorem wV_X9_fits : Cond.instanceMethod yX9_fits ∈ gw := gw_of (List.mem_of_getElem? (i := 818) (by decide +kernel)) rfl
theorem wS_X9_fits : Cond.selects RX9 yX9_fits yX9_fits ∈ gw := gw_of (List.mem_of_getElem? (i := 9) (by decide +kernel)) rfl
theorem wC_X9_find : Cond.code yX9_find cX9_find 5 (some .int) ∈ gw := gw_of (List.mem_of_getElem? (i := 815) (by decide +kernel)) rfl
theorem wV_X9_find : Cond.instanceMethod yX9_find ∈ gw := gw_of (List.mem_of_getElem? (i := 814) (by decide +kernel)) rfl
theorem wS_X9_find : Cond.selects RX9 yX9_find yX9_find ∈ gw := gw_of (List.mem_of_getElem? (i := 8) (by decide +kernel)) rfl
theorem wC_X9_longest : Cond.code yX9_longest cX9_longest 3 (some .int) ∈ gw := gw_of (List.mem_of_getElem? (i := 843) (by decide +kernel)) rfl
theorem wV_X9_longest : Cond.instanceMethod yX9_longest ∈ gw := gw_of (List.mem_of_getElem? (i := 842) (by decide +kernel)) rfl
theorem wS_X9_longest : Cond.selects RX9 yX9_longest yX9_longest ∈ gw := gw_of (List.mem_of_getElem? (i := 15) (by decide +kernel)) rfl
theorem wC_X9_oneGoes : Cond.code yX9_oneGoes cX9_oneGoes 4 (some .boolean) ∈ gw := gw_of (List.mem_of_getElem? (i := 839) (by decide +kernel)) rfl
theorem wV_X9_oneGoes : Cond.instanceMethod yX9_oneGoes ∈ gw := gw_of (List.mem_of_getElem? (i := 838) (by decide +kernel)) rfl
theorem wS_X9_oneGoes : Cond.selects RX9 yX9_oneGoes yX9_oneGoes ∈ gw := gw_of (List.mem_of_getElem? (i := 14) (by decide +kernel)) rfl
theorem wC_X9_waits : Cond.code yX9_waits cX9_waits 3 (some .int) ∈ gw := gw_of (List.mem_of_getElem? (i := 883) (by decide +kernel)) rfl
theorem wV_X9_waits : Cond.instanceMethod yX9_waits ∈ gw := gw_of (List.mem_of_getElem? (i := 882) (by decide +kernel)) rfl
theorem wS_X9_waits : Cond.selects RX9 yX9_waits yX9_waits ∈ gw := gw_of (List.mem_of_getElem? (i := 24) (by decide +kernel)) rfl
theorem wC_X9_give : Cond.code yX9_give cX9_give 10 (some .int) ∈ gw := gw_of (List.mem_of_getElem? (i := 807) (by decide +kernel)) rfl
theorem wV_X9_give : Cond.instanceMethod yX9_give ∈ gw := gw_of (List.mem_of_getElem? (i := 806) (by decide +kernel)) rfl
theorem wS_X9_give : Cond.selects RX9 yX9_give yX9_give ∈ gw := gw_of (List.mem_of_getElem? (i := 7) (by decide +kernel)) rfl
theorem wC_X9_setFree : Cond.code yX9_setFree cX9_setFree 3 none ∈ gw := gw_of (List.mem_of_getElem? (i := 879) (by decide +kernel)) rfl
theorem wV_X9_setFree : Cond.instanceMethod yX9_setFree ∈ gw := gw_of (List.mem_of_getElem? (i := 878) (by decide +kernel)) rfl
theorem wS_X9_setFree : Cond.selects RX9 yX9_setFree yX9_setFree ∈ gw := gw_of (List.mem_of_getElem? (i := 23) (by decide +kernel)) rfl
theorem wC_X9_no : Cond.code yX9_no cX9_no 3 (some .int) ∈ gw := gw_of (List.mem_of_getElem? (i := 871) (by decide +kernel)) rfl
theorem wV_X9_no : Cond.instanceMethod yX9_no ∈ gw := gw_of (List.mem_of_getElem? (i := 870) (by decide +kernel)) rfl
theorem wS_X9_no : Cond.selects RX9 yX9_no yX9_no ∈ gw := gw_of (List.mem_of_getElem? (i := 21) (by decide +kernel)) rfl
theorem wC_X9_liveAt : Cond.code yX9_liveAt cX9_liveAt 3 (some .int) ∈ gw := gw_of (List.mem_of_getElem? (i := 859) (by decide +kernel)) rfl
theorem wV_X9_liveAt : Cond.instanceMethod yX9_liveAt ∈ gw := gw_of (List.mem_of_getElem? (i := 858) (by decide +kernel)) rfl
theorem wS_X9_liveAt : Cond.selects RX9 yX9_liveAt yX9_liveAt ∈ gw := gw_of (List.mem_of_getElem? (i := 18) (by decide +kernel)) rfl
theorem wC_X9_alloc : Cond.code yX9_alloc cX9_alloc 2 (some .int) ∈ gw := gw_of (List.mem_of_getElem? (i := 803) (by decide +kernel)) rfl
theorem wV_X9_alloc : Cond.instanceMethod yX9_alloc ∈ gw := gw_of (List.mem_of_getElem? (i := 801) (by decide +kernel)) rfl
theorem wS_X9_alloc : Cond.selects RX9 yX9_alloc yX9_alloc ∈ gw := gw_of (List.mem_of_getElem? (i := 802) (by decide +kernel)) rfl
theorem wC_X9_free : Cond.code yX9_free cX9_free 3 (some .int) ∈ gw := gw_of (List.mem_of_getElem? (i := 855) (by decide +kernel)) rfl
theorem wV_X9_free : Cond.instanceMethod yX9_free ∈ gw := gw_of (List.mem_of_getElem? (i := 853) (by decide +kernel)) rfl
theorem wS_X9_free : Cond.selects RX9 yX9_free yX9_free ∈ gw := gw_of (List.mem_of_getElem? (i := 854) (by decide +kernel)) rfl
theorem wC_X9_resize : Cond.code yX9_resize cX9_resize 7 (some .int) ∈ gw := gw_of (List.mem_of_getElem? (i := 887) (by decide +kernel)) rfl
theorem wV_X9_resize : Cond.instanceMethod yX9_resize ∈ gw := gw_of (List.mem_of_getElem? (i := 885) (by decide +kernel)) rfl
theorem wS_X9_resize : Cond.selects RX9 yX9_resize yX9_resize ∈ gw := gw_of (List.mem_of_getElem? (i := 886) (by decide +kernel)) rfl
theorem wC_X9_load : Cond.code yX9_load cX9_load 3 (some .int) ∈ gw := gw_of (List.mem_of_getElem? (i := 891) (by decide +kernel)) rfl
theorem wV_X9_load : Cond.instanceMethod yX9_load ∈ gw := gw_of (List.mem_of_getElem? (i := 889) (by decide +kernel)) rfl
theorem wS_X9_load : Cond.selects RX9 yX9_load yX9_load ∈ gw := gw_of (List.mem_of_getElem? (i := 890) (by decide +kernel)) rfl
theorem wC_X9_store : Cond.code yX9_store cX9_store 4 (some .int) ∈ gw := gw_of (List.mem_of_getElem? (i := 903) (by decide +kernel)) rfl
theorem wV_X9_store : Cond.instanceMethod yX9_store ∈ gw := gw_of (List.mem_of_getElem? (i := 901) (by decide +kernel)) rfl
theorem wS_X9_store : Cond.selects RX9 yX9_store yX9_store ∈ gw := gw_of (List.mem_of_getElem? (i := 902) (by decide +kernel)) rfl
theorem wC_X9_check : Cond.code yX9_check cX9_check 2 (some .int) ∈ gw := gw_of (List.mem_of_getElem? (i := 907) (by decide +kernel)) rfl
theorem wV_X9_check : Cond.instanceMethod yX9_check ∈ gw := gw_of (List.mem_of_getElem? (i := 905) (by decide +kernel)) rfl
theorem wS_X9_check : Cond.selects RX9 yX9_check yX9_check ∈ gw := gw_of (List.mem_of_getElem? (i := 906) (by decide +kernel)) rfl
theorem wC_X9_copy : Cond.code yX9_copy cX9_copy 7 (some .int) ∈ gw := gw_of (List.mem_of_getElem? (i := 911) (by decide +kernel)) rfl
theorem wV_X9_copy : Cond.instanceMethod yX9_copy ∈ gw := gw_of (List.mem_of_getElem? (i := 909) (by decide +kernel)) rfl
theorem wS_X9_copy : Cond.selects RX9 yX9_copy yX9_copy ∈ gw := gw_of (List.mem_of_getElem? (i := 910) (by decide +kernel)) rfl
theorem wC_X9_sizeOf : Cond.code yX9_sizeOf cX9_sizeOf 3 (some .int) ∈ gw := gw_of (List.mem_of_getElem? (i := 915) (by decide +kernel)) rfl
theorem wV_X9_sizeOf : Cond.instanceMethod yX9_sizeOf ∈ gw := gw_of (List.mem_of_getElem? (i := 913) (by decide +kernel)) rfl
theorem wS_X9_sizeOf : Cond.selects RX9 yX9_sizeOf yX9_sizeOf ∈ gw := gw_of (List.mem_of_getElem? (i := 914) (by decide +kernel)) rfl
theorem wC_X9_describe : Cond.code yX9_describe cX9_describe 4 (some .int) ∈ gw := gw_of (List.mem_of_getElem? (i := 919) (by decide +kernel)) rfl
theorem wV_X9_describe : Cond.instanceMethod yX9_describe ∈ gw := gw_of (List.mem_of_getElem? (i := 917) (by decide +kernel)) rfl
theorem wS_X9_describe : Cond.selects RX9 yX9_describe yX9_describe ∈ gw := gw_of (List.mem_of_getElem? (i := 918) (by decide +kernel)) rfl
theorem wC_X9_setRoot : Cond.code yX9_setRoot cX9_setRoot 3 (some .boolean) ∈ gw := gw_of (List.mem_of_getElem? (i := 923) (by decide +kernel)) rfl
theorem wV_X9_setRoot : Cond.instanceMethod yX9_setRoot ∈ gw := gw_of (List.mem_of_getElem? (i := 921) (by decide +kernel)) rfl
theorem wS_X9_setRoot : Cond.selects RX9 yX9_setRoot yX9_setRoot ∈ gw := gw_of (List.mem_of_getElem? (i := 922) (by decide +kernel)) rfl
theorem wC_X9_leads : Cond.code yX9_leads cX9_leads 2 (some .int) ∈ gw := gw_of (List.mem_of_getElem? (i := 935) (by decide +kernel)) rfl
theorem wV_X9_leads : Cond.instanceMethod yX9_leads ∈ gw := gw_of (List.mem_of_getElem? (i := 934) (by decide +kernel)) rfl
theorem wS_X9_leads : Cond.selects RX9 yX9_leads yX9_leads ∈ gw := gw_of (List.mem_of_getElem? (i := 28) (by decide +kernel)) rfl
theorem wC_X9_reaches : Cond.code yX9_reaches cX9_reaches 5 none ∈ gw := gw_of (List.mem_of_getElem? (i := 931) (by decide +kernel)) rfl
theorem wV_X9_reaches : Cond.instanceMethod yX9_reaches ∈ gw := gw_of (List.mem_of_getElem? (i := 930) (by decide +kernel)) rfl
theorem wS_X9_reaches : Cond.selects RX9 yX9_reaches yX9_reaches ∈ gw := gw_of (List.mem_of_getElem? (i := 27) (by decide +kernel)) rfl
theorem wC_X9_isHead : Cond.code yX9_isHead cX9_isHead 5 (some .boolean) ∈ gw := gw_of (List.mem_of_getElem? (i := 939) (by decide +kernel)) rfl
theorem wV_X9_isHead : Cond.instanceMethod yX9_isHead ∈ gw := gw_of (List.mem_of_getElem? (i := 938) (by decide +kernel)) rfl
theorem wS_X9_isHead : Cond.selects RX9 yX9_isHead yX9_isHead ∈ gw := gw_of (List.mem_of_getElem? (i := 29) (by decide +kernel)) rfl
theorem wC_X9_leakScan : Cond.code yX9_leakScan cX9_leakScan 3 (some .int) ∈ gw := gw_of (List.mem_of_getElem? (i := 927) (by decide +kernel)) rfl
theorem wV_X9_leakScan : Cond.instanceMethod yX9_leakScan ∈ gw := gw_of (List.mem_of_getElem? (i := 925) (by decide +kernel)) rfl
theorem wS_X9_leakScan : Cond.selects RX9 yX9_leakScan yX9_leakScan ∈ gw := gw_of (List.mem_of_getElem? (i := 926) (by decide +kernel)) rfl
theorem wC_X9_leak : Cond.code yX9_leak cX9_leak 3 (some .int) ∈ gw := gw_of (List.mem_of_getElem? (i := 943) (by decide +kernel)) rfl
theorem wV_X9_leak : Cond.instanceMethod yX9_leak ∈ gw := gw_of (List.mem_of_getElem? (i := 941) (by decide +kernel)) rfl
theorem wS_X9_leak : Cond.selects RX9 yX9_leak yX9_leak ∈ gw := gw_of (List.mem_of_getElem? (i := 942) (by decide +kernel)) rfl
theorem wC_X9_pointers : Cond.code yX9_pointers cX9_pointers 4 (some .int) ∈ gw := gw_of (List.mem_of_getElem? (i := 947) (by decide +kernel)) rfl
theorem wV_X9_pointers : Cond.instanceMethod yX9_pointers ∈ gw := gw_of (List.mem_of_getElem? (i := 945) (by decide +kernel)) rfl
theorem wS_X9_pointers : Cond.selects RX9 yX9_pointers yX9_pointers ∈ gw := gw_of (List.mem_of_getElem? (i := 946) (by decide +kernel)) rfl
theorem wC_X9_lives : Cond.code yX9_lives cX9_lives 4 (some .int) ∈ gw := gw_of (List.mem_of_getElem? (i := 955) (by decide +kernel)) rfl
theorem wV_X9_lives : Cond.instanceMethod yX9_lives ∈ gw := gw_of (List.mem_of_getElem? (i := 954) (by decide +kernel)) rfl
theorem wS_X9_lives : Cond.selects RX9 yX9_lives yX9_lives ∈ gw := gw_of (List.mem_of_getElem? (i := 30) (by decide +kernel)) rfl
theorem wC_X9_freeWords : Cond.code yX9_freeWords cX9_freeWords 3 (some .int) ∈ gw := gw_of (List.mem_of_getElem? (i := 959) (by decide +kernel)) rfl
theorem wV_X9_freeWords : Cond.instanceMethod yX9_freeWords ∈ gw := gw_of (List.mem_of_getElem? (i := 958) (by decide +kernel)) rfl
theorem wS_X9_freeWords : Cond.selects RX9 yX9_freeWords yX9_freeWords ∈ gw := gw_of (List.mem_of_getElem? (i := 31) (by decide +kernel)) rfl
theorem wC_X9_count : Cond.code yX9_count cX9_count 2 (some .int) ∈ gw := gw_of (List.mem_of_getElem? (i := 951) (by decide +kernel)) rfl
theorem wV_X9_count : Cond.instanceMethod yX9_count ∈ gw := gw_of (List.mem_of_getElem? (i := 949) (by decide +kernel)) rfl
theorem wS_X9_count : Cond.selects RX9 yX9_count yX9_count ∈ gw := gw_of (List.mem_of_getElem? (i := 950) (by decide +kernel)) rfl
theorem wC_X9_freeMany : Cond.code yX9_freeMany cX9_freeMany 4 (some .int) ∈ gw := gw_of (List.mem_of_getElem? (i := 963) (by decide +kernel)) rfl
theorem wV_X9_freeMany : Cond.instanceMethod yX9_freeMany ∈ gw := gw_of (List.mem_of_getElem? (i := 961) (by decide +kernel)) rfl
theorem wS_X9_freeMany : Cond.selects RX9 yX9_freeMany yX9_freeMany ∈ gw := gw_of (List.mem_of_getElem? (i := 962) (by decide +kernel)) rfl
theorem wC_X9_freeAt : Cond.code yX9_freeAt cX9_freeAt 6 (some .int) ∈ gw := gw_of (List.mem_of_getElem? (i := 967) (by decide +kernel)) rfl
theorem wV_X9_freeAt : Cond.instanceMethod yX9_freeAt ∈ gw := gw_of (List.mem_of_getElem? (i := 965) (by decide +kernel)) rfl
theorem wS_X9_freeAt : Cond.selects RX9 yX9_freeAt yX9_freeAt ∈ gw := gw_of (List.mem_of_getElem? (i := 966) (by decide +kernel)) rfl
theorem wC_X9_waiting : Cond.code yX9_waiting cX9_waiting 5 (some .int) ∈ gw := gw_of (List.mem_of_getElem? (i := 971) (by decide +kernel)) rfl
theorem wV_X9_waiting : Cond.instanceMethod yX9_waiting ∈ gw := gw_of (List.mem_of_getElem? (i := 969) (by decide +kernel)) rfl
theorem wS_X9_waiting : Cond.selects RX9 yX9_waiting yX9_waiting ∈ gw := gw_of (List.mem_of_getElem? (i := 970) (by decide +kernel)) rfl
theorem wC_X9_fault : Cond.code yX9_fault cX9_fault 5 (some .int) ∈ gw := gw_of (List.mem_of_getElem? (i := 975) (by decide +kernel)) rfl
theorem wV_X9_fault : Cond.instanceMethod yX9_fault ∈ gw := gw_of (List.mem_of_getElem? (i := 973) (by decide +kernel)) rfl
theorem wS_X9_fault : Cond.selects RX9 yX9_fault yX9_fault ∈ gw := gw_of (List.mem_of_getElem? (i := 974) (by decide +kernel)) rfl
theorem wC_J9_floorMod_7cf53 : Cond.code yJ9_floorMod_7cf53 cJ9_floorMod_7cf53 3 (some .int) ∈ gw := gw_of (List.mem_of_getElem? (i := 420) (by decide +kernel)) rfl
theorem wT_J9_floorMod_7cf53 : Cond.static yJ9_floorMod_7cf53 ∈ gw := gw_of (List.mem_of_getElem? (i := 419) (by decide +kernel)) rfl
theorem wC_J9_max_7cf53 : Cond.code yJ9_max_7cf53 cJ9_max_7cf53 2 (some .int) ∈ gw := gw_of (List.mem_of_getElem? (i := 65) (by decide +kernel)) rfl
theorem wT_J9_max_7cf53 : Cond.static yJ9_max_7cf53 ∈ gw := gw_of (List.mem_of_getElem? (i := 64) (by decide +kernel)) rfl
theorem wC_J9_min_7cf53 : Cond.code yJ9_min_7cf53 cJ9_min_7cf53 2 (some .int) ∈ gw := gw_of (List.mem_of_getElem? (i := 62) (by decide +kernel)) rfl
theorem wT_J9_min_7cf53 : Cond.static yJ9_min_7cf53 ∈ gw := gw_of (List.mem_of_getElem? (i := 61) (by decide +kernel)) rfl
theorem wC_L_cell : Cond.code yL_cell cL_cell 2 (some .int) ∈ gw := gw_of (List.mem_of_getElem? (i := 586) (by decide +kernel)) rfl
theorem wT_L_cell : Cond.static yL_cell ∈ gw := gw_of (List.mem_of_getElem? (i := 585) (by decide +kernel)) rfl
theorem wI_RJ9 : Cond.initialized RJ9 ∈ gw := gw_of (List.mem_of_getElem? (i := 34) (by decide +kernel)) rfl
theorem wI_RL : Cond.initialized RL ∈ gw := gw_of (List.mem_of_getElem? (i := 32) (by decide +kernel)) rfl
theorem wI_RX0 : Cond.initialized RX0 ∈ gw := gw_of (List.mem_of_getElem? (i := 43) (by decide +kernel)) rfl
theorem wI_RX1 : Cond.initialized RX1 ∈ gw := gw_of (List.mem_of_getElem? (i := 38) (by decide +kernel)) rfl
theorem wI_RX2 : Cond.initialized RX2 ∈ gw := gw_of (List.mem_of_getElem? (i := 37) (by decide +kernel)) rfl
theorem wI_RX3 : Cond.initialized RX3 ∈ gw := gw_of (List.mem_of_getElem? (i := 36) (by decide +kernel)) rfl
theorem wI_RX4 : Cond.initialized RX4 ∈ gw := gw_of (List.mem_of_getElem? (i := 40) (by decide +kernel)) rfl
theorem wI_RX5 : Cond.initialized RX5 ∈ gw := gw_of (List.mem_of_getElem? (i := 41) (by decide +kernel)) rfl
theorem wI_RX6 : Cond.initialized RX6 ∈ gw := gw_of (List.mem_of_getElem? (i := 35) (by decide +kernel)) rfl
theorem wI_RX7 : Cond.initialized RX7 ∈ gw := gw_of (List.mem_of_getElem? (i := 39) (by decide +kernel)) rfl
theorem wI_RX8 : Cond.initialized RX8 ∈ gw := gw_of (List.mem_of_getElem? (i := 33) (by decide +kernel)) rfl
theorem wI_RX9 : Cond.initialized RX9 ∈ gw := gw_of (List.mem_of_getElem? (i := 42) (by decide +kernel)) rfl
theorem wK_RL_8 : Cond.classLink RL 8 RX8 ∈ gw := gw_of (List.mem_of_getElem? (i := 49) (by decide +kernel)) rfl
theorem wK_RL_27 : Cond.classLink RL 27 RX9 ∈ gw := gw_of (List.mem_of_getElem? (i := 686) (by decide +kernel)) rfl
theorem wK_RX1_9 : Cond.classLink RX1 9 RX0 ∈ gw := gw_of (List.mem_of_getElem? (i := 143) (by decide +kernel)) rfl
theorem wK_RX3_15 : Cond.classLink RX3 15 RX2 ∈ gw := gw_of (List.mem_of_getElem? (i := 84) (by decide +kernel)) rfl
theorem wK_RX5_27 : Cond.classLink RX5 27 RX0 ∈ gw := gw_of (List.mem_of_getElem? (i := 194) (by decide +kernel)) rfl
theorem wK_RX8_13 : Cond.classLink RX8 13 RX6 ∈ gw := gw_of (List.mem_of_getElem? (i := 66) (by decide +kernel)) rfl
theorem wK_RX8_29 : Cond.classLink RX8 29 RX3 ∈ gw := gw_of (List.mem_of_getElem? (i := 78) (by decide +kernel)) rfl
theorem wK_RX8_36 : Cond.classLink RX8 36 RX1 ∈ gw := gw_of (List.mem_of_getElem? (i := 137) (by decide +kernel)) rfl
theorem wK_RX8_43 : Cond.classLink RX8 43 RX7 ∈ gw := gw_of (List.mem_of_getElem? (i := 150) (by decide +kernel)) rfl
theorem wK_RX8_54 : Cond.classLink RX8 54 RX4 ∈ gw := gw_of (List.mem_of_getElem? (i := 171) (by decide +kernel)) rfl
theorem wK_RX8_61 : Cond.classLink RX8 61 RX5 ∈ gw := gw_of (List.mem_of_getElem? (i := 188) (by decide +kernel)) rfl
theorem wK_RX8_75 : Cond.classLink RX8 75 RX0 ∈ gw := gw_of (List.mem_of_getElem? (i := 329) (by decide +kernel)) rfl
theorem wN_RX0 : Cond.instantiable RX0 9 ∈ gw := gw_of (List.mem_of_getElem? (i := 330) (by decide +kernel)) rfl
theorem wN_RX1 : Cond.instantiable RX1 1 ∈ gw := gw_of (List.mem_of_getElem? (i := 138) (by decide +kernel)) rfl
theorem wN_RX2 : Cond.instantiable RX2 3 ∈ gw := gw_of (List.mem_of_getElem? (i := 86) (by decide +kernel)) rfl
theorem wN_RX3 : Cond.instantiable RX3 9 ∈ gw := gw_of (List.mem_of_getElem? (i := 79) (by decide +kernel)) rfl
theorem wN_RX4 : Cond.instantiable RX4 3 ∈ gw := gw_of (List.mem_of_getElem? (i := 172) (by decide +kernel)) rfl
theorem wN_RX5 : Cond.instantiable RX5 7 ∈ gw := gw_of (List.mem_of_getElem? (i := 189) (by decide +kernel)) rfl
theorem wN_RX6 : Cond.instantiable RX6 1 ∈ gw := gw_of (List.mem_of_getElem? (i := 67) (by decide +kernel)) rfl
theorem wN_RX7 : Cond.instantiable RX7 4 ∈ gw := gw_of (List.mem_of_getElem? (i := 151) (by decide +kernel)) rfl
theorem wN_RX8 : Cond.instantiable RX8 13 ∈ gw := gw_of (List.mem_of_getElem? (i := 50) (by decide +kernel)) rfl
theorem wN_RX9 : Cond.instantiable RX9 33 ∈ gw := gw_of (List.mem_of_getElem? (i := 687) (by decide +kernel)) rfl
theorem wL_142 : Cond.constantLong RX9 142 2 ∈ gw := gw_of (List.mem_of_getElem? (i := 808) (by decide +kernel)) rfl
theorem wL_144 : Cond.constantLong RX9 144 3 ∈ gw := gw_of (List.mem_of_getElem? (i := 809) (by decide +kernel)) rfl
theorem wL_146 : Cond.constantLong RX9 146 4 ∈ gw := gw_of (List.mem_of_getElem? (i := 810) (by decide +kernel)) rfl
theorem wL_148 : Cond.constantLong RX9 148 4000 ∈ gw := gw_of (List.mem_of_getElem? (i := 811) (by decide +kernel)) rfl
theorem wA_int : Cond.arrayClass (newarray.typeOf .int) ∈ gw := gw_of (List.mem_of_getElem? (i := 77) (by decide +kernel)) rfl
theorem wA_boolean : Cond.arrayClass (newarray.typeOf .boolean) ∈ gw := gw_of (List.mem_of_getElem? (i := 795) (by decide +kernel)) rfl
theorem wA_long : Cond.arrayClass (newarray.typeOf .long) ∈ gw := gw_of (List.mem_of_getElem? (i := 976) (by decide +kernel)) rfl
theorem wObjI : Cond.instanceMethod Lib.objectInit ∈ gw := gw_of (List.mem_of_getElem? (i := 55) (by decide +kernel)) rfl
theorem wObjC : Cond.code Lib.objectInit ⟨#[0xb1]⟩ 1 none ∈ gw := gw_of (List.mem_of_getElem? (i := 56) (by decide +kernel)) rfl
abbrev mX0_init : MD := (yX0_init, cX0_init, 6, none)
abbrev mX0_hasWord : MD := (yX0_hasWord, cX0_hasWord, 2, (some .boolean))
abbrev mX1_init : MD := (yX1_init, cX1_init, 2, none)
abbrev mX1_at : MD := (yX1_at, cX1_at, 3, (some (.object "GuardHeap$Block")))
abbrev mX1_startingAt : MD := (yX1_startingAt, cX1_startingAt, 3, (some (.object "GuardHeap$Block")))
abbrev mX1_liveStartingAt : MD := (yX1_liveStartingAt, cX1_liveStartingAt, 3, (some (.object "GuardHeap$Block")))
abbrev mX1_ledToBy : MD := (yX1_ledToBy, cX1_ledToBy, 3, (some (.object "GuardHeap$Block")))
abbrev mX1_liveFromUnit : MD := (yX1_liveFromUnit, cX1_liveFromUnit, 4, (some (.object "GuardHeap$Block")))
abbrev mX1_sortOf : MD := (yX1_sortOf, cX1_sortOf, 3, (some .int))
abbrev mX1_ownWordsFrom : MD := (yX1_ownWordsFrom, cX1_ownWordsFrom, 4, (some .int))
abbrev mX1_enter : MD := (yX1_enter, cX1_enter, 2, none)
abbrev mX1_remove : MD := (yX1_remove, cX1_remove, 2, none)
abbrev mX1_fillUnits : MD := (yX1_fillUnits, cX1_fillUnits, 6, none)
abbrev mX2_init : MD := (yX2_init, cX2_init, 3, none)
abbrev mX2_end : MD := (yX2_end, cX2_end, 1, (some .int))
abbrev mX3_init : MD := (yX3_init, cX3_init, 2, none)
abbrev mX3_find : MD := (yX3_find, cX3_find, 3, (some .int))
abbrev mX3_takeFromPiles : MD := (yX3_takeFromPiles, cX3_takeFromPiles, 4, (some (.object "GuardHeap$Chunk")))
abbrev mX3_takeGreat : MD := (yX3_takeGreat, cX3_takeGreat, 4, (some (.object "GuardHeap$Chunk")))
abbrev mX3_takeFromTop : MD := (yX3_takeFromTop, cX3_takeFromTop, 3, (some .int))
abbrev mX3_release : MD := (yX3_release, cX3_release, 3, none)
abbrev mX3_putOnPile : MD := (yX3_putOnPile, cX3_putOnPile, 3, none)
abbrev mX3_releaseGreat : MD := (yX3_releaseGreat, cX3_releaseGreat, 6, none)
abbrev mX3_linkGreat : MD := (yX3_linkGreat, cX3_linkGreat, 4, none)
abbrev mX3_unlinkGreat : MD := (yX3_unlinkGreat, cX3_unlinkGreat, 3, none)
abbrev mX3_chainOf : MD := (yX3_chainOf, cX3_chainOf, 2, (some (.object "GuardHeap$Chunk")))
abbrev mX3_manyOfSize : MD := (yX3_manyOfSize, cX3_manyOfSize, 4, (some .int))
abbrev mX3_addressOfSize : MD := (yX3_addressOfSize, cX3_addressOfSize, 5, (some .int))
abbrev mX4_init : MD := (yX4_init, cX4_init, 1, none)
abbrev mX4_keep : MD := (yX4_keep, cX4_keep, 4, none)
abbrev mX4_has : MD := (yX4_has, cX4_has, 2, (some .boolean))
abbrev mX4_slotOf : MD := (yX4_slotOf, cX4_slotOf, 2, (some .int))
abbrev mX4_kindOf : MD := (yX4_kindOf, cX4_kindOf, 2, (some .int))
abbrev mX4_addressOf : MD := (yX4_addressOf, cX4_addressOf, 2, (some .int))
abbrev mX5_init : MD := (yX5_init, cX5_init, 4, none)
abbrev mX5_run : MD := (yX5_run, cX5_run, 2, (some .int))
abbrev mX5_lostBlock : MD := (yX5_lostBlock, cX5_lostBlock, 2, (some (.object "GuardHeap$Block")))
abbrev mX5_leadingNumbers : MD := (yX5_leadingNumbers, cX5_leadingNumbers, 3, (some .int))
abbrev mX5_leadingWords : MD := (yX5_leadingWords, cX5_leadingWords, 5, (some .int))
abbrev mX5_ledToByWord : MD := (yX5_ledToByWord, cX5_ledToByWord, 3, (some (.object "GuardHeap$Block")))
abbrev mX5_forgetReached : MD := (yX5_forgetReached, cX5_forgetReached, 3, none)
abbrev mX5_reachFromRoots : MD := (yX5_reachFromRoots, cX5_reachFromRoots, 2, none)
abbrev mX5_reachFromBlock : MD := (yX5_reachFromBlock, cX5_reachFromBlock, 4, none)
abbrev mX5_reach : MD := (yX5_reach, cX5_reach, 2, none)
abbrev mX5_keepLost : MD := (yX5_keepLost, cX5_keepLost, 3, none)
abbrev mX5_unmarkHeads : MD := (yX5_unmarkHeads, cX5_unmarkHeads, 5, none)
abbrev mX6_init : MD := (yX6_init, cX6_init, 2, none)
abbrev mX6_has : MD := (yX6_has, cX6_has, 2, (some .boolean))
abbrev mX6_read : MD := (yX6_read, cX6_read, 2, (some .int))
abbrev mX6_write : MD := (yX6_write, cX6_write, 3, none)
abbrev mX6_clear : MD := (yX6_clear, cX6_clear, 4, none)
abbrev mX6_move : MD := (yX6_move, cX6_move, 4, none)
abbrev mX7_init : MD := (yX7_init, cX7_init, 1, none)
abbrev mX7_add : MD := (yX7_add, cX7_add, 2, none)
abbrev mX7_takeFirst : MD := (yX7_takeFirst, cX7_takeFirst, 2, (some (.object "GuardHeap$Block")))
abbrev mX7_behindFirst : MD := (yX7_behindFirst, cX7_behindFirst, 4, (some (.object "GuardHeap$Block")))
abbrev mX8_init : MD := (yX8_init, cX8_init, 5, none)
abbrev mX8_alloc : MD := (yX8_alloc, cX8_alloc, 3, (some .int))
abbrev mX8_free : MD := (yX8_free, cX8_free, 3, (some .int))
abbrev mX8_resize : MD := (yX8_resize, cX8_resize, 5, (some .int))
abbrev mX8_load : MD := (yX8_load, cX8_load, 3, (some .int))
abbrev mX8_store : MD := (yX8_store, cX8_store, 4, (some .int))
abbrev mX8_check : MD := (yX8_check, cX8_check, 2, (some .int))
abbrev mX8_copy : MD := (yX8_copy, cX8_copy, 6, (some .int))
abbrev mX8_sizeOf : MD := (yX8_sizeOf, cX8_sizeOf, 3, (some .int))
abbrev mX8_describe : MD := (yX8_describe, cX8_describe, 4, (some .int))
abbrev mX8_setRoot : MD := (yX8_setRoot, cX8_setRoot, 3, (some .boolean))
abbrev mX8_leakScan : MD := (yX8_leakScan, cX8_leakScan, 1, (some .int))
abbrev mX8_leak : MD := (yX8_leak, cX8_leak, 4, (some .int))
abbrev mX8_pointers : MD := (yX8_pointers, cX8_pointers, 1, (some .int))
abbrev mX8_count : MD := (yX8_count, cX8_count, 2, (some .int))
abbrev mX8_freeMany : MD := (yX8_freeMany, cX8_freeMany, 2, (some .int))
abbrev mX8_freeAt : MD := (yX8_freeAt, cX8_freeAt, 3, (some .int))
abbrev mX8_waiting : MD := (yX8_waiting, cX8_waiting, 3, (some .int))
abbrev mX8_fault : MD := (yX8_fault, cX8_fault, 3, (some .int))
abbrev mX8_nearest : MD := (yX8_nearest, cX8_nearest, 3, (some .int))
abbrev mX8_needed : MD := (yX8_needed, cX8_needed, 3, (some .int))
abbrev mX8_give : MD := (yX8_give, cX8_give, 5, (some (.object "GuardHeap$Block")))
abbrev mX8_putIntoQueue : MD := (yX8_putIntoQueue, cX8_putIntoQueue, 3, none)
abbrev mX8_letLongestGo : MD := (yX8_letLongestGo, cX8_letLongestGo, 2, none)
abbrev mX8_keepStartFault : MD := (yX8_keepStartFault, cX8_keepStartFault, 3, (some .int))
abbrev mX8_keepCopyFault : MD := (yX8_keepCopyFault, cX8_keepCopyFault, 3, (some .int))
abbrev mX9_near : MD := (yX9_near, cX9_near, 3, (some .int))
abbrev mX9_init : MD := (yX9_init, cX9_init, 4, none)
abbrev mX9_thrown : MD := (yX9_thrown, cX9_thrown, 1, (some .int))
abbrev mX9_start : MD := (yX9_start, cX9_start, 2, (some .int))
abbrev mX9_isLive : MD := (yX9_isLive, cX9_isLive, 2, (some .boolean))
abbrev mX9_blockOf : MD := (yX9_blockOf, cX9_blockOf, 3, (some .int))
abbrev mX9_startsAt : MD := (yX9_startsAt, cX9_startsAt, 3, (some .int))
abbrev mX9_sortOf : MD := (yX9_sortOf, cX9_sortOf, 3, (some .int))
abbrev mX9_drop : MD := (yX9_drop, cX9_drop, 2, none)
abbrev mX9_faulty : MD := (yX9_faulty, cX9_faulty, 3, none)
abbrev mX9_takeFree : MD := (yX9_takeFree, cX9_takeFree, 3, none)
abbrev mX9_addFree : MD := (yX9_addFree, cX9_addFree, 3, none)
abbrev mX9_greatBeside : MD := (yX9_greatBeside, cX9_greatBeside, 4, (some .int))
abbrev mX9_release : MD := (yX9_release, cX9_release, 6, none)
abbrev mX9_fits : MD := (yX9_fits, cX9_fits, 4, (some .int))
abbrev mX9_find : MD := (yX9_find, cX9_find, 5, (some .int))
abbrev mX9_longest : MD := (yX9_longest, cX9_longest, 3, (some .int))
abbrev mX9_oneGoes : MD := (yX9_oneGoes, cX9_oneGoes, 4, (some .boolean))
abbrev mX9_waits : MD := (yX9_waits, cX9_waits, 3, (some .int))
abbrev mX9_give : MD := (yX9_give, cX9_give, 10, (some .int))
abbrev mX9_setFree : MD := (yX9_setFree, cX9_setFree, 3, none)
abbrev mX9_no : MD := (yX9_no, cX9_no, 3, (some .int))
abbrev mX9_liveAt : MD := (yX9_liveAt, cX9_liveAt, 3, (some .int))
abbrev mX9_alloc : MD := (yX9_alloc, cX9_alloc, 2, (some .int))
abbrev mX9_free : MD := (yX9_free, cX9_free, 3, (some .int))
abbrev mX9_resize : MD := (yX9_resize, cX9_resize, 7, (some .int))
abbrev mX9_load : MD := (yX9_load, cX9_load, 3, (some .int))
abbrev mX9_store : MD := (yX9_store, cX9_store, 4, (some .int))
abbrev mX9_check : MD := (yX9_check, cX9_check, 2, (some .int))
abbrev mX9_copy : MD := (yX9_copy, cX9_copy, 7, (some .int))
abbrev mX9_sizeOf : MD := (yX9_sizeOf, cX9_sizeOf, 3, (some .int))
abbrev mX9_describe : MD := (yX9_describe, cX9_describe, 4, (some .int))
abbrev mX9_setRoot : MD := (yX9_setRoot, cX9_setRoot, 3, (some .boolean))
abbrev mX9_leads : MD := (yX9_leads, cX9_leads, 2, (some .int))
abbrev mX9_reaches : MD := (yX9_reaches, cX9_reaches, 5, none)
abbrev mX9_isHead : MD := (yX9_isHead, cX9_isHead, 5, (some .boolean))
abbrev mX9_leakScan : MD := (yX9_leakScan, cX9_leakScan, 3, (some .int))
abbrev mX9_leak : MD := (yX9_leak, cX9_leak, 3, (some .int))
abbrev mX9_pointers : MD := (yX9_pointers, cX9_pointers, 4, (some .int))
abbrev mX9_lives : MD := (yX9_lives, cX9_lives, 4, (some .int))
abbrev mX9_freeWords : MD := (yX9_freeWords, cX9_freeWords, 3, (some .int))
abbrev mX9_count : MD := (yX9_count, cX9_count, 2, (some .int))
abbrev mX9_freeMany : MD := (yX9_freeMany, cX9_freeMany, 4, (some .int))
abbrev mX9_freeAt : MD := (yX9_freeAt, cX9_freeAt, 6, (some .int))
abbrev mX9_waiting : MD := (yX9_waiting, cX9_waiting, 5, (some .int))
abbrev mX9_fault : MD := (yX9_fault, cX9_fault, 5, (some .int))
abbrev mJ9_floorMod_7cf53 : MD := (yJ9_floorMod_7cf53, cJ9_floorMod_7cf53, 3, (some .int))
abbrev mJ9_max_7cf53 : MD := (yJ9_max_7cf53, cJ9_max_7cf53, 2, (some .int))
abbrev mJ9_min_7cf53 : MD := (yJ9_min_7cf53, cJ9_min_7cf53, 2, (some .int))
abbrev mL_cell : MD := (yL_cell, cL_cell, 2, (some .int))
abbrev mL_describe : MD := (yL_describe, cL_describe, 5, (some .int))
abbrev mL_fault : MD := (yL_fault, cL_fault, 5, (some .int))
abbrev mL_law : MD := (yL_law, cL_law, 7, (some .boolean))
